theorem dX0_init_0 : decode cX0_init 0 = .ok (.aload_n 0, 1) := by decide +kernel
theorem dX0_init_1 : decode cX0_init 1 = .ok (.iload_n 1, 1) := by decide +kernel
theorem dX0_init_2 : decode cX0_init 2 = .ok (.iload_n 2, 1) := by decide +kernel
theorem dX0_init_3 : decode cX0_init 3 = .ok (.invokespecial 3, 3) := by decide +kernel
theorem dX0_init_6 : decode cX0_init 6 = .ok (.return_, 1) := by decide +kernel
theorem dX0_kind_0 : decode cX0_kind 0 = .ok (.iconst 2, 1) := by decide +kernel
theorem dX0_kind_1 : decode cX0_kind 1 = .ok (.ireturn, 1) := by decide +kernel
theorem dX0_laysInFrost_0 : decode cX0_laysInFrost 0 = .ok (.iload_n 1, 1) := by decide +kernel
theorem dX0_laysInFrost_1 : decode cX0_laysInFrost 1 = .ok (.ireturn, 1) := by decide +kernel
theorem dX1_init_0 : decode cX1_init 0 = .ok (.aload_n 0, 1) := by decide +kernel
theorem dX1_init_1 : decode cX1_init 1 = .ok (.invokespecial 3, 3) := by decide +kernel
theorem dX1_init_4 : decode cX1_init 4 = .ok (.aload_n 0, 1) := by decide +kernel
theorem dX1_init_5 : decode cX1_init 5 = .ok (.sipush 603, 3) := by decide +kernel
theorem dX1_init_8 : decode cX1_init 8 = .ok (.newarray .int, 2) := by decide +kernel
theorem dX1_init_10 : decode cX1_init 10 = .ok (.putfield 11, 3) := by decide +kernel
theorem dX1_init_13 : decode cX1_init 13 = .ok (.aload_n 0, 1) := by decide +kernel
theorem dX1_init_14 : decode cX1_init 14 = .ok (.sipush 603, 3) := by decide +kernel
theorem dX1_init_17 : decode cX1_init 17 = .ok (.newarray .int, 2) := by decide +kernel
theorem dX1_init_19 : decode cX1_init 19 = .ok (.putfield 15, 3) := by decide +kernel
theorem dX1_init_22 : decode cX1_init 22 = .ok (.aload_n 0, 1) := by decide +kernel
theorem dX1_init_23 : decode cX1_init 23 = .ok (.sipush 603, 3) := by decide +kernel
theorem dX1_init_26 : decode cX1_init 26 = .ok (.newarray .int, 2) := by decide +kernel
theorem dX1_init_28 : decode cX1_init 28 = .ok (.putfield 18, 3) := by decide +kernel
theorem dX1_init_31 : decode cX1_init 31 = .ok (.aload_n 0, 1) := by decide +kernel
theorem dX1_init_32 : decode cX1_init 32 = .ok (.sipush 201, 3) := by decide +kernel
theorem dX1_init_35 : decode cX1_init 35 = .ok (.newarray .int, 2) := by decide +kernel
theorem dX1_init_37 : decode cX1_init 37 = .ok (.putfield 21, 3) := by decide +kernel
theorem dX1_init_40 : decode cX1_init 40 = .ok (.aload_n 0, 1) := by decide +kernel
theorem dX1_init_41 : decode cX1_init 41 = .ok (.sipush 201, 3) := by decide +kernel
theorem dX1_init_44 : decode cX1_init 44 = .ok (.newarray .int, 2) := by decide +kernel
theorem dX1_init_46 : decode cX1_init 46 = .ok (.putfield 24, 3) := by decide +kernel
theorem dX1_init_49 : decode cX1_init 49 = .ok (.aload_n 0, 1) := by decide +kernel
theorem dX1_init_50 : decode cX1_init 50 = .ok (.bipush 41, 2) := by decide +kernel
theorem dX1_init_52 : decode cX1_init 52 = .ok (.newarray .int, 2) := by decide +kernel
theorem dX1_init_54 : decode cX1_init 54 = .ok (.putfield 27, 3) := by decide +kernel
theorem dX1_init_57 : decode cX1_init 57 = .ok (.aload_n 0, 1) := by decide +kernel
theorem dX1_init_58 : decode cX1_init 58 = .ok (.sipush 201, 3) := by decide +kernel
theorem dX1_init_61 : decode cX1_init 61 = .ok (.newarray .int, 2) := by decide +kernel
theorem dX1_init_63 : decode cX1_init 63 = .ok (.putfield 30, 3) := by decide +kernel
theorem dX1_init_66 : decode cX1_init 66 = .ok (.return_, 1) := by decide +kernel
theorem dX1_oddsNow_0 : decode cX1_oddsNow 0 = .ok (.aload_n 0, 1) := by decide +kernel
theorem dX1_oddsNow_1 : decode cX1_oddsNow 1 = .ok (.aload_n 1, 1) := by decide +kernel
theorem dX1_oddsNow_2 : decode cX1_oddsNow 2 = .ok (.aload_n 1, 1) := by decide +kernel
theorem dX1_oddsNow_3 : decode cX1_oddsNow 3 = .ok (.getfield 33, 3) := by decide +kernel
theorem dX1_oddsNow_6 : decode cX1_oddsNow 6 = .ok (.aload_n 1, 1) := by decide +kernel
theorem dX1_oddsNow_7 : decode cX1_oddsNow 7 = .ok (.getfield 39, 3) := by decide +kernel
theorem dX1_oddsNow_10 : decode cX1_oddsNow 10 = .ok (.aload_n 1, 1) := by decide +kernel
theorem dX1_oddsNow_11 : decode cX1_oddsNow 11 = .ok (.invokevirtual 42, 3) := by decide +kernel
theorem dX1_oddsNow_14 : decode cX1_oddsNow 14 = .ok (.invokevirtual 46, 3) := by decide +kernel
theorem dX1_oddsNow_17 : decode cX1_oddsNow 17 = .ok (.aload_n 0, 1) := by decide +kernel
theorem dX1_oddsNow_18 : decode cX1_oddsNow 18 = .ok (.aload_n 1, 1) := by decide +kernel
theorem dX1_oddsNow_19 : decode cX1_oddsNow 19 = .ok (.iload_n 2, 1) := by decide +kernel
theorem dX1_oddsNow_20 : decode cX1_oddsNow 20 = .ok (.iload_n 3, 1) := by decide +kernel
theorem dX1_oddsNow_21 : decode cX1_oddsNow 21 = .ok (.invokevirtual 50, 3) := by decide +kernel
theorem dX1_oddsNow_24 : decode cX1_oddsNow 24 = .ok (.aload_n 0, 1) := by decide +kernel
theorem dX1_oddsNow_25 : decode cX1_oddsNow 25 = .ok (.invokevirtual 54, 3) := by decide +kernel
theorem dX1_oddsNow_28 : decode cX1_oddsNow 28 = .ok (.aload_n 0, 1) := by decide +kernel
theorem dX1_oddsNow_29 : decode cX1_oddsNow 29 = .ok (.aload_n 0, 1) := by decide +kernel
theorem dX1_oddsNow_30 : decode cX1_oddsNow 30 = .ok (.getfield 21, 3) := by decide +kernel
theorem dX1_oddsNow_33 : decode cX1_oddsNow 33 = .ok (.aload_n 0, 1) := by decide +kernel
theorem dX1_oddsNow_34 : decode cX1_oddsNow 34 = .ok (.getfield 57, 3) := by decide +kernel
theorem dX1_oddsNow_37 : decode cX1_oddsNow 37 = .ok (.invokevirtual 60, 3) := by decide +kernel
theorem dX1_oddsNow_40 : decode cX1_oddsNow 40 = .ok (.ireturn, 1) := by decide +kernel
theorem dX1_oddsFrom_0 : decode cX1_oddsFrom 0 = .ok (.aload_n 0, 1) := by decide +kernel
theorem dX1_oddsFrom_1 : decode cX1_oddsFrom 1 = .ok (.aload_n 1, 1) := by decide +kernel
theorem dX1_oddsFrom_2 : decode cX1_oddsFrom 2 = .ok (.iload_n 2, 1) := by decide +kernel
theorem dX1_oddsFrom_3 : decode cX1_oddsFrom 3 = .ok (.iload_n 3, 1) := by decide +kernel
theorem dX1_oddsFrom_4 : decode cX1_oddsFrom 4 = .ok (.iconst 0, 1) := by decide +kernel
theorem dX1_oddsFrom_5 : decode cX1_oddsFrom 5 = .ok (.invokevirtual 46, 3) := by decide +kernel
theorem dX1_oddsFrom_8 : decode cX1_oddsFrom 8 = .ok (.aload_n 0, 1) := by decide +kernel
theorem dX1_oddsFrom_9 : decode cX1_oddsFrom 9 = .ok (.aload_n 1, 1) := by decide +kernel
theorem dX1_oddsFrom_10 : decode cX1_oddsFrom 10 = .ok (.iconst (-1), 1) := by decide +kernel
theorem dX1_oddsFrom_11 : decode cX1_oddsFrom 11 = .ok (.iconst 0, 1) := by decide +kernel
theorem dX1_oddsFrom_12 : decode cX1_oddsFrom 12 = .ok (.invokevirtual 50, 3) := by decide +kernel
theorem dX1_oddsFrom_15 : decode cX1_oddsFrom 15 = .ok (.aload_n 0, 1) := by decide +kernel
theorem dX1_oddsFrom_16 : decode cX1_oddsFrom 16 = .ok (.invokevirtual 54, 3) := by decide +kernel
theorem dX1_oddsFrom_19 : decode cX1_oddsFrom 19 = .ok (.aload_n 0, 1) := by decide +kernel
theorem dX1_oddsFrom_20 : decode cX1_oddsFrom 20 = .ok (.aload_n 0, 1) := by decide +kernel
theorem dX1_oddsFrom_21 : decode cX1_oddsFrom 21 = .ok (.getfield 21, 3) := by decide +kernel
theorem dX1_oddsFrom_24 : decode cX1_oddsFrom 24 = .ok (.iconst 0, 1) := by decide +kernel
theorem dX1_oddsFrom_25 : decode cX1_oddsFrom 25 = .ok (.invokevirtual 60, 3) := by decide +kernel
theorem dX1_oddsFrom_28 : decode cX1_oddsFrom 28 = .ok (.ireturn, 1) := by decide +kernel
theorem dX1_firstSureDay_0 : decode cX1_firstSureDay 0 = .ok (.aload_n 0, 1) := by decide +kernel
theorem dX1_firstSureDay_1 : decode cX1_firstSureDay 1 = .ok (.aload_n 1, 1) := by decide +kernel
theorem dX1_firstSureDay_2 : decode cX1_firstSureDay 2 = .ok (.aload_n 1, 1) := by decide +kernel
theorem dX1_firstSureDay_3 : decode cX1_firstSureDay 3 = .ok (.getfield 33, 3) := by decide +kernel
theorem dX1_firstSureDay_6 : decode cX1_firstSureDay 6 = .ok (.aload_n 1, 1) := by decide +kernel
theorem dX1_firstSureDay_7 : decode cX1_firstSureDay 7 = .ok (.getfield 39, 3) := by decide +kernel
theorem dX1_firstSureDay_10 : decode cX1_firstSureDay 10 = .ok (.aload_n 1, 1) := by decide +kernel
theorem dX1_firstSureDay_11 : decode cX1_firstSureDay 11 = .ok (.invokevirtual 42, 3) := by decide +kernel
theorem dX1_firstSureDay_14 : decode cX1_firstSureDay 14 = .ok (.invokevirtual 46, 3) := by decide +kernel
theorem dX1_firstSureDay_17 : decode cX1_firstSureDay 17 = .ok (.aload_n 0, 1) := by decide +kernel
theorem dX1_firstSureDay_18 : decode cX1_firstSureDay 18 = .ok (.aload_n 1, 1) := by decide +kernel
theorem dX1_firstSureDay_19 : decode cX1_firstSureDay 19 = .ok (.iconst (-1), 1) := by decide +kernel
theorem dX1_firstSureDay_20 : decode cX1_firstSureDay 20 = .ok (.iconst 0, 1) := by decide +kernel
theorem dX1_firstSureDay_21 : decode cX1_firstSureDay 21 = .ok (.invokevirtual 50, 3) := by decide +kernel
theorem dX1_firstSureDay_24 : decode cX1_firstSureDay 24 = .ok (.aload_n 0, 1) := by decide +kernel
theorem dX1_firstSureDay_25 : decode cX1_firstSureDay 25 = .ok (.invokevirtual 64, 3) := by decide +kernel
theorem dX1_firstSureDay_28 : decode cX1_firstSureDay 28 = .ok (.bipush (-4), 2) := by decide +kernel
theorem dX1_firstSureDay_30 : decode cX1_firstSureDay 30 = .ok (.istore_n 3, 1) := by decide +kernel
theorem dX1_firstSureDay_31 : decode cX1_firstSureDay 31 = .ok (.aload_n 0, 1) := by decide +kernel
theorem dX1_firstSureDay_32 : decode cX1_firstSureDay 32 = .ok (.getfield 67, 3) := by decide +kernel
theorem dX1_firstSureDay_35 : decode cX1_firstSureDay 35 = .ok (.istore 4, 2) := by decide +kernel
theorem dX1_firstSureDay_37 : decode cX1_firstSureDay 37 = .ok (.iload 4, 2) := by decide +kernel
theorem dX1_firstSureDay_39 : decode cX1_firstSureDay 39 = .ok (.aload_n 0, 1) := by decide +kernel
theorem dX1_firstSureDay_40 : decode cX1_firstSureDay 40 = .ok (.getfield 70, 3) := by decide +kernel
theorem dX1_firstSureDay_43 : decode cX1_firstSureDay 43 = .ok (.if_icmp .le 51, 3) := by decide +kernel
theorem dX1_firstSureDay_46 : decode cX1_firstSureDay 46 = .ok (.iload 4, 2) := by decide +kernel
theorem dX1_firstSureDay_48 : decode cX1_firstSureDay 48 = .ok (.aload_n 0, 1) := by decide +kernel
theorem dX1_firstSureDay_49 : decode cX1_firstSureDay 49 = .ok (.getfield 67, 3) := by decide +kernel
theorem dX1_firstSureDay_52 : decode cX1_firstSureDay 52 = .ok (.if_icmp .ge 17, 3) := by decide +kernel
theorem dX1_firstSureDay_55 : decode cX1_firstSureDay 55 = .ok (.aload_n 0, 1) := by decide +kernel
theorem dX1_firstSureDay_56 : decode cX1_firstSureDay 56 = .ok (.aload_n 0, 1) := by decide +kernel
theorem dX1_firstSureDay_57 : decode cX1_firstSureDay 57 = .ok (.getfield 21, 3) := by decide +kernel
theorem dX1_firstSureDay_60 : decode cX1_firstSureDay 60 = .ok (.aload_n 0, 1) := by decide +kernel
theorem dX1_firstSureDay_61 : decode cX1_firstSureDay 61 = .ok (.getfield 15, 3) := by decide +kernel
theorem dX1_firstSureDay_64 : decode cX1_firstSureDay 64 = .ok (.iload 4, 2) := by decide +kernel
theorem dX1_firstSureDay_66 : decode cX1_firstSureDay 66 = .ok (.invokevirtual 71, 3) := by decide +kernel
theorem dX1_firstSureDay_69 : decode cX1_firstSureDay 69 = .ok (.aload_n 0, 1) := by decide +kernel
theorem dX1_firstSureDay_70 : decode cX1_firstSureDay 70 = .ok (.getfield 21, 3) := by decide +kernel
theorem dX1_firstSureDay_73 : decode cX1_firstSureDay 73 = .ok (.aload_n 0, 1) := by decide +kernel
theorem dX1_firstSureDay_74 : decode cX1_firstSureDay 74 = .ok (.getfield 27, 3) := by decide +kernel
theorem dX1_firstSureDay_77 : decode cX1_firstSureDay 77 = .ok (.iload 4, 2) := by decide +kernel
theorem dX1_firstSureDay_79 : decode cX1_firstSureDay 79 = .ok (.iaload, 1) := by decide +kernel
theorem dX1_firstSureDay_80 : decode cX1_firstSureDay 80 = .ok (.iaload, 1) := by decide +kernel
theorem dX1_firstSureDay_81 : decode cX1_firstSureDay 81 = .ok (.iload_n 2, 1) := by decide +kernel
theorem dX1_firstSureDay_82 : decode cX1_firstSureDay 82 = .ok (.if_icmp .lt 6, 3) := by decide +kernel
theorem dX1_firstSureDay_85 : decode cX1_firstSureDay 85 = .ok (.iload 4, 2) := by decide +kernel
theorem dX1_firstSureDay_87 : decode cX1_firstSureDay 87 = .ok (.istore_n 3, 1) := by decide +kernel
theorem dX1_firstSureDay_88 : decode cX1_firstSureDay 88 = .ok (.iinc 4 (-1), 3) := by decide +kernel
theorem dX1_firstSureDay_91 : decode cX1_firstSureDay 91 = .ok (.goto (-54), 3) := by decide +kernel
theorem dX1_firstSureDay_94 : decode cX1_firstSureDay 94 = .ok (.aload_n 0, 1) := by decide +kernel
theorem dX1_firstSureDay_95 : decode cX1_firstSureDay 95 = .ok (.aload_n 0, 1) := by decide +kernel
theorem dX1_firstSureDay_96 : decode cX1_firstSureDay 96 = .ok (.getfield 21, 3) := by decide +kernel
theorem dX1_firstSureDay_99 : decode cX1_firstSureDay 99 = .ok (.aload_n 0, 1) := by decide +kernel
theorem dX1_firstSureDay_100 : decode cX1_firstSureDay 100 = .ok (.getfield 57, 3) := by decide +kernel
theorem dX1_firstSureDay_103 : decode cX1_firstSureDay 103 = .ok (.invokevirtual 60, 3) := by decide +kernel
theorem dX1_firstSureDay_106 : decode cX1_firstSureDay 106 = .ok (.iload_n 2, 1) := by decide +kernel
theorem dX1_firstSureDay_107 : decode cX1_firstSureDay 107 = .ok (.if_icmp .lt 10, 3) := by decide +kernel
theorem dX1_firstSureDay_110 : decode cX1_firstSureDay 110 = .ok (.aload_n 0, 1) := by decide +kernel
theorem dX1_firstSureDay_111 : decode cX1_firstSureDay 111 = .ok (.getfield 70, 3) := by decide +kernel
theorem dX1_firstSureDay_114 : decode cX1_firstSureDay 114 = .ok (.goto 4, 3) := by decide +kernel
theorem dX1_firstSureDay_117 : decode cX1_firstSureDay 117 = .ok (.iload_n 3, 1) := by decide +kernel
theorem dX1_firstSureDay_118 : decode cX1_firstSureDay 118 = .ok (.ireturn, 1) := by decide +kernel
theorem dX1_fewestHindrances_0 : decode cX1_fewestHindrances 0 = .ok (.aload_n 0, 1) := by decide +kernel
theorem dX1_fewestHindrances_1 : decode cX1_fewestHindrances 1 = .ok (.aload_n 1, 1) := by decide +kernel
theorem dX1_fewestHindrances_2 : decode cX1_fewestHindrances 2 = .ok (.aload_n 1, 1) := by decide +kernel
theorem dX1_fewestHindrances_3 : decode cX1_fewestHindrances 3 = .ok (.getfield 33, 3) := by decide +kernel
theorem dX1_fewestHindrances_6 : decode cX1_fewestHindrances 6 = .ok (.aload_n 1, 1) := by decide +kernel
theorem dX1_fewestHindrances_7 : decode cX1_fewestHindrances 7 = .ok (.getfield 39, 3) := by decide +kernel
theorem dX1_fewestHindrances_10 : decode cX1_fewestHindrances 10 = .ok (.aload_n 1, 1) := by decide +kernel
theorem dX1_fewestHindrances_11 : decode cX1_fewestHindrances 11 = .ok (.invokevirtual 42, 3) := by decide +kernel
theorem dX1_fewestHindrances_14 : decode cX1_fewestHindrances 14 = .ok (.invokevirtual 46, 3) := by decide +kernel
theorem dX1_fewestHindrances_17 : decode cX1_fewestHindrances 17 = .ok (.aload_n 0, 1) := by decide +kernel
theorem dX1_fewestHindrances_18 : decode cX1_fewestHindrances 18 = .ok (.aload_n 1, 1) := by decide +kernel
theorem dX1_fewestHindrances_19 : decode cX1_fewestHindrances 19 = .ok (.iconst (-1), 1) := by decide +kernel
theorem dX1_fewestHindrances_20 : decode cX1_fewestHindrances 20 = .ok (.iconst 0, 1) := by decide +kernel
theorem dX1_fewestHindrances_21 : decode cX1_fewestHindrances 21 = .ok (.invokevirtual 50, 3) := by decide +kernel
theorem dX1_fewestHindrances_24 : decode cX1_fewestHindrances 24 = .ok (.aload_n 0, 1) := by decide +kernel
theorem dX1_fewestHindrances_25 : decode cX1_fewestHindrances 25 = .ok (.invokevirtual 54, 3) := by decide +kernel
theorem dX1_fewestHindrances_28 : decode cX1_fewestHindrances 28 = .ok (.aload_n 1, 1) := by decide +kernel
theorem dX1_fewestHindrances_29 : decode cX1_fewestHindrances 29 = .ok (.getfield 75, 3) := by decide +kernel
theorem dX1_fewestHindrances_32 : decode cX1_fewestHindrances 32 = .ok (.aload_n 1, 1) := by decide +kernel
theorem dX1_fewestHindrances_33 : decode cX1_fewestHindrances 33 = .ok (.invokevirtual 78, 3) := by decide +kernel
theorem dX1_fewestHindrances_36 : decode cX1_fewestHindrances 36 = .ok (.ior, 1) := by decide +kernel
theorem dX1_fewestHindrances_37 : decode cX1_fewestHindrances 37 = .ok (.istore_n 3, 1) := by decide +kernel
theorem dX1_fewestHindrances_38 : decode cX1_fewestHindrances 38 = .ok (.iconst (-1), 1) := by decide +kernel
theorem dX1_fewestHindrances_39 : decode cX1_fewestHindrances 39 = .ok (.istore 4, 2) := by decide +kernel
theorem dX1_fewestHindrances_41 : decode cX1_fewestHindrances 41 = .ok (.iconst 0, 1) := by decide +kernel
theorem dX1_fewestHindrances_42 : decode cX1_fewestHindrances 42 = .ok (.istore 5, 2) := by decide +kernel
theorem dX1_fewestHindrances_44 : decode cX1_fewestHindrances 44 = .ok (.iload 5, 2) := by decide +kernel
theorem dX1_fewestHindrances_46 : decode cX1_fewestHindrances 46 = .ok (.iconst 1, 1) := by decide +kernel
theorem dX1_fewestHindrances_47 : decode cX1_fewestHindrances 47 = .ok (.aload_n 1, 1) := by decide +kernel
theorem dX1_fewestHindrances_48 : decode cX1_fewestHindrances 48 = .ok (.getfield 81, 3) := by decide +kernel
theorem dX1_fewestHindrances_51 : decode cX1_fewestHindrances 51 = .ok (.ishl, 1) := by decide +kernel
theorem dX1_fewestHindrances_52 : decode cX1_fewestHindrances 52 = .ok (.if_icmp .ge 73, 3) := by decide +kernel
theorem dX1_fewestHindrances_55 : decode cX1_fewestHindrances 55 = .ok (.iload 4, 2) := by decide +kernel
theorem dX1_fewestHindrances_57 : decode cX1_fewestHindrances 57 = .ok (.ifCond .lt 16, 3) := by decide +kernel
theorem dX1_fewestHindrances_60 : decode cX1_fewestHindrances 60 = .ok (.iload 5, 2) := by decide +kernel
theorem dX1_fewestHindrances_62 : decode cX1_fewestHindrances 62 = .ok (.invokestatic 84, 3) := by decide +kernel
theorem dX1_fewestHindrances_65 : decode cX1_fewestHindrances 65 = .ok (.iload 4, 2) := by decide +kernel
theorem dX1_fewestHindrances_67 : decode cX1_fewestHindrances 67 = .ok (.invokestatic 84, 3) := by decide +kernel
theorem dX1_fewestHindrances_70 : decode cX1_fewestHindrances 70 = .ok (.if_icmp .ge 7, 3) := by decide +kernel
theorem dX1_fewestHindrances_73 : decode cX1_fewestHindrances 73 = .ok (.iconst 1, 1) := by decide +kernel
theorem dX1_fewestHindrances_74 : decode cX1_fewestHindrances 74 = .ok (.goto 4, 3) := by decide +kernel
theorem dX1_fewestHindrances_77 : decode cX1_fewestHindrances 77 = .ok (.iconst 0, 1) := by decide +kernel
theorem dX1_fewestHindrances_78 : decode cX1_fewestHindrances 78 = .ok (.istore 6, 2) := by decide +kernel
theorem dX1_fewestHindrances_80 : decode cX1_fewestHindrances 80 = .ok (.iload 6, 2) := by decide +kernel
theorem dX1_fewestHindrances_82 : decode cX1_fewestHindrances 82 = .ok (.ifCond .eq 37, 3) := by decide +kernel
theorem dX1_fewestHindrances_85 : decode cX1_fewestHindrances 85 = .ok (.iload 5, 2) := by decide +kernel
theorem dX1_fewestHindrances_87 : decode cX1_fewestHindrances 87 = .ok (.iload_n 3, 1) := by decide +kernel
theorem dX1_fewestHindrances_88 : decode cX1_fewestHindrances 88 = .ok (.iand, 1) := by decide +kernel
theorem dX1_fewestHindrances_89 : decode cX1_fewestHindrances 89 = .ok (.ifCond .ne 30, 3) := by decide +kernel
theorem dX1_fewestHindrances_92 : decode cX1_fewestHindrances 92 = .ok (.aload_n 0, 1) := by decide +kernel
theorem dX1_fewestHindrances_93 : decode cX1_fewestHindrances 93 = .ok (.aload_n 0, 1) := by decide +kernel
theorem dX1_fewestHindrances_94 : decode cX1_fewestHindrances 94 = .ok (.getfield 21, 3) := by decide +kernel
theorem dX1_fewestHindrances_97 : decode cX1_fewestHindrances 97 = .ok (.aload_n 0, 1) := by decide +kernel
theorem dX1_fewestHindrances_98 : decode cX1_fewestHindrances 98 = .ok (.getfield 57, 3) := by decide +kernel
theorem dX1_fewestHindrances_101 : decode cX1_fewestHindrances 101 = .ok (.aload_n 1, 1) := by decide +kernel
theorem dX1_fewestHindrances_102 : decode cX1_fewestHindrances 102 = .ok (.iload 5, 2) := by decide +kernel
theorem dX1_fewestHindrances_104 : decode cX1_fewestHindrances 104 = .ok (.invokevirtual 90, 3) := by decide +kernel
theorem dX1_fewestHindrances_107 : decode cX1_fewestHindrances 107 = .ok (.iadd, 1) := by decide +kernel
theorem dX1_fewestHindrances_108 : decode cX1_fewestHindrances 108 = .ok (.invokevirtual 60, 3) := by decide +kernel
theorem dX1_fewestHindrances_111 : decode cX1_fewestHindrances 111 = .ok (.iload_n 2, 1) := by decide +kernel
theorem dX1_fewestHindrances_112 : decode cX1_fewestHindrances 112 = .ok (.if_icmp .gt 7, 3) := by decide +kernel
theorem dX1_fewestHindrances_115 : decode cX1_fewestHindrances 115 = .ok (.iload 5, 2) := by decide +kernel
theorem dX1_fewestHindrances_117 : decode cX1_fewestHindrances 117 = .ok (.istore 4, 2) := by decide +kernel
theorem dX1_fewestHindrances_119 : decode cX1_fewestHindrances 119 = .ok (.iinc 5 1, 3) := by decide +kernel
theorem dX1_fewestHindrances_122 : decode cX1_fewestHindrances 122 = .ok (.goto (-78), 3) := by decide +kernel
theorem dX1_fewestHindrances_125 : decode cX1_fewestHindrances 125 = .ok (.iload 4, 2) := by decide +kernel
theorem dX1_fewestHindrances_127 : decode cX1_fewestHindrances 127 = .ok (.ireturn, 1) := by decide +kernel
theorem dX1_findBestDay_0 : decode cX1_findBestDay 0 = .ok (.aload_n 0, 1) := by decide +kernel
theorem dX1_findBestDay_1 : decode cX1_findBestDay 1 = .ok (.aload_n 1, 1) := by decide +kernel
theorem dX1_findBestDay_2 : decode cX1_findBestDay 2 = .ok (.aload_n 1, 1) := by decide +kernel
theorem dX1_findBestDay_3 : decode cX1_findBestDay 3 = .ok (.getfield 33, 3) := by decide +kernel
theorem dX1_findBestDay_6 : decode cX1_findBestDay 6 = .ok (.aload_n 1, 1) := by decide +kernel
theorem dX1_findBestDay_7 : decode cX1_findBestDay 7 = .ok (.getfield 39, 3) := by decide +kernel
theorem dX1_findBestDay_10 : decode cX1_findBestDay 10 = .ok (.aload_n 1, 1) := by decide +kernel
theorem dX1_findBestDay_11 : decode cX1_findBestDay 11 = .ok (.invokevirtual 42, 3) := by decide +kernel
theorem dX1_findBestDay_14 : decode cX1_findBestDay 14 = .ok (.invokevirtual 46, 3) := by decide +kernel
theorem dX1_findBestDay_17 : decode cX1_findBestDay 17 = .ok (.aload_n 0, 1) := by decide +kernel
theorem dX1_findBestDay_18 : decode cX1_findBestDay 18 = .ok (.aload_n 1, 1) := by decide +kernel
theorem dX1_findBestDay_19 : decode cX1_findBestDay 19 = .ok (.iconst (-1), 1) := by decide +kernel
theorem dX1_findBestDay_20 : decode cX1_findBestDay 20 = .ok (.iconst 0, 1) := by decide +kernel
theorem dX1_findBestDay_21 : decode cX1_findBestDay 21 = .ok (.invokevirtual 50, 3) := by decide +kernel
theorem dX1_findBestDay_24 : decode cX1_findBestDay 24 = .ok (.aload_n 0, 1) := by decide +kernel
theorem dX1_findBestDay_25 : decode cX1_findBestDay 25 = .ok (.aload_n 0, 1) := by decide +kernel
theorem dX1_findBestDay_26 : decode cX1_findBestDay 26 = .ok (.getfield 18, 3) := by decide +kernel
theorem dX1_findBestDay_29 : decode cX1_findBestDay 29 = .ok (.iload_n 2, 1) := by decide +kernel
theorem dX1_findBestDay_30 : decode cX1_findBestDay 30 = .ok (.invokevirtual 93, 3) := by decide +kernel
theorem dX1_findBestDay_33 : decode cX1_findBestDay 33 = .ok (.aload_n 0, 1) := by decide +kernel
theorem dX1_findBestDay_34 : decode cX1_findBestDay 34 = .ok (.invokevirtual 64, 3) := by decide +kernel
theorem dX1_findBestDay_37 : decode cX1_findBestDay 37 = .ok (.aload_n 0, 1) := by decide +kernel
theorem dX1_findBestDay_38 : decode cX1_findBestDay 38 = .ok (.aload_n 0, 1) := by decide +kernel
theorem dX1_findBestDay_39 : decode cX1_findBestDay 39 = .ok (.getfield 70, 3) := by decide +kernel
theorem dX1_findBestDay_42 : decode cX1_findBestDay 42 = .ok (.putfield 97, 3) := by decide +kernel
theorem dX1_findBestDay_45 : decode cX1_findBestDay 45 = .ok (.aload_n 0, 1) := by decide +kernel
theorem dX1_findBestDay_46 : decode cX1_findBestDay 46 = .ok (.ldc 100, 2) := by decide +kernel
theorem dX1_findBestDay_48 : decode cX1_findBestDay 48 = .ok (.putfield 101, 3) := by decide +kernel
theorem dX1_findBestDay_51 : decode cX1_findBestDay 51 = .ok (.aload_n 0, 1) := by decide +kernel
theorem dX1_findBestDay_52 : decode cX1_findBestDay 52 = .ok (.getfield 67, 3) := by decide +kernel
theorem dX1_findBestDay_55 : decode cX1_findBestDay 55 = .ok (.iconst 1, 1) := by decide +kernel
theorem dX1_findBestDay_56 : decode cX1_findBestDay 56 = .ok (.isub, 1) := by decide +kernel
theorem dX1_findBestDay_57 : decode cX1_findBestDay 57 = .ok (.istore_n 3, 1) := by decide +kernel
theorem dX1_findBestDay_58 : decode cX1_findBestDay 58 = .ok (.iload_n 3, 1) := by decide +kernel
theorem dX1_findBestDay_59 : decode cX1_findBestDay 59 = .ok (.aload_n 0, 1) := by decide +kernel
theorem dX1_findBestDay_60 : decode cX1_findBestDay 60 = .ok (.getfield 70, 3) := by decide +kernel
theorem dX1_findBestDay_63 : decode cX1_findBestDay 63 = .ok (.if_icmp .lt 74, 3) := by decide +kernel
theorem dX1_findBestDay_66 : decode cX1_findBestDay 66 = .ok (.iload_n 3, 1) := by decide +kernel
theorem dX1_findBestDay_67 : decode cX1_findBestDay 67 = .ok (.aload_n 0, 1) := by decide +kernel
theorem dX1_findBestDay_68 : decode cX1_findBestDay 68 = .ok (.getfield 70, 3) := by decide +kernel
theorem dX1_findBestDay_71 : decode cX1_findBestDay 71 = .ok (.if_icmp .ne 20, 3) := by decide +kernel
theorem dX1_findBestDay_74 : decode cX1_findBestDay 74 = .ok (.aload_n 0, 1) := by decide +kernel
theorem dX1_findBestDay_75 : decode cX1_findBestDay 75 = .ok (.aload_n 0, 1) := by decide +kernel
theorem dX1_findBestDay_76 : decode cX1_findBestDay 76 = .ok (.getfield 21, 3) := by decide +kernel
theorem dX1_findBestDay_79 : decode cX1_findBestDay 79 = .ok (.aload_n 0, 1) := by decide +kernel
theorem dX1_findBestDay_80 : decode cX1_findBestDay 80 = .ok (.getfield 57, 3) := by decide +kernel
theorem dX1_findBestDay_83 : decode cX1_findBestDay 83 = .ok (.iload_n 2, 1) := by decide +kernel
theorem dX1_findBestDay_84 : decode cX1_findBestDay 84 = .ok (.iadd, 1) := by decide +kernel
theorem dX1_findBestDay_85 : decode cX1_findBestDay 85 = .ok (.invokevirtual 60, 3) := by decide +kernel
theorem dX1_findBestDay_88 : decode cX1_findBestDay 88 = .ok (.goto 8, 3) := by decide +kernel
theorem dX1_findBestDay_91 : decode cX1_findBestDay 91 = .ok (.aload_n 0, 1) := by decide +kernel
theorem dX1_findBestDay_92 : decode cX1_findBestDay 92 = .ok (.iload_n 3, 1) := by decide +kernel
theorem dX1_findBestDay_93 : decode cX1_findBestDay 93 = .ok (.invokevirtual 104, 3) := by decide +kernel
theorem dX1_findBestDay_96 : decode cX1_findBestDay 96 = .ok (.istore 4, 2) := by decide +kernel
theorem dX1_findBestDay_98 : decode cX1_findBestDay 98 = .ok (.iload 4, 2) := by decide +kernel
theorem dX1_findBestDay_100 : decode cX1_findBestDay 100 = .ok (.aload_n 0, 1) := by decide +kernel
theorem dX1_findBestDay_101 : decode cX1_findBestDay 101 = .ok (.getfield 101, 3) := by decide +kernel
theorem dX1_findBestDay_104 : decode cX1_findBestDay 104 = .ok (.if_icmp .gt 14, 3) := by decide +kernel
theorem dX1_findBestDay_107 : decode cX1_findBestDay 107 = .ok (.aload_n 0, 1) := by decide +kernel
theorem dX1_findBestDay_108 : decode cX1_findBestDay 108 = .ok (.iload 4, 2) := by decide +kernel
theorem dX1_findBestDay_110 : decode cX1_findBestDay 110 = .ok (.putfield 101, 3) := by decide +kernel
theorem dX1_findBestDay_113 : decode cX1_findBestDay 113 = .ok (.aload_n 0, 1) := by decide +kernel
theorem dX1_findBestDay_114 : decode cX1_findBestDay 114 = .ok (.iload_n 3, 1) := by decide +kernel
theorem dX1_findBestDay_115 : decode cX1_findBestDay 115 = .ok (.putfield 97, 3) := by decide +kernel
theorem dX1_findBestDay_118 : decode cX1_findBestDay 118 = .ok (.aload_n 0, 1) := by decide +kernel
theorem dX1_findBestDay_119 : decode cX1_findBestDay 119 = .ok (.aload_n 0, 1) := by decide +kernel
theorem dX1_findBestDay_120 : decode cX1_findBestDay 120 = .ok (.getfield 21, 3) := by decide +kernel
theorem dX1_findBestDay_123 : decode cX1_findBestDay 123 = .ok (.aload_n 0, 1) := by decide +kernel
theorem dX1_findBestDay_124 : decode cX1_findBestDay 124 = .ok (.getfield 15, 3) := by decide +kernel
theorem dX1_findBestDay_127 : decode cX1_findBestDay 127 = .ok (.iload_n 3, 1) := by decide +kernel
theorem dX1_findBestDay_128 : decode cX1_findBestDay 128 = .ok (.invokevirtual 71, 3) := by decide +kernel
theorem dX1_findBestDay_131 : decode cX1_findBestDay 131 = .ok (.iinc 3 (-1), 3) := by decide +kernel
theorem dX1_findBestDay_134 : decode cX1_findBestDay 134 = .ok (.goto (-76), 3) := by decide +kernel
theorem dX1_findBestDay_137 : decode cX1_findBestDay 137 = .ok (.return_, 1) := by decide +kernel
theorem dX1_oddsIfHindered_0 : decode cX1_oddsIfHindered 0 = .ok (.aload_n 0, 1) := by decide +kernel
theorem dX1_oddsIfHindered_1 : decode cX1_oddsIfHindered 1 = .ok (.getfield 21, 3) := by decide +kernel
theorem dX1_oddsIfHindered_4 : decode cX1_oddsIfHindered 4 = .ok (.iconst 0, 1) := by decide +kernel
theorem dX1_oddsIfHindered_5 : decode cX1_oddsIfHindered 5 = .ok (.aload_n 0, 1) := by decide +kernel
theorem dX1_oddsIfHindered_6 : decode cX1_oddsIfHindered 6 = .ok (.getfield 24, 3) := by decide +kernel
theorem dX1_oddsIfHindered_9 : decode cX1_oddsIfHindered 9 = .ok (.iconst 0, 1) := by decide +kernel
theorem dX1_oddsIfHindered_10 : decode cX1_oddsIfHindered 10 = .ok (.sipush 201, 3) := by decide +kernel
theorem dX1_oddsIfHindered_13 : decode cX1_oddsIfHindered 13 = .ok (.invokestatic 107, 3) := by decide +kernel
theorem dX1_oddsIfHindered_16 : decode cX1_oddsIfHindered 16 = .ok (.aload_n 0, 1) := by decide +kernel
theorem dX1_oddsIfHindered_17 : decode cX1_oddsIfHindered 17 = .ok (.aload_n 0, 1) := by decide +kernel
theorem dX1_oddsIfHindered_18 : decode cX1_oddsIfHindered 18 = .ok (.getfield 24, 3) := by decide +kernel
theorem dX1_oddsIfHindered_21 : decode cX1_oddsIfHindered 21 = .ok (.aload_n 0, 1) := by decide +kernel
theorem dX1_oddsIfHindered_22 : decode cX1_oddsIfHindered 22 = .ok (.getfield 18, 3) := by decide +kernel
theorem dX1_oddsIfHindered_25 : decode cX1_oddsIfHindered 25 = .ok (.iload_n 1, 1) := by decide +kernel
theorem dX1_oddsIfHindered_26 : decode cX1_oddsIfHindered 26 = .ok (.invokevirtual 71, 3) := by decide +kernel
theorem dX1_oddsIfHindered_29 : decode cX1_oddsIfHindered 29 = .ok (.iload_n 1, 1) := by decide +kernel
theorem dX1_oddsIfHindered_30 : decode cX1_oddsIfHindered 30 = .ok (.iconst 1, 1) := by decide +kernel
theorem dX1_oddsIfHindered_31 : decode cX1_oddsIfHindered 31 = .ok (.isub, 1) := by decide +kernel
theorem dX1_oddsIfHindered_32 : decode cX1_oddsIfHindered 32 = .ok (.istore_n 2, 1) := by decide +kernel
theorem dX1_oddsIfHindered_33 : decode cX1_oddsIfHindered 33 = .ok (.iload_n 2, 1) := by decide +kernel
theorem dX1_oddsIfHindered_34 : decode cX1_oddsIfHindered 34 = .ok (.aload_n 0, 1) := by decide +kernel
theorem dX1_oddsIfHindered_35 : decode cX1_oddsIfHindered 35 = .ok (.getfield 70, 3) := by decide +kernel
theorem dX1_oddsIfHindered_38 : decode cX1_oddsIfHindered 38 = .ok (.if_icmp .le 22, 3) := by decide +kernel
theorem dX1_oddsIfHindered_41 : decode cX1_oddsIfHindered 41 = .ok (.aload_n 0, 1) := by decide +kernel
theorem dX1_oddsIfHindered_42 : decode cX1_oddsIfHindered 42 = .ok (.aload_n 0, 1) := by decide +kernel
theorem dX1_oddsIfHindered_43 : decode cX1_oddsIfHindered 43 = .ok (.getfield 24, 3) := by decide +kernel
theorem dX1_oddsIfHindered_46 : decode cX1_oddsIfHindered 46 = .ok (.aload_n 0, 1) := by decide +kernel
theorem dX1_oddsIfHindered_47 : decode cX1_oddsIfHindered 47 = .ok (.getfield 15, 3) := by decide +kernel
theorem dX1_oddsIfHindered_50 : decode cX1_oddsIfHindered 50 = .ok (.iload_n 2, 1) := by decide +kernel
theorem dX1_oddsIfHindered_51 : decode cX1_oddsIfHindered 51 = .ok (.invokevirtual 71, 3) := by decide +kernel
theorem dX1_oddsIfHindered_54 : decode cX1_oddsIfHindered 54 = .ok (.iinc 2 (-1), 3) := by decide +kernel
theorem dX1_oddsIfHindered_57 : decode cX1_oddsIfHindered 57 = .ok (.goto (-24), 3) := by decide +kernel
theorem dX1_oddsIfHindered_60 : decode cX1_oddsIfHindered 60 = .ok (.aload_n 0, 1) := by decide +kernel
theorem dX1_oddsIfHindered_61 : decode cX1_oddsIfHindered 61 = .ok (.aload_n 0, 1) := by decide +kernel
theorem dX1_oddsIfHindered_62 : decode cX1_oddsIfHindered 62 = .ok (.getfield 24, 3) := by decide +kernel
theorem dX1_oddsIfHindered_65 : decode cX1_oddsIfHindered 65 = .ok (.aload_n 0, 1) := by decide +kernel
theorem dX1_oddsIfHindered_66 : decode cX1_oddsIfHindered 66 = .ok (.getfield 57, 3) := by decide +kernel
theorem dX1_oddsIfHindered_69 : decode cX1_oddsIfHindered 69 = .ok (.invokevirtual 60, 3) := by decide +kernel
theorem dX1_oddsIfHindered_72 : decode cX1_oddsIfHindered 72 = .ok (.ireturn, 1) := by decide +kernel
theorem dX1_sumOfLaid_0 : decode cX1_sumOfLaid 0 = .ok (.aload_n 0, 1) := by decide +kernel
theorem dX1_sumOfLaid_1 : decode cX1_sumOfLaid 1 = .ok (.aload_n 1, 1) := by decide +kernel
theorem dX1_sumOfLaid_2 : decode cX1_sumOfLaid 2 = .ok (.aload_n 1, 1) := by decide +kernel
theorem dX1_sumOfLaid_3 : decode cX1_sumOfLaid 3 = .ok (.getfield 33, 3) := by decide +kernel
theorem dX1_sumOfLaid_6 : decode cX1_sumOfLaid 6 = .ok (.aload_n 1, 1) := by decide +kernel
theorem dX1_sumOfLaid_7 : decode cX1_sumOfLaid 7 = .ok (.getfield 39, 3) := by decide +kernel
theorem dX1_sumOfLaid_10 : decode cX1_sumOfLaid 10 = .ok (.aload_n 1, 1) := by decide +kernel
theorem dX1_sumOfLaid_11 : decode cX1_sumOfLaid 11 = .ok (.invokevirtual 42, 3) := by decide +kernel
theorem dX1_sumOfLaid_14 : decode cX1_sumOfLaid 14 = .ok (.invokevirtual 46, 3) := by decide +kernel
theorem dX1_sumOfLaid_17 : decode cX1_sumOfLaid 17 = .ok (.aload_n 0, 1) := by decide +kernel
theorem dX1_sumOfLaid_18 : decode cX1_sumOfLaid 18 = .ok (.aload_n 1, 1) := by decide +kernel
theorem dX1_sumOfLaid_19 : decode cX1_sumOfLaid 19 = .ok (.iconst (-1), 1) := by decide +kernel
theorem dX1_sumOfLaid_20 : decode cX1_sumOfLaid 20 = .ok (.iconst 0, 1) := by decide +kernel
theorem dX1_sumOfLaid_21 : decode cX1_sumOfLaid 21 = .ok (.invokevirtual 50, 3) := by decide +kernel
theorem dX1_sumOfLaid_24 : decode cX1_sumOfLaid 24 = .ok (.iconst 0, 1) := by decide +kernel
theorem dX1_sumOfLaid_25 : decode cX1_sumOfLaid 25 = .ok (.istore_n 3, 1) := by decide +kernel
theorem dX1_sumOfLaid_26 : decode cX1_sumOfLaid 26 = .ok (.iload_n 3, 1) := by decide +kernel
theorem dX1_sumOfLaid_27 : decode cX1_sumOfLaid 27 = .ok (.sipush 201, 3) := by decide +kernel
theorem dX1_sumOfLaid_30 : decode cX1_sumOfLaid 30 = .ok (.if_icmp .ge 16, 3) := by decide +kernel
theorem dX1_sumOfLaid_33 : decode cX1_sumOfLaid 33 = .ok (.aload_n 0, 1) := by decide +kernel
theorem dX1_sumOfLaid_34 : decode cX1_sumOfLaid 34 = .ok (.getfield 30, 3) := by decide +kernel
theorem dX1_sumOfLaid_37 : decode cX1_sumOfLaid 37 = .ok (.iload_n 3, 1) := by decide +kernel
theorem dX1_sumOfLaid_38 : decode cX1_sumOfLaid 38 = .ok (.iconst 0, 1) := by decide +kernel
theorem dX1_sumOfLaid_39 : decode cX1_sumOfLaid 39 = .ok (.iastore, 1) := by decide +kernel
theorem dX1_sumOfLaid_40 : decode cX1_sumOfLaid 40 = .ok (.iinc 3 1, 3) := by decide +kernel
theorem dX1_sumOfLaid_43 : decode cX1_sumOfLaid 43 = .ok (.goto (-17), 3) := by decide +kernel
theorem dX1_sumOfLaid_46 : decode cX1_sumOfLaid 46 = .ok (.aload_n 0, 1) := by decide +kernel
theorem dX1_sumOfLaid_47 : decode cX1_sumOfLaid 47 = .ok (.getfield 30, 3) := by decide +kernel
theorem dX1_sumOfLaid_50 : decode cX1_sumOfLaid 50 = .ok (.aload_n 0, 1) := by decide +kernel
theorem dX1_sumOfLaid_51 : decode cX1_sumOfLaid 51 = .ok (.getfield 113, 3) := by decide +kernel
theorem dX1_sumOfLaid_54 : decode cX1_sumOfLaid 54 = .ok (.iconst 1, 1) := by decide +kernel
theorem dX1_sumOfLaid_55 : decode cX1_sumOfLaid 55 = .ok (.iastore, 1) := by decide +kernel
theorem dX1_sumOfLaid_56 : decode cX1_sumOfLaid 56 = .ok (.iconst 0, 1) := by decide +kernel
theorem dX1_sumOfLaid_57 : decode cX1_sumOfLaid 57 = .ok (.istore_n 3, 1) := by decide +kernel
theorem dX1_sumOfLaid_58 : decode cX1_sumOfLaid 58 = .ok (.iload_n 3, 1) := by decide +kernel
theorem dX1_sumOfLaid_59 : decode cX1_sumOfLaid 59 = .ok (.iload_n 2, 1) := by decide +kernel
theorem dX1_sumOfLaid_60 : decode cX1_sumOfLaid 60 = .ok (.if_icmp .ge 25, 3) := by decide +kernel
theorem dX1_sumOfLaid_63 : decode cX1_sumOfLaid 63 = .ok (.aload_n 0, 1) := by decide +kernel
theorem dX1_sumOfLaid_64 : decode cX1_sumOfLaid 64 = .ok (.iload_n 3, 1) := by decide +kernel
theorem dX1_sumOfLaid_65 : decode cX1_sumOfLaid 65 = .ok (.ifCond .ne 10, 3) := by decide +kernel
theorem dX1_sumOfLaid_68 : decode cX1_sumOfLaid 68 = .ok (.aload_n 0, 1) := by decide +kernel
theorem dX1_sumOfLaid_69 : decode cX1_sumOfLaid 69 = .ok (.getfield 57, 3) := by decide +kernel
theorem dX1_sumOfLaid_72 : decode cX1_sumOfLaid 72 = .ok (.goto 4, 3) := by decide +kernel
theorem dX1_sumOfLaid_75 : decode cX1_sumOfLaid 75 = .ok (.iconst 0, 1) := by decide +kernel
theorem dX1_sumOfLaid_76 : decode cX1_sumOfLaid 76 = .ok (.invokevirtual 114, 3) := by decide +kernel
theorem dX1_sumOfLaid_79 : decode cX1_sumOfLaid 79 = .ok (.iinc 3 1, 3) := by decide +kernel
theorem dX1_sumOfLaid_82 : decode cX1_sumOfLaid 82 = .ok (.goto (-24), 3) := by decide +kernel
theorem dX1_sumOfLaid_85 : decode cX1_sumOfLaid 85 = .ok (.iconst 0, 1) := by decide +kernel
theorem dX1_sumOfLaid_86 : decode cX1_sumOfLaid 86 = .ok (.istore_n 3, 1) := by decide +kernel
theorem dX1_sumOfLaid_87 : decode cX1_sumOfLaid 87 = .ok (.aload_n 0, 1) := by decide +kernel
theorem dX1_sumOfLaid_88 : decode cX1_sumOfLaid 88 = .ok (.getfield 113, 3) := by decide +kernel
theorem dX1_sumOfLaid_91 : decode cX1_sumOfLaid 91 = .ok (.istore 4, 2) := by decide +kernel
theorem dX1_sumOfLaid_93 : decode cX1_sumOfLaid 93 = .ok (.iload 4, 2) := by decide +kernel
theorem dX1_sumOfLaid_95 : decode cX1_sumOfLaid 95 = .ok (.aload_n 0, 1) := by decide +kernel
theorem dX1_sumOfLaid_96 : decode cX1_sumOfLaid 96 = .ok (.getfield 118, 3) := by decide +kernel
theorem dX1_sumOfLaid_99 : decode cX1_sumOfLaid 99 = .ok (.if_icmp .gt 22, 3) := by decide +kernel
theorem dX1_sumOfLaid_102 : decode cX1_sumOfLaid 102 = .ok (.iload_n 3, 1) := by decide +kernel
theorem dX1_sumOfLaid_103 : decode cX1_sumOfLaid 103 = .ok (.iload 4, 2) := by decide +kernel
theorem dX1_sumOfLaid_105 : decode cX1_sumOfLaid 105 = .ok (.aload_n 0, 1) := by decide +kernel
theorem dX1_sumOfLaid_106 : decode cX1_sumOfLaid 106 = .ok (.getfield 30, 3) := by decide +kernel
theorem dX1_sumOfLaid_109 : decode cX1_sumOfLaid 109 = .ok (.iload 4, 2) := by decide +kernel
theorem dX1_sumOfLaid_111 : decode cX1_sumOfLaid 111 = .ok (.iaload, 1) := by decide +kernel
theorem dX1_sumOfLaid_112 : decode cX1_sumOfLaid 112 = .ok (.imul, 1) := by decide +kernel
theorem dX1_sumOfLaid_113 : decode cX1_sumOfLaid 113 = .ok (.iadd, 1) := by decide +kernel
theorem dX1_sumOfLaid_114 : decode cX1_sumOfLaid 114 = .ok (.istore_n 3, 1) := by decide +kernel
theorem dX1_sumOfLaid_115 : decode cX1_sumOfLaid 115 = .ok (.iinc 4 1, 3) := by decide +kernel
theorem dX1_sumOfLaid_118 : decode cX1_sumOfLaid 118 = .ok (.goto (-25), 3) := by decide +kernel
theorem dX1_sumOfLaid_121 : decode cX1_sumOfLaid 121 = .ok (.iload_n 3, 1) := by decide +kernel
theorem dX1_sumOfLaid_122 : decode cX1_sumOfLaid 122 = .ok (.ireturn, 1) := by decide +kernel
theorem dX1_spread_0 : decode cX1_spread 0 = .ok (.aload_n 0, 1) := by decide +kernel
theorem dX1_spread_1 : decode cX1_spread 1 = .ok (.getfield 118, 3) := by decide +kernel
theorem dX1_spread_4 : decode cX1_spread 4 = .ok (.istore_n 2, 1) := by decide +kernel
theorem dX1_spread_5 : decode cX1_spread 5 = .ok (.iload_n 2, 1) := by decide +kernel
theorem dX1_spread_6 : decode cX1_spread 6 = .ok (.aload_n 0, 1) := by decide +kernel
theorem dX1_spread_7 : decode cX1_spread 7 = .ok (.getfield 113, 3) := by decide +kernel
theorem dX1_spread_10 : decode cX1_spread 10 = .ok (.if_icmp .lt 98, 3) := by decide +kernel
theorem dX1_spread_13 : decode cX1_spread 13 = .ok (.aload_n 0, 1) := by decide +kernel
theorem dX1_spread_14 : decode cX1_spread 14 = .ok (.getfield 30, 3) := by decide +kernel
theorem dX1_spread_17 : decode cX1_spread 17 = .ok (.iload_n 2, 1) := by decide +kernel
theorem dX1_spread_18 : decode cX1_spread 18 = .ok (.iaload, 1) := by decide +kernel
theorem dX1_spread_19 : decode cX1_spread 19 = .ok (.istore_n 3, 1) := by decide +kernel
theorem dX1_spread_20 : decode cX1_spread 20 = .ok (.iload_n 3, 1) := by decide +kernel
theorem dX1_spread_21 : decode cX1_spread 21 = .ok (.ifCond .eq 81, 3) := by decide +kernel
theorem dX1_spread_24 : decode cX1_spread 24 = .ok (.aload_n 0, 1) := by decide +kernel
theorem dX1_spread_25 : decode cX1_spread 25 = .ok (.getfield 30, 3) := by decide +kernel
theorem dX1_spread_28 : decode cX1_spread 28 = .ok (.iload_n 2, 1) := by decide +kernel
theorem dX1_spread_29 : decode cX1_spread 29 = .ok (.iconst 0, 1) := by decide +kernel
theorem dX1_spread_30 : decode cX1_spread 30 = .ok (.iastore, 1) := by decide +kernel
theorem dX1_spread_31 : decode cX1_spread 31 = .ok (.aload_n 0, 1) := by decide +kernel
theorem dX1_spread_32 : decode cX1_spread 32 = .ok (.getfield 30, 3) := by decide +kernel
theorem dX1_spread_35 : decode cX1_spread 35 = .ok (.aload_n 0, 1) := by decide +kernel
theorem dX1_spread_36 : decode cX1_spread 36 = .ok (.iconst 0, 1) := by decide +kernel
theorem dX1_spread_37 : decode cX1_spread 37 = .ok (.iload_n 2, 1) := by decide +kernel
theorem dX1_spread_38 : decode cX1_spread 38 = .ok (.iload_n 1, 1) := by decide +kernel
theorem dX1_spread_39 : decode cX1_spread 39 = .ok (.invokevirtual 121, 3) := by decide +kernel
theorem dX1_spread_42 : decode cX1_spread 42 = .ok (.dup2, 1) := by decide +kernel
theorem dX1_spread_43 : decode cX1_spread 43 = .ok (.iaload, 1) := by decide +kernel
theorem dX1_spread_44 : decode cX1_spread 44 = .ok (.iload_n 3, 1) := by decide +kernel
theorem dX1_spread_45 : decode cX1_spread 45 = .ok (.bipush 10, 2) := by decide +kernel
theorem dX1_spread_47 : decode cX1_spread 47 = .ok (.aload_n 0, 1) := by decide +kernel
theorem dX1_spread_48 : decode cX1_spread 48 = .ok (.getfield 125, 3) := by decide +kernel
theorem dX1_spread_51 : decode cX1_spread 51 = .ok (.isub, 1) := by decide +kernel
theorem dX1_spread_52 : decode cX1_spread 52 = .ok (.aload_n 0, 1) := by decide +kernel
theorem dX1_spread_53 : decode cX1_spread 53 = .ok (.getfield 128, 3) := by decide +kernel
theorem dX1_spread_56 : decode cX1_spread 56 = .ok (.isub, 1) := by decide +kernel
theorem dX1_spread_57 : decode cX1_spread 57 = .ok (.imul, 1) := by decide +kernel
theorem dX1_spread_58 : decode cX1_spread 58 = .ok (.iadd, 1) := by decide +kernel
theorem dX1_spread_59 : decode cX1_spread 59 = .ok (.iastore, 1) := by decide +kernel
theorem dX1_spread_60 : decode cX1_spread 60 = .ok (.aload_n 0, 1) := by decide +kernel
theorem dX1_spread_61 : decode cX1_spread 61 = .ok (.getfield 30, 3) := by decide +kernel
theorem dX1_spread_64 : decode cX1_spread 64 = .ok (.aload_n 0, 1) := by decide +kernel
theorem dX1_spread_65 : decode cX1_spread 65 = .ok (.iconst 1, 1) := by decide +kernel
theorem dX1_spread_66 : decode cX1_spread 66 = .ok (.iload_n 2, 1) := by decide +kernel
theorem dX1_spread_67 : decode cX1_spread 67 = .ok (.iload_n 1, 1) := by decide +kernel
theorem dX1_spread_68 : decode cX1_spread 68 = .ok (.invokevirtual 121, 3) := by decide +kernel
theorem dX1_spread_71 : decode cX1_spread 71 = .ok (.dup2, 1) := by decide +kernel
theorem dX1_spread_72 : decode cX1_spread 72 = .ok (.iaload, 1) := by decide +kernel
theorem dX1_spread_73 : decode cX1_spread 73 = .ok (.iload_n 3, 1) := by decide +kernel
theorem dX1_spread_74 : decode cX1_spread 74 = .ok (.aload_n 0, 1) := by decide +kernel
theorem dX1_spread_75 : decode cX1_spread 75 = .ok (.getfield 125, 3) := by decide +kernel
theorem dX1_spread_78 : decode cX1_spread 78 = .ok (.imul, 1) := by decide +kernel
theorem dX1_spread_79 : decode cX1_spread 79 = .ok (.iadd, 1) := by decide +kernel
theorem dX1_spread_80 : decode cX1_spread 80 = .ok (.iastore, 1) := by decide +kernel
theorem dX1_spread_81 : decode cX1_spread 81 = .ok (.aload_n 0, 1) := by decide +kernel
theorem dX1_spread_82 : decode cX1_spread 82 = .ok (.getfield 30, 3) := by decide +kernel
theorem dX1_spread_85 : decode cX1_spread 85 = .ok (.aload_n 0, 1) := by decide +kernel
theorem dX1_spread_86 : decode cX1_spread 86 = .ok (.iconst 2, 1) := by decide +kernel
theorem dX1_spread_87 : decode cX1_spread 87 = .ok (.iload_n 2, 1) := by decide +kernel
theorem dX1_spread_88 : decode cX1_spread 88 = .ok (.iload_n 1, 1) := by decide +kernel
theorem dX1_spread_89 : decode cX1_spread 89 = .ok (.invokevirtual 121, 3) := by decide +kernel
theorem dX1_spread_92 : decode cX1_spread 92 = .ok (.dup2, 1) := by decide +kernel
theorem dX1_spread_93 : decode cX1_spread 93 = .ok (.iaload, 1) := by decide +kernel
theorem dX1_spread_94 : decode cX1_spread 94 = .ok (.iload_n 3, 1) := by decide +kernel
theorem dX1_spread_95 : decode cX1_spread 95 = .ok (.aload_n 0, 1) := by decide +kernel
theorem dX1_spread_96 : decode cX1_spread 96 = .ok (.getfield 128, 3) := by decide +kernel
theorem dX1_spread_99 : decode cX1_spread 99 = .ok (.imul, 1) := by decide +kernel
theorem dX1_spread_100 : decode cX1_spread 100 = .ok (.iadd, 1) := by decide +kernel
theorem dX1_spread_101 : decode cX1_spread 101 = .ok (.iastore, 1) := by decide +kernel
theorem dX1_spread_102 : decode cX1_spread 102 = .ok (.iinc 2 (-1), 3) := by decide +kernel
theorem dX1_spread_105 : decode cX1_spread 105 = .ok (.goto (-100), 3) := by decide +kernel
theorem dX1_spread_108 : decode cX1_spread 108 = .ok (.return_, 1) := by decide +kernel
theorem dX1_look_0 : decode cX1_look 0 = .ok (.aload_n 0, 1) := by decide +kernel
theorem dX1_look_1 : decode cX1_look 1 = .ok (.aload_n 1, 1) := by decide +kernel
theorem dX1_look_2 : decode cX1_look 2 = .ok (.getfield 131, 3) := by decide +kernel
theorem dX1_look_5 : decode cX1_look 5 = .ok (.putfield 118, 3) := by decide +kernel
theorem dX1_look_8 : decode cX1_look 8 = .ok (.aload_n 0, 1) := by decide +kernel
theorem dX1_look_9 : decode cX1_look 9 = .ok (.aload_n 1, 1) := by decide +kernel
theorem dX1_look_10 : decode cX1_look 10 = .ok (.getfield 132, 3) := by decide +kernel
theorem dX1_look_13 : decode cX1_look 13 = .ok (.putfield 67, 3) := by decide +kernel
theorem dX1_look_16 : decode cX1_look 16 = .ok (.aload_n 0, 1) := by decide +kernel
theorem dX1_look_17 : decode cX1_look 17 = .ok (.aload_n 1, 1) := by decide +kernel
theorem dX1_look_18 : decode cX1_look 18 = .ok (.getfield 133, 3) := by decide +kernel
theorem dX1_look_21 : decode cX1_look 21 = .ok (.putfield 125, 3) := by decide +kernel
theorem dX1_look_24 : decode cX1_look 24 = .ok (.aload_n 0, 1) := by decide +kernel
theorem dX1_look_25 : decode cX1_look 25 = .ok (.aload_n 1, 1) := by decide +kernel
theorem dX1_look_26 : decode cX1_look 26 = .ok (.getfield 134, 3) := by decide +kernel
theorem dX1_look_29 : decode cX1_look 29 = .ok (.putfield 128, 3) := by decide +kernel
theorem dX1_look_32 : decode cX1_look 32 = .ok (.aload_n 0, 1) := by decide +kernel
theorem dX1_look_33 : decode cX1_look 33 = .ok (.iload_n 2, 1) := by decide +kernel
theorem dX1_look_34 : decode cX1_look 34 = .ok (.putfield 70, 3) := by decide +kernel
theorem dX1_look_37 : decode cX1_look 37 = .ok (.aload_n 0, 1) := by decide +kernel
theorem dX1_look_38 : decode cX1_look 38 = .ok (.iload_n 3, 1) := by decide +kernel
theorem dX1_look_39 : decode cX1_look 39 = .ok (.putfield 113, 3) := by decide +kernel
theorem dX1_look_42 : decode cX1_look 42 = .ok (.aload_n 0, 1) := by decide +kernel
theorem dX1_look_43 : decode cX1_look 43 = .ok (.iload 4, 2) := by decide +kernel
theorem dX1_look_45 : decode cX1_look 45 = .ok (.putfield 57, 3) := by decide +kernel
theorem dX1_look_48 : decode cX1_look 48 = .ok (.return_, 1) := by decide +kernel
theorem dX1_reckonLays_0 : decode cX1_reckonLays 0 = .ok (.iconst 0, 1) := by decide +kernel
theorem dX1_reckonLays_1 : decode cX1_reckonLays 1 = .ok (.istore 4, 2) := by decide +kernel
theorem dX1_reckonLays_3 : decode cX1_reckonLays 3 = .ok (.iload 4, 2) := by decide +kernel
theorem dX1_reckonLays_5 : decode cX1_reckonLays 5 = .ok (.iconst 3, 1) := by decide +kernel
theorem dX1_reckonLays_6 : decode cX1_reckonLays 6 = .ok (.if_icmp .ge 54, 3) := by decide +kernel
theorem dX1_reckonLays_9 : decode cX1_reckonLays 9 = .ok (.aload_n 0, 1) := by decide +kernel
theorem dX1_reckonLays_10 : decode cX1_reckonLays 10 = .ok (.getfield 113, 3) := by decide +kernel
theorem dX1_reckonLays_13 : decode cX1_reckonLays 13 = .ok (.istore 5, 2) := by decide +kernel
theorem dX1_reckonLays_15 : decode cX1_reckonLays 15 = .ok (.iload 5, 2) := by decide +kernel
theorem dX1_reckonLays_17 : decode cX1_reckonLays 17 = .ok (.aload_n 0, 1) := by decide +kernel
theorem dX1_reckonLays_18 : decode cX1_reckonLays 18 = .ok (.getfield 118, 3) := by decide +kernel
theorem dX1_reckonLays_21 : decode cX1_reckonLays 21 = .ok (.if_icmp .gt 33, 3) := by decide +kernel
theorem dX1_reckonLays_24 : decode cX1_reckonLays 24 = .ok (.aload_n 0, 1) := by decide +kernel
theorem dX1_reckonLays_25 : decode cX1_reckonLays 25 = .ok (.getfield 11, 3) := by decide +kernel
theorem dX1_reckonLays_28 : decode cX1_reckonLays 28 = .ok (.iload 4, 2) := by decide +kernel
theorem dX1_reckonLays_30 : decode cX1_reckonLays 30 = .ok (.sipush 201, 3) := by decide +kernel
theorem dX1_reckonLays_33 : decode cX1_reckonLays 33 = .ok (.imul, 1) := by decide +kernel
theorem dX1_reckonLays_34 : decode cX1_reckonLays 34 = .ok (.iload 5, 2) := by decide +kernel
theorem dX1_reckonLays_36 : decode cX1_reckonLays 36 = .ok (.iadd, 1) := by decide +kernel
theorem dX1_reckonLays_37 : decode cX1_reckonLays 37 = .ok (.aload_n 1, 1) := by decide +kernel
theorem dX1_reckonLays_38 : decode cX1_reckonLays 38 = .ok (.iload 4, 2) := by decide +kernel
theorem dX1_reckonLays_40 : decode cX1_reckonLays 40 = .ok (.iload 5, 2) := by decide +kernel
theorem dX1_reckonLays_42 : decode cX1_reckonLays 42 = .ok (.iload_n 2, 1) := by decide +kernel
theorem dX1_reckonLays_43 : decode cX1_reckonLays 43 = .ok (.iload_n 3, 1) := by decide +kernel
theorem dX1_reckonLays_44 : decode cX1_reckonLays 44 = .ok (.invokevirtual 135, 3) := by decide +kernel
theorem dX1_reckonLays_47 : decode cX1_reckonLays 47 = .ok (.iastore, 1) := by decide +kernel
theorem dX1_reckonLays_48 : decode cX1_reckonLays 48 = .ok (.iinc 5 1, 3) := by decide +kernel
theorem dX1_reckonLays_51 : decode cX1_reckonLays 51 = .ok (.goto (-36), 3) := by decide +kernel
theorem dX1_reckonLays_54 : decode cX1_reckonLays 54 = .ok (.iinc 4 1, 3) := by decide +kernel
theorem dX1_reckonLays_57 : decode cX1_reckonLays 57 = .ok (.goto (-54), 3) := by decide +kernel
theorem dX1_reckonLays_60 : decode cX1_reckonLays 60 = .ok (.aload_n 0, 1) := by decide +kernel
theorem dX1_reckonLays_61 : decode cX1_reckonLays 61 = .ok (.aload_n 0, 1) := by decide +kernel
theorem dX1_reckonLays_62 : decode cX1_reckonLays 62 = .ok (.getfield 15, 3) := by decide +kernel
theorem dX1_reckonLays_65 : decode cX1_reckonLays 65 = .ok (.iconst 0, 1) := by decide +kernel
theorem dX1_reckonLays_66 : decode cX1_reckonLays 66 = .ok (.invokevirtual 93, 3) := by decide +kernel
theorem dX1_reckonLays_69 : decode cX1_reckonLays 69 = .ok (.aload_n 0, 1) := by decide +kernel
theorem dX1_reckonLays_70 : decode cX1_reckonLays 70 = .ok (.getfield 27, 3) := by decide +kernel
theorem dX1_reckonLays_73 : decode cX1_reckonLays 73 = .ok (.aload_n 0, 1) := by decide +kernel
theorem dX1_reckonLays_74 : decode cX1_reckonLays 74 = .ok (.getfield 70, 3) := by decide +kernel
theorem dX1_reckonLays_77 : decode cX1_reckonLays 77 = .ok (.aload_n 0, 1) := by decide +kernel
theorem dX1_reckonLays_78 : decode cX1_reckonLays 78 = .ok (.getfield 113, 3) := by decide +kernel
theorem dX1_reckonLays_81 : decode cX1_reckonLays 81 = .ok (.iastore, 1) := by decide +kernel
theorem dX1_reckonLays_82 : decode cX1_reckonLays 82 = .ok (.aload_n 0, 1) := by decide +kernel
theorem dX1_reckonLays_83 : decode cX1_reckonLays 83 = .ok (.getfield 70, 3) := by decide +kernel
theorem dX1_reckonLays_86 : decode cX1_reckonLays 86 = .ok (.istore 4, 2) := by decide +kernel
theorem dX1_reckonLays_88 : decode cX1_reckonLays 88 = .ok (.iload 4, 2) := by decide +kernel
theorem dX1_reckonLays_90 : decode cX1_reckonLays 90 = .ok (.aload_n 0, 1) := by decide +kernel
theorem dX1_reckonLays_91 : decode cX1_reckonLays 91 = .ok (.getfield 67, 3) := by decide +kernel
theorem dX1_reckonLays_94 : decode cX1_reckonLays 94 = .ok (.if_icmp .ge 47, 3) := by decide +kernel
theorem dX1_reckonLays_97 : decode cX1_reckonLays 97 = .ok (.aload_n 0, 1) := by decide +kernel
theorem dX1_reckonLays_98 : decode cX1_reckonLays 98 = .ok (.getfield 27, 3) := by decide +kernel
theorem dX1_reckonLays_101 : decode cX1_reckonLays 101 = .ok (.iload 4, 2) := by decide +kernel
theorem dX1_reckonLays_103 : decode cX1_reckonLays 103 = .ok (.iconst 1, 1) := by decide +kernel
theorem dX1_reckonLays_104 : decode cX1_reckonLays 104 = .ok (.iadd, 1) := by decide +kernel
theorem dX1_reckonLays_105 : decode cX1_reckonLays 105 = .ok (.aload_n 0, 1) := by decide +kernel
theorem dX1_reckonLays_106 : decode cX1_reckonLays 106 = .ok (.iconst 0, 1) := by decide +kernel
theorem dX1_reckonLays_107 : decode cX1_reckonLays 107 = .ok (.aload_n 0, 1) := by decide +kernel
theorem dX1_reckonLays_108 : decode cX1_reckonLays 108 = .ok (.getfield 27, 3) := by decide +kernel
theorem dX1_reckonLays_111 : decode cX1_reckonLays 111 = .ok (.iload 4, 2) := by decide +kernel
theorem dX1_reckonLays_113 : decode cX1_reckonLays 113 = .ok (.iaload, 1) := by decide +kernel
theorem dX1_reckonLays_114 : decode cX1_reckonLays 114 = .ok (.iload 4, 2) := by decide +kernel
theorem dX1_reckonLays_116 : decode cX1_reckonLays 116 = .ok (.aload_n 0, 1) := by decide +kernel
theorem dX1_reckonLays_117 : decode cX1_reckonLays 117 = .ok (.getfield 70, 3) := by decide +kernel
theorem dX1_reckonLays_120 : decode cX1_reckonLays 120 = .ok (.if_icmp .ne 10, 3) := by decide +kernel
theorem dX1_reckonLays_123 : decode cX1_reckonLays 123 = .ok (.aload_n 0, 1) := by decide +kernel
theorem dX1_reckonLays_124 : decode cX1_reckonLays 124 = .ok (.getfield 57, 3) := by decide +kernel
theorem dX1_reckonLays_127 : decode cX1_reckonLays 127 = .ok (.goto 4, 3) := by decide +kernel
theorem dX1_reckonLays_130 : decode cX1_reckonLays 130 = .ok (.iconst 0, 1) := by decide +kernel
theorem dX1_reckonLays_131 : decode cX1_reckonLays 131 = .ok (.invokevirtual 121, 3) := by decide +kernel
theorem dX1_reckonLays_134 : decode cX1_reckonLays 134 = .ok (.iastore, 1) := by decide +kernel
theorem dX1_reckonLays_135 : decode cX1_reckonLays 135 = .ok (.iinc 4 1, 3) := by decide +kernel
theorem dX1_reckonLays_138 : decode cX1_reckonLays 138 = .ok (.goto (-50), 3) := by decide +kernel
theorem dX1_reckonLays_141 : decode cX1_reckonLays 141 = .ok (.return_, 1) := by decide +kernel
theorem dX1_fillBehind_0 : decode cX1_fillBehind 0 = .ok (.iconst 0, 1) := by decide +kernel
theorem dX1_fillBehind_1 : decode cX1_fillBehind 1 = .ok (.istore_n 3, 1) := by decide +kernel
theorem dX1_fillBehind_2 : decode cX1_fillBehind 2 = .ok (.iload_n 3, 1) := by decide +kernel
theorem dX1_fillBehind_3 : decode cX1_fillBehind 3 = .ok (.iconst 3, 1) := by decide +kernel
theorem dX1_fillBehind_4 : decode cX1_fillBehind 4 = .ok (.if_icmp .ge 48, 3) := by decide +kernel
theorem dX1_fillBehind_7 : decode cX1_fillBehind 7 = .ok (.aload_n 0, 1) := by decide +kernel
theorem dX1_fillBehind_8 : decode cX1_fillBehind 8 = .ok (.getfield 113, 3) := by decide +kernel
theorem dX1_fillBehind_11 : decode cX1_fillBehind 11 = .ok (.istore 4, 2) := by decide +kernel
theorem dX1_fillBehind_13 : decode cX1_fillBehind 13 = .ok (.iload 4, 2) := by decide +kernel
theorem dX1_fillBehind_15 : decode cX1_fillBehind 15 = .ok (.aload_n 0, 1) := by decide +kernel
theorem dX1_fillBehind_16 : decode cX1_fillBehind 16 = .ok (.getfield 118, 3) := by decide +kernel
theorem dX1_fillBehind_19 : decode cX1_fillBehind 19 = .ok (.if_icmp .gt 27, 3) := by decide +kernel
theorem dX1_fillBehind_22 : decode cX1_fillBehind 22 = .ok (.aload_n 1, 1) := by decide +kernel
theorem dX1_fillBehind_23 : decode cX1_fillBehind 23 = .ok (.iload_n 3, 1) := by decide +kernel
theorem dX1_fillBehind_24 : decode cX1_fillBehind 24 = .ok (.sipush 201, 3) := by decide +kernel
theorem dX1_fillBehind_27 : decode cX1_fillBehind 27 = .ok (.imul, 1) := by decide +kernel
theorem dX1_fillBehind_28 : decode cX1_fillBehind 28 = .ok (.iload 4, 2) := by decide +kernel
theorem dX1_fillBehind_30 : decode cX1_fillBehind 30 = .ok (.iadd, 1) := by decide +kernel
theorem dX1_fillBehind_31 : decode cX1_fillBehind 31 = .ok (.aload_n 0, 1) := by decide +kernel
theorem dX1_fillBehind_32 : decode cX1_fillBehind 32 = .ok (.iload_n 3, 1) := by decide +kernel
theorem dX1_fillBehind_33 : decode cX1_fillBehind 33 = .ok (.iload 4, 2) := by decide +kernel
theorem dX1_fillBehind_35 : decode cX1_fillBehind 35 = .ok (.iload_n 2, 1) := by decide +kernel
theorem dX1_fillBehind_36 : decode cX1_fillBehind 36 = .ok (.invokevirtual 121, 3) := by decide +kernel
theorem dX1_fillBehind_39 : decode cX1_fillBehind 39 = .ok (.iastore, 1) := by decide +kernel
theorem dX1_fillBehind_40 : decode cX1_fillBehind 40 = .ok (.iinc 4 1, 3) := by decide +kernel
theorem dX1_fillBehind_43 : decode cX1_fillBehind 43 = .ok (.goto (-30), 3) := by decide +kernel
theorem dX1_fillBehind_46 : decode cX1_fillBehind 46 = .ok (.iinc 3 1, 3) := by decide +kernel
theorem dX1_fillBehind_49 : decode cX1_fillBehind 49 = .ok (.goto (-47), 3) := by decide +kernel
theorem dX1_fillBehind_52 : decode cX1_fillBehind 52 = .ok (.return_, 1) := by decide +kernel
theorem dX1_laidBehind_0 : decode cX1_laidBehind 0 = .ok (.aload_n 0, 1) := by decide +kernel
theorem dX1_laidBehind_1 : decode cX1_laidBehind 1 = .ok (.getfield 11, 3) := by decide +kernel
theorem dX1_laidBehind_4 : decode cX1_laidBehind 4 = .ok (.iload_n 1, 1) := by decide +kernel
theorem dX1_laidBehind_5 : decode cX1_laidBehind 5 = .ok (.sipush 201, 3) := by decide +kernel
theorem dX1_laidBehind_8 : decode cX1_laidBehind 8 = .ok (.imul, 1) := by decide +kernel
theorem dX1_laidBehind_9 : decode cX1_laidBehind 9 = .ok (.iload_n 2, 1) := by decide +kernel
theorem dX1_laidBehind_10 : decode cX1_laidBehind 10 = .ok (.iadd, 1) := by decide +kernel
theorem dX1_laidBehind_11 : decode cX1_laidBehind 11 = .ok (.iaload, 1) := by decide +kernel
theorem dX1_laidBehind_12 : decode cX1_laidBehind 12 = .ok (.iload_n 3, 1) := by decide +kernel
theorem dX1_laidBehind_13 : decode cX1_laidBehind 13 = .ok (.isub, 1) := by decide +kernel
theorem dX1_laidBehind_14 : decode cX1_laidBehind 14 = .ok (.istore 4, 2) := by decide +kernel
theorem dX1_laidBehind_16 : decode cX1_laidBehind 16 = .ok (.iload 4, 2) := by decide +kernel
theorem dX1_laidBehind_18 : decode cX1_laidBehind 18 = .ok (.ifCond .gt 7, 3) := by decide +kernel
theorem dX1_laidBehind_21 : decode cX1_laidBehind 21 = .ok (.iload_n 2, 1) := by decide +kernel
theorem dX1_laidBehind_22 : decode cX1_laidBehind 22 = .ok (.goto 14, 3) := by decide +kernel
theorem dX1_laidBehind_25 : decode cX1_laidBehind 25 = .ok (.aload_n 0, 1) := by decide +kernel
theorem dX1_laidBehind_26 : decode cX1_laidBehind 26 = .ok (.getfield 118, 3) := by decide +kernel
theorem dX1_laidBehind_29 : decode cX1_laidBehind 29 = .ok (.iload_n 2, 1) := by decide +kernel
theorem dX1_laidBehind_30 : decode cX1_laidBehind 30 = .ok (.iload 4, 2) := by decide +kernel
theorem dX1_laidBehind_32 : decode cX1_laidBehind 32 = .ok (.iadd, 1) := by decide +kernel
theorem dX1_laidBehind_33 : decode cX1_laidBehind 33 = .ok (.invokestatic 139, 3) := by decide +kernel
theorem dX1_laidBehind_36 : decode cX1_laidBehind 36 = .ok (.ireturn, 1) := by decide +kernel
theorem dX1_startAtSummer_0 : decode cX1_startAtSummer 0 = .ok (.aload_n 0, 1) := by decide +kernel
theorem dX1_startAtSummer_1 : decode cX1_startAtSummer 1 = .ok (.getfield 113, 3) := by decide +kernel
theorem dX1_startAtSummer_4 : decode cX1_startAtSummer 4 = .ok (.istore_n 1, 1) := by decide +kernel
theorem dX1_startAtSummer_5 : decode cX1_startAtSummer 5 = .ok (.iload_n 1, 1) := by decide +kernel
theorem dX1_startAtSummer_6 : decode cX1_startAtSummer 6 = .ok (.aload_n 0, 1) := by decide +kernel
theorem dX1_startAtSummer_7 : decode cX1_startAtSummer 7 = .ok (.getfield 118, 3) := by decide +kernel
theorem dX1_startAtSummer_10 : decode cX1_startAtSummer 10 = .ok (.if_icmp .ge 16, 3) := by decide +kernel
theorem dX1_startAtSummer_13 : decode cX1_startAtSummer 13 = .ok (.aload_n 0, 1) := by decide +kernel
theorem dX1_startAtSummer_14 : decode cX1_startAtSummer 14 = .ok (.getfield 21, 3) := by decide +kernel
theorem dX1_startAtSummer_17 : decode cX1_startAtSummer 17 = .ok (.iload_n 1, 1) := by decide +kernel
theorem dX1_startAtSummer_18 : decode cX1_startAtSummer 18 = .ok (.iconst 0, 1) := by decide +kernel
theorem dX1_startAtSummer_19 : decode cX1_startAtSummer 19 = .ok (.iastore, 1) := by decide +kernel
theorem dX1_startAtSummer_20 : decode cX1_startAtSummer 20 = .ok (.iinc 1 1, 3) := by decide +kernel
theorem dX1_startAtSummer_23 : decode cX1_startAtSummer 23 = .ok (.goto (-18), 3) := by decide +kernel
theorem dX1_startAtSummer_26 : decode cX1_startAtSummer 26 = .ok (.aload_n 0, 1) := by decide +kernel
theorem dX1_startAtSummer_27 : decode cX1_startAtSummer 27 = .ok (.getfield 21, 3) := by decide +kernel
theorem dX1_startAtSummer_30 : decode cX1_startAtSummer 30 = .ok (.aload_n 0, 1) := by decide +kernel
theorem dX1_startAtSummer_31 : decode cX1_startAtSummer 31 = .ok (.getfield 118, 3) := by decide +kernel
theorem dX1_startAtSummer_34 : decode cX1_startAtSummer 34 = .ok (.ldc 100, 2) := by decide +kernel
theorem dX1_startAtSummer_36 : decode cX1_startAtSummer 36 = .ok (.iastore, 1) := by decide +kernel
theorem dX1_startAtSummer_37 : decode cX1_startAtSummer 37 = .ok (.return_, 1) := by decide +kernel
theorem dX1_goBackToTomorrow_0 : decode cX1_goBackToTomorrow 0 = .ok (.aload_n 0, 1) := by decide +kernel
theorem dX1_goBackToTomorrow_1 : decode cX1_goBackToTomorrow 1 = .ok (.invokevirtual 64, 3) := by decide +kernel
theorem dX1_goBackToTomorrow_4 : decode cX1_goBackToTomorrow 4 = .ok (.aload_n 0, 1) := by decide +kernel
theorem dX1_goBackToTomorrow_5 : decode cX1_goBackToTomorrow 5 = .ok (.getfield 67, 3) := by decide +kernel
theorem dX1_goBackToTomorrow_8 : decode cX1_goBackToTomorrow 8 = .ok (.iconst 1, 1) := by decide +kernel
theorem dX1_goBackToTomorrow_9 : decode cX1_goBackToTomorrow 9 = .ok (.isub, 1) := by decide +kernel
theorem dX1_goBackToTomorrow_10 : decode cX1_goBackToTomorrow 10 = .ok (.istore_n 1, 1) := by decide +kernel
theorem dX1_goBackToTomorrow_11 : decode cX1_goBackToTomorrow 11 = .ok (.iload_n 1, 1) := by decide +kernel
theorem dX1_goBackToTomorrow_12 : decode cX1_goBackToTomorrow 12 = .ok (.aload_n 0, 1) := by decide +kernel
theorem dX1_goBackToTomorrow_13 : decode cX1_goBackToTomorrow 13 = .ok (.getfield 70, 3) := by decide +kernel
theorem dX1_goBackToTomorrow_16 : decode cX1_goBackToTomorrow 16 = .ok (.if_icmp .le 22, 3) := by decide +kernel
theorem dX1_goBackToTomorrow_19 : decode cX1_goBackToTomorrow 19 = .ok (.aload_n 0, 1) := by decide +kernel
theorem dX1_goBackToTomorrow_20 : decode cX1_goBackToTomorrow 20 = .ok (.aload_n 0, 1) := by decide +kernel
theorem dX1_goBackToTomorrow_21 : decode cX1_goBackToTomorrow 21 = .ok (.getfield 21, 3) := by decide +kernel
theorem dX1_goBackToTomorrow_24 : decode cX1_goBackToTomorrow 24 = .ok (.aload_n 0, 1) := by decide +kernel
theorem dX1_goBackToTomorrow_25 : decode cX1_goBackToTomorrow 25 = .ok (.getfield 15, 3) := by decide +kernel
theorem dX1_goBackToTomorrow_28 : decode cX1_goBackToTomorrow 28 = .ok (.iload_n 1, 1) := by decide +kernel
theorem dX1_goBackToTomorrow_29 : decode cX1_goBackToTomorrow 29 = .ok (.invokevirtual 71, 3) := by decide +kernel
theorem dX1_goBackToTomorrow_32 : decode cX1_goBackToTomorrow 32 = .ok (.iinc 1 (-1), 3) := by decide +kernel
theorem dX1_goBackToTomorrow_35 : decode cX1_goBackToTomorrow 35 = .ok (.goto (-24), 3) := by decide +kernel
theorem dX1_goBackToTomorrow_38 : decode cX1_goBackToTomorrow 38 = .ok (.return_, 1) := by decide +kernel
theorem dX1_stepBack_0 : decode cX1_stepBack 0 = .ok (.aload_n 0, 1) := by decide +kernel
theorem dX1_stepBack_1 : decode cX1_stepBack 1 = .ok (.getfield 27, 3) := by decide +kernel
theorem dX1_stepBack_4 : decode cX1_stepBack 4 = .ok (.iload_n 3, 1) := by decide +kernel
theorem dX1_stepBack_5 : decode cX1_stepBack 5 = .ok (.iaload, 1) := by decide +kernel
theorem dX1_stepBack_6 : decode cX1_stepBack 6 = .ok (.aload_n 0, 1) := by decide +kernel
theorem dX1_stepBack_7 : decode cX1_stepBack 7 = .ok (.getfield 118, 3) := by decide +kernel
theorem dX1_stepBack_10 : decode cX1_stepBack 10 = .ok (.iconst 1, 1) := by decide +kernel
theorem dX1_stepBack_11 : decode cX1_stepBack 11 = .ok (.isub, 1) := by decide +kernel
theorem dX1_stepBack_12 : decode cX1_stepBack 12 = .ok (.invokestatic 139, 3) := by decide +kernel
theorem dX1_stepBack_15 : decode cX1_stepBack 15 = .ok (.istore 4, 2) := by decide +kernel
theorem dX1_stepBack_17 : decode cX1_stepBack 17 = .ok (.bipush 10, 2) := by decide +kernel
theorem dX1_stepBack_19 : decode cX1_stepBack 19 = .ok (.aload_n 0, 1) := by decide +kernel
theorem dX1_stepBack_20 : decode cX1_stepBack 20 = .ok (.getfield 125, 3) := by decide +kernel
theorem dX1_stepBack_23 : decode cX1_stepBack 23 = .ok (.isub, 1) := by decide +kernel
theorem dX1_stepBack_24 : decode cX1_stepBack 24 = .ok (.aload_n 0, 1) := by decide +kernel
theorem dX1_stepBack_25 : decode cX1_stepBack 25 = .ok (.getfield 128, 3) := by decide +kernel
theorem dX1_stepBack_28 : decode cX1_stepBack 28 = .ok (.isub, 1) := by decide +kernel
theorem dX1_stepBack_29 : decode cX1_stepBack 29 = .ok (.istore 5, 2) := by decide +kernel
theorem dX1_stepBack_31 : decode cX1_stepBack 31 = .ok (.aload_n 0, 1) := by decide +kernel
theorem dX1_stepBack_32 : decode cX1_stepBack 32 = .ok (.getfield 113, 3) := by decide +kernel
theorem dX1_stepBack_35 : decode cX1_stepBack 35 = .ok (.istore 6, 2) := by decide +kernel
theorem dX1_stepBack_37 : decode cX1_stepBack 37 = .ok (.iload 6, 2) := by decide +kernel
theorem dX1_stepBack_39 : decode cX1_stepBack 39 = .ok (.iload 4, 2) := by decide +kernel
theorem dX1_stepBack_41 : decode cX1_stepBack 41 = .ok (.if_icmp .gt 57, 3) := by decide +kernel
theorem dX1_stepBack_44 : decode cX1_stepBack 44 = .ok (.aload_n 1, 1) := by decide +kernel
theorem dX1_stepBack_45 : decode cX1_stepBack 45 = .ok (.iload 6, 2) := by decide +kernel
theorem dX1_stepBack_47 : decode cX1_stepBack 47 = .ok (.aload_n 1, 1) := by decide +kernel
theorem dX1_stepBack_48 : decode cX1_stepBack 48 = .ok (.aload_n 2, 1) := by decide +kernel
theorem dX1_stepBack_49 : decode cX1_stepBack 49 = .ok (.iload 6, 2) := by decide +kernel
theorem dX1_stepBack_51 : decode cX1_stepBack 51 = .ok (.iaload, 1) := by decide +kernel
theorem dX1_stepBack_52 : decode cX1_stepBack 52 = .ok (.iaload, 1) := by decide +kernel
theorem dX1_stepBack_53 : decode cX1_stepBack 53 = .ok (.iload 5, 2) := by decide +kernel
theorem dX1_stepBack_55 : decode cX1_stepBack 55 = .ok (.imul, 1) := by decide +kernel
theorem dX1_stepBack_56 : decode cX1_stepBack 56 = .ok (.aload_n 1, 1) := by decide +kernel
theorem dX1_stepBack_57 : decode cX1_stepBack 57 = .ok (.aload_n 2, 1) := by decide +kernel
theorem dX1_stepBack_58 : decode cX1_stepBack 58 = .ok (.sipush 201, 3) := by decide +kernel
theorem dX1_stepBack_61 : decode cX1_stepBack 61 = .ok (.iload 6, 2) := by decide +kernel
theorem dX1_stepBack_63 : decode cX1_stepBack 63 = .ok (.iadd, 1) := by decide +kernel
theorem dX1_stepBack_64 : decode cX1_stepBack 64 = .ok (.iaload, 1) := by decide +kernel
theorem dX1_stepBack_65 : decode cX1_stepBack 65 = .ok (.iaload, 1) := by decide +kernel
theorem dX1_stepBack_66 : decode cX1_stepBack 66 = .ok (.aload_n 0, 1) := by decide +kernel
theorem dX1_stepBack_67 : decode cX1_stepBack 67 = .ok (.getfield 125, 3) := by decide +kernel
theorem dX1_stepBack_70 : decode cX1_stepBack 70 = .ok (.imul, 1) := by decide +kernel
theorem dX1_stepBack_71 : decode cX1_stepBack 71 = .ok (.iadd, 1) := by decide +kernel
theorem dX1_stepBack_72 : decode cX1_stepBack 72 = .ok (.aload_n 1, 1) := by decide +kernel
theorem dX1_stepBack_73 : decode cX1_stepBack 73 = .ok (.aload_n 2, 1) := by decide +kernel
theorem dX1_stepBack_74 : decode cX1_stepBack 74 = .ok (.sipush 402, 3) := by decide +kernel
theorem dX1_stepBack_77 : decode cX1_stepBack 77 = .ok (.iload 6, 2) := by decide +kernel
theorem dX1_stepBack_79 : decode cX1_stepBack 79 = .ok (.iadd, 1) := by decide +kernel
theorem dX1_stepBack_80 : decode cX1_stepBack 80 = .ok (.iaload, 1) := by decide +kernel
theorem dX1_stepBack_81 : decode cX1_stepBack 81 = .ok (.iaload, 1) := by decide +kernel
theorem dX1_stepBack_82 : decode cX1_stepBack 82 = .ok (.aload_n 0, 1) := by decide +kernel
theorem dX1_stepBack_83 : decode cX1_stepBack 83 = .ok (.getfield 128, 3) := by decide +kernel
theorem dX1_stepBack_86 : decode cX1_stepBack 86 = .ok (.imul, 1) := by decide +kernel
theorem dX1_stepBack_87 : decode cX1_stepBack 87 = .ok (.iadd, 1) := by decide +kernel
theorem dX1_stepBack_88 : decode cX1_stepBack 88 = .ok (.bipush 10, 2) := by decide +kernel
theorem dX1_stepBack_90 : decode cX1_stepBack 90 = .ok (.idiv, 1) := by decide +kernel
theorem dX1_stepBack_91 : decode cX1_stepBack 91 = .ok (.iastore, 1) := by decide +kernel
theorem dX1_stepBack_92 : decode cX1_stepBack 92 = .ok (.iinc 6 1, 3) := by decide +kernel
theorem dX1_stepBack_95 : decode cX1_stepBack 95 = .ok (.goto (-58), 3) := by decide +kernel
theorem dX1_stepBack_98 : decode cX1_stepBack 98 = .ok (.return_, 1) := by decide +kernel
theorem dX1_oddsToday_0 : decode cX1_oddsToday 0 = .ok (.aload_n 0, 1) := by decide +kernel
theorem dX1_oddsToday_1 : decode cX1_oddsToday 1 = .ok (.getfield 113, 3) := by decide +kernel
theorem dX1_oddsToday_4 : decode cX1_oddsToday 4 = .ok (.aload_n 0, 1) := by decide +kernel
theorem dX1_oddsToday_5 : decode cX1_oddsToday 5 = .ok (.getfield 118, 3) := by decide +kernel
theorem dX1_oddsToday_8 : decode cX1_oddsToday 8 = .ok (.if_icmp .lt 6, 3) := by decide +kernel
theorem dX1_oddsToday_11 : decode cX1_oddsToday 11 = .ok (.ldc 100, 2) := by decide +kernel
theorem dX1_oddsToday_13 : decode cX1_oddsToday 13 = .ok (.ireturn, 1) := by decide +kernel
theorem dX1_oddsToday_14 : decode cX1_oddsToday 14 = .ok (.aload_n 0, 1) := by decide +kernel
theorem dX1_oddsToday_15 : decode cX1_oddsToday 15 = .ok (.getfield 70, 3) := by decide +kernel
theorem dX1_oddsToday_18 : decode cX1_oddsToday 18 = .ok (.aload_n 0, 1) := by decide +kernel
theorem dX1_oddsToday_19 : decode cX1_oddsToday 19 = .ok (.getfield 67, 3) := by decide +kernel
theorem dX1_oddsToday_22 : decode cX1_oddsToday 22 = .ok (.if_icmp .lt 5, 3) := by decide +kernel
theorem dX1_oddsToday_25 : decode cX1_oddsToday 25 = .ok (.iconst 0, 1) := by decide +kernel
theorem dX1_oddsToday_26 : decode cX1_oddsToday 26 = .ok (.ireturn, 1) := by decide +kernel
theorem dX1_oddsToday_27 : decode cX1_oddsToday 27 = .ok (.aload_n 1, 1) := by decide +kernel
theorem dX1_oddsToday_28 : decode cX1_oddsToday 28 = .ok (.aload_n 0, 1) := by decide +kernel
theorem dX1_oddsToday_29 : decode cX1_oddsToday 29 = .ok (.iconst 0, 1) := by decide +kernel
theorem dX1_oddsToday_30 : decode cX1_oddsToday 30 = .ok (.aload_n 0, 1) := by decide +kernel
theorem dX1_oddsToday_31 : decode cX1_oddsToday 31 = .ok (.getfield 113, 3) := by decide +kernel
theorem dX1_oddsToday_34 : decode cX1_oddsToday 34 = .ok (.iload_n 2, 1) := by decide +kernel
theorem dX1_oddsToday_35 : decode cX1_oddsToday 35 = .ok (.invokevirtual 121, 3) := by decide +kernel
theorem dX1_oddsToday_38 : decode cX1_oddsToday 38 = .ok (.iaload, 1) := by decide +kernel
theorem dX1_oddsToday_39 : decode cX1_oddsToday 39 = .ok (.bipush 10, 2) := by decide +kernel
theorem dX1_oddsToday_41 : decode cX1_oddsToday 41 = .ok (.aload_n 0, 1) := by decide +kernel
theorem dX1_oddsToday_42 : decode cX1_oddsToday 42 = .ok (.getfield 125, 3) := by decide +kernel
theorem dX1_oddsToday_45 : decode cX1_oddsToday 45 = .ok (.isub, 1) := by decide +kernel
theorem dX1_oddsToday_46 : decode cX1_oddsToday 46 = .ok (.aload_n 0, 1) := by decide +kernel
theorem dX1_oddsToday_47 : decode cX1_oddsToday 47 = .ok (.getfield 128, 3) := by decide +kernel
theorem dX1_oddsToday_50 : decode cX1_oddsToday 50 = .ok (.isub, 1) := by decide +kernel
theorem dX1_oddsToday_51 : decode cX1_oddsToday 51 = .ok (.imul, 1) := by decide +kernel
theorem dX1_oddsToday_52 : decode cX1_oddsToday 52 = .ok (.aload_n 1, 1) := by decide +kernel
theorem dX1_oddsToday_53 : decode cX1_oddsToday 53 = .ok (.aload_n 0, 1) := by decide +kernel
theorem dX1_oddsToday_54 : decode cX1_oddsToday 54 = .ok (.iconst 1, 1) := by decide +kernel
theorem dX1_oddsToday_55 : decode cX1_oddsToday 55 = .ok (.aload_n 0, 1) := by decide +kernel
theorem dX1_oddsToday_56 : decode cX1_oddsToday 56 = .ok (.getfield 113, 3) := by decide +kernel
theorem dX1_oddsToday_59 : decode cX1_oddsToday 59 = .ok (.iload_n 2, 1) := by decide +kernel
theorem dX1_oddsToday_60 : decode cX1_oddsToday 60 = .ok (.invokevirtual 121, 3) := by decide +kernel
theorem dX1_oddsToday_63 : decode cX1_oddsToday 63 = .ok (.iaload, 1) := by decide +kernel
theorem dX1_oddsToday_64 : decode cX1_oddsToday 64 = .ok (.aload_n 0, 1) := by decide +kernel
theorem dX1_oddsToday_65 : decode cX1_oddsToday 65 = .ok (.getfield 125, 3) := by decide +kernel
theorem dX1_oddsToday_68 : decode cX1_oddsToday 68 = .ok (.imul, 1) := by decide +kernel
theorem dX1_oddsToday_69 : decode cX1_oddsToday 69 = .ok (.iadd, 1) := by decide +kernel
theorem dX1_oddsToday_70 : decode cX1_oddsToday 70 = .ok (.aload_n 1, 1) := by decide +kernel
theorem dX1_oddsToday_71 : decode cX1_oddsToday 71 = .ok (.aload_n 0, 1) := by decide +kernel
theorem dX1_oddsToday_72 : decode cX1_oddsToday 72 = .ok (.iconst 2, 1) := by decide +kernel
theorem dX1_oddsToday_73 : decode cX1_oddsToday 73 = .ok (.aload_n 0, 1) := by decide +kernel
theorem dX1_oddsToday_74 : decode cX1_oddsToday 74 = .ok (.getfield 113, 3) := by decide +kernel
theorem dX1_oddsToday_77 : decode cX1_oddsToday 77 = .ok (.iload_n 2, 1) := by decide +kernel
theorem dX1_oddsToday_78 : decode cX1_oddsToday 78 = .ok (.invokevirtual 121, 3) := by decide +kernel
theorem dX1_oddsToday_81 : decode cX1_oddsToday 81 = .ok (.iaload, 1) := by decide +kernel
theorem dX1_oddsToday_82 : decode cX1_oddsToday 82 = .ok (.aload_n 0, 1) := by decide +kernel
theorem dX1_oddsToday_83 : decode cX1_oddsToday 83 = .ok (.getfield 128, 3) := by decide +kernel
theorem dX1_oddsToday_86 : decode cX1_oddsToday 86 = .ok (.imul, 1) := by decide +kernel
theorem dX1_oddsToday_87 : decode cX1_oddsToday 87 = .ok (.iadd, 1) := by decide +kernel
theorem dX1_oddsToday_88 : decode cX1_oddsToday 88 = .ok (.bipush 10, 2) := by decide +kernel
theorem dX1_oddsToday_90 : decode cX1_oddsToday 90 = .ok (.idiv, 1) := by decide +kernel
theorem dX1_oddsToday_91 : decode cX1_oddsToday 91 = .ok (.ireturn, 1) := by decide +kernel
theorem dX2_init_0 : decode cX2_init 0 = .ok (.aload_n 0, 1) := by decide +kernel
theorem dX2_init_1 : decode cX2_init 1 = .ok (.iload_n 1, 1) := by decide +kernel
theorem dX2_init_2 : decode cX2_init 2 = .ok (.iload_n 2, 1) := by decide +kernel
theorem dX2_init_3 : decode cX2_init 3 = .ok (.invokespecial 3, 3) := by decide +kernel
theorem dX2_init_6 : decode cX2_init 6 = .ok (.return_, 1) := by decide +kernel
theorem dX2_kind_0 : decode cX2_kind 0 = .ok (.iconst 3, 1) := by decide +kernel
theorem dX2_kind_1 : decode cX2_kind 1 = .ok (.ireturn, 1) := by decide +kernel
theorem dX2_hauls_0 : decode cX2_hauls 0 = .ok (.iconst 2, 1) := by decide +kernel
theorem dX2_hauls_1 : decode cX2_hauls 1 = .ok (.aload_n 0, 1) := by decide +kernel
theorem dX2_hauls_2 : decode cX2_hauls 2 = .ok (.iload_n 1, 1) := by decide +kernel
theorem dX2_hauls_3 : decode cX2_hauls 3 = .ok (.iload_n 2, 1) := by decide +kernel
theorem dX2_hauls_4 : decode cX2_hauls 4 = .ok (.invokespecial 9, 3) := by decide +kernel
theorem dX2_hauls_7 : decode cX2_hauls 7 = .ok (.imul, 1) := by decide +kernel
theorem dX2_hauls_8 : decode cX2_hauls 8 = .ok (.ireturn, 1) := by decide +kernel
theorem dX2_laysInThaw_0 : decode cX2_laysInThaw 0 = .ok (.aload_n 0, 1) := by decide +kernel
theorem dX2_laysInThaw_1 : decode cX2_laysInThaw 1 = .ok (.iload_n 1, 1) := by decide +kernel
theorem dX2_laysInThaw_2 : decode cX2_laysInThaw 2 = .ok (.invokespecial 13, 3) := by decide +kernel
theorem dX2_laysInThaw_5 : decode cX2_laysInThaw 5 = .ok (.istore_n 2, 1) := by decide +kernel
theorem dX2_laysInThaw_6 : decode cX2_laysInThaw 6 = .ok (.iload_n 2, 1) := by decide +kernel
theorem dX2_laysInThaw_7 : decode cX2_laysInThaw 7 = .ok (.iconst 2, 1) := by decide +kernel
theorem dX2_laysInThaw_8 : decode cX2_laysInThaw 8 = .ok (.if_icmp .lt 9, 3) := by decide +kernel
theorem dX2_laysInThaw_11 : decode cX2_laysInThaw 11 = .ok (.iload_n 2, 1) := by decide +kernel
theorem dX2_laysInThaw_12 : decode cX2_laysInThaw 12 = .ok (.iconst 2, 1) := by decide +kernel
theorem dX2_laysInThaw_13 : decode cX2_laysInThaw 13 = .ok (.isub, 1) := by decide +kernel
theorem dX2_laysInThaw_14 : decode cX2_laysInThaw 14 = .ok (.goto 4, 3) := by decide +kernel
theorem dX2_laysInThaw_17 : decode cX2_laysInThaw 17 = .ok (.iconst 0, 1) := by decide +kernel
theorem dX2_laysInThaw_18 : decode cX2_laysInThaw 18 = .ok (.ireturn, 1) := by decide +kernel
theorem dX3_init_0 : decode cX3_init 0 = .ok (.aload_n 0, 1) := by decide +kernel
theorem dX3_init_1 : decode cX3_init 1 = .ok (.iload_n 1, 1) := by decide +kernel
theorem dX3_init_2 : decode cX3_init 2 = .ok (.iload_n 2, 1) := by decide +kernel
theorem dX3_init_3 : decode cX3_init 3 = .ok (.invokespecial 3, 3) := by decide +kernel
theorem dX3_init_6 : decode cX3_init 6 = .ok (.return_, 1) := by decide +kernel
theorem dX3_kind_0 : decode cX3_kind 0 = .ok (.iconst 1, 1) := by decide +kernel
theorem dX3_kind_1 : decode cX3_kind 1 = .ok (.ireturn, 1) := by decide +kernel
theorem dX3_hauls_0 : decode cX3_hauls 0 = .ok (.aload_n 0, 1) := by decide +kernel
theorem dX3_hauls_1 : decode cX3_hauls 1 = .ok (.getfield 9, 3) := by decide +kernel
theorem dX3_hauls_4 : decode cX3_hauls 4 = .ok (.iload_n 2, 1) := by decide +kernel
theorem dX3_hauls_5 : decode cX3_hauls 5 = .ok (.iadd, 1) := by decide +kernel
theorem dX3_hauls_6 : decode cX3_hauls 6 = .ok (.aload_n 0, 1) := by decide +kernel
theorem dX3_hauls_7 : decode cX3_hauls 7 = .ok (.getfield 15, 3) := by decide +kernel
theorem dX3_hauls_10 : decode cX3_hauls 10 = .ok (.iadd, 1) := by decide +kernel
theorem dX3_hauls_11 : decode cX3_hauls 11 = .ok (.ireturn, 1) := by decide +kernel
theorem dX4_init_0 : decode cX4_init 0 = .ok (.aload_n 0, 1) := by decide +kernel
theorem dX4_init_1 : decode cX4_init 1 = .ok (.iload_n 1, 1) := by decide +kernel
theorem dX4_init_2 : decode cX4_init 2 = .ok (.iload_n 2, 1) := by decide +kernel
theorem dX4_init_3 : decode cX4_init 3 = .ok (.invokespecial 3, 3) := by decide +kernel
theorem dX4_init_6 : decode cX4_init 6 = .ok (.return_, 1) := by decide +kernel
theorem dX4_kind_0 : decode cX4_kind 0 = .ok (.iconst 4, 1) := by decide +kernel
theorem dX4_kind_1 : decode cX4_kind 1 = .ok (.ireturn, 1) := by decide +kernel
theorem dX4_hauls_0 : decode cX4_hauls 0 = .ok (.aload_n 0, 1) := by decide +kernel
theorem dX4_hauls_1 : decode cX4_hauls 1 = .ok (.getfield 9, 3) := by decide +kernel
theorem dX4_hauls_4 : decode cX4_hauls 4 = .ok (.iload_n 2, 1) := by decide +kernel
theorem dX4_hauls_5 : decode cX4_hauls 5 = .ok (.iadd, 1) := by decide +kernel
theorem dX4_hauls_6 : decode cX4_hauls 6 = .ok (.iload_n 1, 1) := by decide +kernel
theorem dX4_hauls_7 : decode cX4_hauls 7 = .ok (.bipush 10, 2) := by decide +kernel
theorem dX4_hauls_9 : decode cX4_hauls 9 = .ok (.idiv, 1) := by decide +kernel
theorem dX4_hauls_10 : decode cX4_hauls 10 = .ok (.iadd, 1) := by decide +kernel
theorem dX4_hauls_11 : decode cX4_hauls 11 = .ok (.ireturn, 1) := by decide +kernel
theorem dX5_init_0 : decode cX5_init 0 = .ok (.aload_n 0, 1) := by decide +kernel
theorem dX5_init_1 : decode cX5_init 1 = .ok (.invokespecial 3, 3) := by decide +kernel
theorem dX5_init_4 : decode cX5_init 4 = .ok (.aload_n 0, 1) := by decide +kernel
theorem dX5_init_5 : decode cX5_init 5 = .ok (.iload_n 1, 1) := by decide +kernel
theorem dX5_init_6 : decode cX5_init 6 = .ok (.putfield 9, 3) := by decide +kernel
theorem dX5_init_9 : decode cX5_init 9 = .ok (.aload_n 0, 1) := by decide +kernel
theorem dX5_init_10 : decode cX5_init 10 = .ok (.iload_n 2, 1) := by decide +kernel
theorem dX5_init_11 : decode cX5_init 11 = .ok (.putfield 15, 3) := by decide +kernel
theorem dX5_init_14 : decode cX5_init 14 = .ok (.return_, 1) := by decide +kernel
theorem dX5_ofKind_0 : decode cX5_ofKind 0 = .ok (.iload_n 0, 1) := by decide +kernel
theorem dX5_ofKind_1 : decode cX5_ofKind 1 = .ok (.tableswitch 71 1 4 #[31, 41, 51, 61], 31) := by decide +kernel
theorem dX5_ofKind_32 : decode cX5_ofKind 32 = .ok (.new 18, 3) := by decide +kernel
theorem dX5_ofKind_35 : decode cX5_ofKind 35 = .ok (.dup, 1) := by decide +kernel
theorem dX5_ofKind_36 : decode cX5_ofKind 36 = .ok (.iload_n 1, 1) := by decide +kernel
theorem dX5_ofKind_37 : decode cX5_ofKind 37 = .ok (.iload_n 2, 1) := by decide +kernel
theorem dX5_ofKind_38 : decode cX5_ofKind 38 = .ok (.invokespecial 20, 3) := by decide +kernel
theorem dX5_ofKind_41 : decode cX5_ofKind 41 = .ok (.areturn, 1) := by decide +kernel
theorem dX5_ofKind_42 : decode cX5_ofKind 42 = .ok (.new 23, 3) := by decide +kernel
theorem dX5_ofKind_45 : decode cX5_ofKind 45 = .ok (.dup, 1) := by decide +kernel
theorem dX5_ofKind_46 : decode cX5_ofKind 46 = .ok (.iload_n 1, 1) := by decide +kernel
theorem dX5_ofKind_47 : decode cX5_ofKind 47 = .ok (.iload_n 2, 1) := by decide +kernel
theorem dX5_ofKind_48 : decode cX5_ofKind 48 = .ok (.invokespecial 25, 3) := by decide +kernel
theorem dX5_ofKind_51 : decode cX5_ofKind 51 = .ok (.areturn, 1) := by decide +kernel
theorem dX5_ofKind_52 : decode cX5_ofKind 52 = .ok (.new 26, 3) := by decide +kernel
theorem dX5_ofKind_55 : decode cX5_ofKind 55 = .ok (.dup, 1) := by decide +kernel
theorem dX5_ofKind_56 : decode cX5_ofKind 56 = .ok (.iload_n 1, 1) := by decide +kernel
theorem dX5_ofKind_57 : decode cX5_ofKind 57 = .ok (.iload_n 2, 1) := by decide +kernel
theorem dX5_ofKind_58 : decode cX5_ofKind 58 = .ok (.invokespecial 28, 3) := by decide +kernel
theorem dX5_ofKind_61 : decode cX5_ofKind 61 = .ok (.areturn, 1) := by decide +kernel
theorem dX5_ofKind_62 : decode cX5_ofKind 62 = .ok (.new 29, 3) := by decide +kernel
theorem dX5_ofKind_65 : decode cX5_ofKind 65 = .ok (.dup, 1) := by decide +kernel
theorem dX5_ofKind_66 : decode cX5_ofKind 66 = .ok (.iload_n 1, 1) := by decide +kernel
theorem dX5_ofKind_67 : decode cX5_ofKind 67 = .ok (.iload_n 2, 1) := by decide +kernel
theorem dX5_ofKind_68 : decode cX5_ofKind 68 = .ok (.invokespecial 31, 3) := by decide +kernel
theorem dX5_ofKind_71 : decode cX5_ofKind 71 = .ok (.areturn, 1) := by decide +kernel
theorem dX5_ofKind_72 : decode cX5_ofKind 72 = .ok (.new 10, 3) := by decide +kernel
theorem dX5_ofKind_75 : decode cX5_ofKind 75 = .ok (.dup, 1) := by decide +kernel
theorem dX5_ofKind_76 : decode cX5_ofKind 76 = .ok (.iload_n 1, 1) := by decide +kernel
theorem dX5_ofKind_77 : decode cX5_ofKind 77 = .ok (.iload_n 2, 1) := by decide +kernel
theorem dX5_ofKind_78 : decode cX5_ofKind 78 = .ok (.invokespecial 32, 3) := by decide +kernel
theorem dX5_ofKind_81 : decode cX5_ofKind 81 = .ok (.areturn, 1) := by decide +kernel
theorem dX5_kind_0 : decode cX5_kind 0 = .ok (.iconst 0, 1) := by decide +kernel
theorem dX5_kind_1 : decode cX5_kind 1 = .ok (.ireturn, 1) := by decide +kernel
theorem dX5_hauls_0 : decode cX5_hauls 0 = .ok (.aload_n 0, 1) := by decide +kernel
theorem dX5_hauls_1 : decode cX5_hauls 1 = .ok (.getfield 9, 3) := by decide +kernel
theorem dX5_hauls_4 : decode cX5_hauls 4 = .ok (.iload_n 2, 1) := by decide +kernel
theorem dX5_hauls_5 : decode cX5_hauls 5 = .ok (.iadd, 1) := by decide +kernel
theorem dX5_hauls_6 : decode cX5_hauls 6 = .ok (.ireturn, 1) := by decide +kernel
theorem dX5_laysInFrost_0 : decode cX5_laysInFrost 0 = .ok (.iload_n 1, 1) := by decide +kernel
theorem dX5_laysInFrost_1 : decode cX5_laysInFrost 1 = .ok (.iconst 2, 1) := by decide +kernel
theorem dX5_laysInFrost_2 : decode cX5_laysInFrost 2 = .ok (.idiv, 1) := by decide +kernel
theorem dX5_laysInFrost_3 : decode cX5_laysInFrost 3 = .ok (.ireturn, 1) := by decide +kernel
theorem dX5_laysInThaw_0 : decode cX5_laysInThaw 0 = .ok (.iload_n 1, 1) := by decide +kernel
theorem dX5_laysInThaw_1 : decode cX5_laysInThaw 1 = .ok (.iconst 1, 1) := by decide +kernel
theorem dX5_laysInThaw_2 : decode cX5_laysInThaw 2 = .ok (.if_icmp .lt 9, 3) := by decide +kernel
theorem dX5_laysInThaw_5 : decode cX5_laysInThaw 5 = .ok (.iload_n 1, 1) := by decide +kernel
theorem dX5_laysInThaw_6 : decode cX5_laysInThaw 6 = .ok (.iconst 1, 1) := by decide +kernel
theorem dX5_laysInThaw_7 : decode cX5_laysInThaw 7 = .ok (.isub, 1) := by decide +kernel
theorem dX5_laysInThaw_8 : decode cX5_laysInThaw 8 = .ok (.goto 4, 3) := by decide +kernel
theorem dX5_laysInThaw_11 : decode cX5_laysInThaw 11 = .ok (.iconst 0, 1) := by decide +kernel
theorem dX5_laysInThaw_12 : decode cX5_laysInThaw 12 = .ok (.ireturn, 1) := by decide +kernel
theorem dX5_lays_0 : decode cX5_lays 0 = .ok (.aload_n 0, 1) := by decide +kernel
theorem dX5_lays_1 : decode cX5_lays 1 = .ok (.iload_n 2, 1) := by decide +kernel
theorem dX5_lays_2 : decode cX5_lays 2 = .ok (.iload_n 3, 1) := by decide +kernel
theorem dX5_lays_3 : decode cX5_lays 3 = .ok (.invokevirtual 33, 3) := by decide +kernel
theorem dX5_lays_6 : decode cX5_lays 6 = .ok (.istore 4, 2) := by decide +kernel
theorem dX5_lays_8 : decode cX5_lays 8 = .ok (.iload_n 1, 1) := by decide +kernel
theorem dX5_lays_9 : decode cX5_lays 9 = .ok (.lookupswitch 41 #[(1, 27), (2, 34)], 27) := by decide +kernel
theorem dX5_lays_36 : decode cX5_lays 36 = .ok (.aload_n 0, 1) := by decide +kernel
theorem dX5_lays_37 : decode cX5_lays 37 = .ok (.iload 4, 2) := by decide +kernel
theorem dX5_lays_39 : decode cX5_lays 39 = .ok (.invokevirtual 37, 3) := by decide +kernel
theorem dX5_lays_42 : decode cX5_lays 42 = .ok (.ireturn, 1) := by decide +kernel
theorem dX5_lays_43 : decode cX5_lays 43 = .ok (.aload_n 0, 1) := by decide +kernel
theorem dX5_lays_44 : decode cX5_lays 44 = .ok (.iload 4, 2) := by decide +kernel
theorem dX5_lays_46 : decode cX5_lays 46 = .ok (.invokevirtual 41, 3) := by decide +kernel
theorem dX5_lays_49 : decode cX5_lays 49 = .ok (.ireturn, 1) := by decide +kernel
theorem dX5_lays_50 : decode cX5_lays 50 = .ok (.iload 4, 2) := by decide +kernel
theorem dX5_lays_52 : decode cX5_lays 52 = .ok (.ireturn, 1) := by decide +kernel
theorem dX6_init_0 : decode cX6_init 0 = .ok (.aload_n 0, 1) := by decide +kernel
theorem dX6_init_1 : decode cX6_init 1 = .ok (.invokespecial 3, 3) := by decide +kernel
theorem dX6_init_4 : decode cX6_init 4 = .ok (.aload_n 0, 1) := by decide +kernel
theorem dX6_init_5 : decode cX6_init 5 = .ok (.bipush 24, 2) := by decide +kernel
theorem dX6_init_7 : decode cX6_init 7 = .ok (.newarray .long, 2) := by decide +kernel
theorem dX6_init_9 : decode cX6_init 9 = .ok (.putfield 9, 3) := by decide +kernel
theorem dX6_init_12 : decode cX6_init 12 = .ok (.return_, 1) := by decide +kernel
theorem dX6_renew_0 : decode cX6_renew 0 = .ok (.aload_n 0, 1) := by decide +kernel
theorem dX6_renew_1 : decode cX6_renew 1 = .ok (.iconst 1, 1) := by decide +kernel
theorem dX6_renew_2 : decode cX6_renew 2 = .ok (.putfield 15, 3) := by decide +kernel
theorem dX6_renew_5 : decode cX6_renew 5 = .ok (.aload_n 0, 1) := by decide +kernel
theorem dX6_renew_6 : decode cX6_renew 6 = .ok (.iload_n 1, 1) := by decide +kernel
theorem dX6_renew_7 : decode cX6_renew 7 = .ok (.putfield 19, 3) := by decide +kernel
theorem dX6_renew_10 : decode cX6_renew 10 = .ok (.aload_n 0, 1) := by decide +kernel
theorem dX6_renew_11 : decode cX6_renew 11 = .ok (.iload_n 2, 1) := by decide +kernel
theorem dX6_renew_12 : decode cX6_renew 12 = .ok (.putfield 23, 3) := by decide +kernel
theorem dX6_renew_15 : decode cX6_renew 15 = .ok (.iconst 0, 1) := by decide +kernel
theorem dX6_renew_16 : decode cX6_renew 16 = .ok (.istore_n 3, 1) := by decide +kernel
theorem dX6_renew_17 : decode cX6_renew 17 = .ok (.iload_n 3, 1) := by decide +kernel
theorem dX6_renew_18 : decode cX6_renew 18 = .ok (.bipush 24, 2) := by decide +kernel
theorem dX6_renew_20 : decode cX6_renew 20 = .ok (.if_icmp .ge 16, 3) := by decide +kernel
theorem dX6_renew_23 : decode cX6_renew 23 = .ok (.aload_n 0, 1) := by decide +kernel
theorem dX6_renew_24 : decode cX6_renew 24 = .ok (.getfield 9, 3) := by decide +kernel
theorem dX6_renew_27 : decode cX6_renew 27 = .ok (.iload_n 3, 1) := by decide +kernel
theorem dX6_renew_28 : decode cX6_renew 28 = .ok (.lconst 0, 1) := by decide +kernel
theorem dX6_renew_29 : decode cX6_renew 29 = .ok (.lastore, 1) := by decide +kernel
theorem dX6_renew_30 : decode cX6_renew 30 = .ok (.iinc 3 1, 3) := by decide +kernel
theorem dX6_renew_33 : decode cX6_renew 33 = .ok (.goto (-16), 3) := by decide +kernel
theorem dX6_renew_36 : decode cX6_renew 36 = .ok (.return_, 1) := by decide +kernel
theorem dX6_find_0 : decode cX6_find 0 = .ok (.aload_n 0, 1) := by decide +kernel
theorem dX6_find_1 : decode cX6_find 1 = .ok (.getfield 15, 3) := by decide +kernel
theorem dX6_find_4 : decode cX6_find 4 = .ok (.ifCond .ne 6, 3) := by decide +kernel
theorem dX6_find_7 : decode cX6_find 7 = .ok (.bipush (-11), 2) := by decide +kernel
theorem dX6_find_9 : decode cX6_find 9 = .ok (.ireturn, 1) := by decide +kernel
theorem dX6_find_10 : decode cX6_find 10 = .ok (.aload_n 0, 1) := by decide +kernel
theorem dX6_find_11 : decode cX6_find 11 = .ok (.getfield 19, 3) := by decide +kernel
theorem dX6_find_14 : decode cX6_find 14 = .ok (.iload_n 1, 1) := by decide +kernel
theorem dX6_find_15 : decode cX6_find 15 = .ok (.if_icmp .eq 6, 3) := by decide +kernel
theorem dX6_find_18 : decode cX6_find 18 = .ok (.bipush (-12), 2) := by decide +kernel
theorem dX6_find_20 : decode cX6_find 20 = .ok (.ireturn, 1) := by decide +kernel
theorem dX6_find_21 : decode cX6_find 21 = .ok (.aload_n 0, 1) := by decide +kernel
theorem dX6_find_22 : decode cX6_find 22 = .ok (.iload_n 2, 1) := by decide +kernel
theorem dX6_find_23 : decode cX6_find 23 = .ok (.iload_n 3, 1) := by decide +kernel
theorem dX6_find_24 : decode cX6_find 24 = .ok (.invokevirtual 26, 3) := by decide +kernel
theorem dX6_find_27 : decode cX6_find 27 = .ok (.ifCond .eq 7, 3) := by decide +kernel
theorem dX6_find_30 : decode cX6_find 30 = .ok (.iconst 0, 1) := by decide +kernel
theorem dX6_find_31 : decode cX6_find 31 = .ok (.goto 5, 3) := by decide +kernel
theorem dX6_find_34 : decode cX6_find 34 = .ok (.bipush (-13), 2) := by decide +kernel
theorem dX6_find_36 : decode cX6_find 36 = .ok (.ireturn, 1) := by decide +kernel
theorem dX6_has_0 : decode cX6_has 0 = .ok (.iload_n 1, 1) := by decide +kernel
theorem dX6_has_1 : decode cX6_has 1 = .ok (.ifCond .lt 21, 3) := by decide +kernel
theorem dX6_has_4 : decode cX6_has 4 = .ok (.iload_n 2, 1) := by decide +kernel
theorem dX6_has_5 : decode cX6_has 5 = .ok (.ifCond .lt 17, 3) := by decide +kernel
theorem dX6_has_8 : decode cX6_has 8 = .ok (.iload_n 1, 1) := by decide +kernel
theorem dX6_has_9 : decode cX6_has 9 = .ok (.aload_n 0, 1) := by decide +kernel
theorem dX6_has_10 : decode cX6_has 10 = .ok (.getfield 23, 3) := by decide +kernel
theorem dX6_has_13 : decode cX6_has 13 = .ok (.iload_n 2, 1) := by decide +kernel
theorem dX6_has_14 : decode cX6_has 14 = .ok (.isub, 1) := by decide +kernel
theorem dX6_has_15 : decode cX6_has 15 = .ok (.if_icmp .gt 7, 3) := by decide +kernel
theorem dX6_has_18 : decode cX6_has 18 = .ok (.iconst 1, 1) := by decide +kernel
theorem dX6_has_19 : decode cX6_has 19 = .ok (.goto 4, 3) := by decide +kernel
theorem dX6_has_22 : decode cX6_has 22 = .ok (.iconst 0, 1) := by decide +kernel
theorem dX6_has_23 : decode cX6_has 23 = .ok (.ireturn, 1) := by decide +kernel
theorem dX6_put_0 : decode cX6_put 0 = .ok (.iload_n 1, 1) := by decide +kernel
theorem dX6_put_1 : decode cX6_put 1 = .ok (.iconst 0, 1) := by decide +kernel
theorem dX6_put_2 : decode cX6_put 2 = .ok (.aload_n 0, 1) := by decide +kernel
theorem dX6_put_3 : decode cX6_put 3 = .ok (.getfield 23, 3) := by decide +kernel
theorem dX6_put_6 : decode cX6_put 6 = .ok (.iconst 1, 1) := by decide +kernel
theorem dX6_put_7 : decode cX6_put 7 = .ok (.isub, 1) := by decide +kernel
theorem dX6_put_8 : decode cX6_put 8 = .ok (.invokestatic 30, 3) := by decide +kernel
theorem dX6_put_11 : decode cX6_put 11 = .ok (.ifCond .eq 14, 3) := by decide +kernel
theorem dX6_put_14 : decode cX6_put 14 = .ok (.aload_n 0, 1) := by decide +kernel
theorem dX6_put_15 : decode cX6_put 15 = .ok (.getfield 9, 3) := by decide +kernel
theorem dX6_put_18 : decode cX6_put 18 = .ok (.iload_n 1, 1) := by decide +kernel
theorem dX6_put_19 : decode cX6_put 19 = .ok (.aload_n 0, 1) := by decide +kernel
theorem dX6_put_20 : decode cX6_put 20 = .ok (.lload_n 2, 1) := by decide +kernel
theorem dX6_put_21 : decode cX6_put 21 = .ok (.invokevirtual 34, 3) := by decide +kernel
theorem dX6_put_24 : decode cX6_put 24 = .ok (.lastore, 1) := by decide +kernel
theorem dX6_put_25 : decode cX6_put 25 = .ok (.return_, 1) := by decide +kernel
theorem dX6_cut_0 : decode cX6_cut 0 = .ok (.aload_n 0, 1) := by decide +kernel
theorem dX6_cut_1 : decode cX6_cut 1 = .ok (.getfield 19, 3) := by decide +kernel
theorem dX6_cut_4 : decode cX6_cut 4 = .ok (.tableswitch 42 0 2 #[28, 33, 38], 28) := by decide +kernel
theorem dX6_cut_32 : decode cX6_cut 32 = .ok (.lload_n 1, 1) := by decide +kernel
theorem dX6_cut_33 : decode cX6_cut 33 = .ok (.l2i, 1) := by decide +kernel
theorem dX6_cut_34 : decode cX6_cut 34 = .ok (.i2b, 1) := by decide +kernel
theorem dX6_cut_35 : decode cX6_cut 35 = .ok (.i2l, 1) := by decide +kernel
theorem dX6_cut_36 : decode cX6_cut 36 = .ok (.lreturn, 1) := by decide +kernel
theorem dX6_cut_37 : decode cX6_cut 37 = .ok (.lload_n 1, 1) := by decide +kernel
theorem dX6_cut_38 : decode cX6_cut 38 = .ok (.l2i, 1) := by decide +kernel
theorem dX6_cut_39 : decode cX6_cut 39 = .ok (.i2s, 1) := by decide +kernel
theorem dX6_cut_40 : decode cX6_cut 40 = .ok (.i2l, 1) := by decide +kernel
theorem dX6_cut_41 : decode cX6_cut 41 = .ok (.lreturn, 1) := by decide +kernel
theorem dX6_cut_42 : decode cX6_cut 42 = .ok (.lload_n 1, 1) := by decide +kernel
theorem dX6_cut_43 : decode cX6_cut 43 = .ok (.l2i, 1) := by decide +kernel
theorem dX6_cut_44 : decode cX6_cut 44 = .ok (.i2l, 1) := by decide +kernel
theorem dX6_cut_45 : decode cX6_cut 45 = .ok (.lreturn, 1) := by decide +kernel
theorem dX6_cut_46 : decode cX6_cut 46 = .ok (.lload_n 1, 1) := by decide +kernel
theorem dX6_cut_47 : decode cX6_cut 47 = .ok (.lreturn, 1) := by decide +kernel
theorem dX7_init_0 : decode cX7_init 0 = .ok (.aload_n 0, 1) := by decide +kernel
theorem dX7_init_1 : decode cX7_init 1 = .ok (.invokespecial 3, 3) := by decide +kernel
theorem dX7_init_4 : decode cX7_init 4 = .ok (.aload_n 0, 1) := by decide +kernel
theorem dX7_init_5 : decode cX7_init 5 = .ok (.bipush 60, 2) := by decide +kernel
theorem dX7_init_7 : decode cX7_init 7 = .ok (.putfield 9, 3) := by decide +kernel
theorem dX7_init_10 : decode cX7_init 10 = .ok (.aload_n 0, 1) := by decide +kernel
theorem dX7_init_11 : decode cX7_init 11 = .ok (.bipush 20, 2) := by decide +kernel
theorem dX7_init_13 : decode cX7_init 13 = .ok (.putfield 15, 3) := by decide +kernel
theorem dX7_init_16 : decode cX7_init 16 = .ok (.aload_n 0, 1) := by decide +kernel
theorem dX7_init_17 : decode cX7_init 17 = .ok (.iconst 2, 1) := by decide +kernel
theorem dX7_init_18 : decode cX7_init 18 = .ok (.putfield 18, 3) := by decide +kernel
theorem dX7_init_21 : decode cX7_init 21 = .ok (.aload_n 0, 1) := by decide +kernel
theorem dX7_init_22 : decode cX7_init 22 = .ok (.iconst 1, 1) := by decide +kernel
theorem dX7_init_23 : decode cX7_init 23 = .ok (.putfield 21, 3) := by decide +kernel
theorem dX7_init_26 : decode cX7_init 26 = .ok (.aload_n 0, 1) := by decide +kernel
theorem dX7_init_27 : decode cX7_init 27 = .ok (.bipush 15, 2) := by decide +kernel
theorem dX7_init_29 : decode cX7_init 29 = .ok (.putfield 24, 3) := by decide +kernel
theorem dX7_init_32 : decode cX7_init 32 = .ok (.aload_n 0, 1) := by decide +kernel
theorem dX7_init_33 : decode cX7_init 33 = .ok (.iconst 1, 1) := by decide +kernel
theorem dX7_init_34 : decode cX7_init 34 = .ok (.putfield 27, 3) := by decide +kernel
theorem dX7_init_37 : decode cX7_init 37 = .ok (.aload_n 0, 1) := by decide +kernel
theorem dX7_init_38 : decode cX7_init 38 = .ok (.iconst 4, 1) := by decide +kernel
theorem dX7_init_39 : decode cX7_init 39 = .ok (.anewarray 30, 3) := by decide +kernel
theorem dX7_init_42 : decode cX7_init 42 = .ok (.putfield 32, 3) := by decide +kernel
theorem dX7_init_45 : decode cX7_init 45 = .ok (.aload_n 0, 1) := by decide +kernel
theorem dX7_init_46 : decode cX7_init 46 = .ok (.bipush 6, 2) := by decide +kernel
theorem dX7_init_48 : decode cX7_init 48 = .ok (.newarray .int, 2) := by decide +kernel
theorem dX7_init_50 : decode cX7_init 50 = .ok (.putfield 36, 3) := by decide +kernel
theorem dX7_init_53 : decode cX7_init 53 = .ok (.aload_n 0, 1) := by decide +kernel
theorem dX7_init_54 : decode cX7_init 54 = .ok (.bipush 6, 2) := by decide +kernel
theorem dX7_init_56 : decode cX7_init 56 = .ok (.newarray .int, 2) := by decide +kernel
theorem dX7_init_58 : decode cX7_init 58 = .ok (.putfield 40, 3) := by decide +kernel
theorem dX7_init_61 : decode cX7_init 61 = .ok (.aload_n 0, 1) := by decide +kernel
theorem dX7_init_62 : decode cX7_init 62 = .ok (.bipush 48, 2) := by decide +kernel
theorem dX7_init_64 : decode cX7_init 64 = .ok (.newarray .int, 2) := by decide +kernel
theorem dX7_init_66 : decode cX7_init 66 = .ok (.putfield 43, 3) := by decide +kernel
theorem dX7_init_69 : decode cX7_init 69 = .ok (.return_, 1) := by decide +kernel
theorem dX7_isSummer_0 : decode cX7_isSummer 0 = .ok (.aload_n 0, 1) := by decide +kernel
theorem dX7_isSummer_1 : decode cX7_isSummer 1 = .ok (.getfield 46, 3) := by decide +kernel
theorem dX7_isSummer_4 : decode cX7_isSummer 4 = .ok (.aload_n 0, 1) := by decide +kernel
theorem dX7_isSummer_5 : decode cX7_isSummer 5 = .ok (.getfield 15, 3) := by decide +kernel
theorem dX7_isSummer_8 : decode cX7_isSummer 8 = .ok (.if_icmp .lt 7, 3) := by decide +kernel
theorem dX7_isSummer_11 : decode cX7_isSummer 11 = .ok (.iconst 1, 1) := by decide +kernel
theorem dX7_isSummer_12 : decode cX7_isSummer 12 = .ok (.goto 4, 3) := by decide +kernel
theorem dX7_isSummer_15 : decode cX7_isSummer 15 = .ok (.iconst 0, 1) := by decide +kernel
theorem dX7_isSummer_16 : decode cX7_isSummer 16 = .ok (.ireturn, 1) := by decide +kernel
theorem dX7_isUsed_0 : decode cX7_isUsed 0 = .ok (.aload_n 0, 1) := by decide +kernel
theorem dX7_isUsed_1 : decode cX7_isUsed 1 = .ok (.getfield 49, 3) := by decide +kernel
theorem dX7_isUsed_4 : decode cX7_isUsed 4 = .ok (.iload_n 1, 1) := by decide +kernel
theorem dX7_isUsed_5 : decode cX7_isUsed 5 = .ok (.ishr, 1) := by decide +kernel
theorem dX7_isUsed_6 : decode cX7_isUsed 6 = .ok (.iconst 1, 1) := by decide +kernel
theorem dX7_isUsed_7 : decode cX7_isUsed 7 = .ok (.iand, 1) := by decide +kernel
theorem dX7_isUsed_8 : decode cX7_isUsed 8 = .ok (.ifCond .eq 7, 3) := by decide +kernel
theorem dX7_isUsed_11 : decode cX7_isUsed 11 = .ok (.iconst 1, 1) := by decide +kernel
theorem dX7_isUsed_12 : decode cX7_isUsed 12 = .ok (.goto 4, 3) := by decide +kernel
theorem dX7_isUsed_15 : decode cX7_isUsed 15 = .ok (.iconst 0, 1) := by decide +kernel
theorem dX7_isUsed_16 : decode cX7_isUsed 16 = .ok (.ireturn, 1) := by decide +kernel
theorem dX7_addBuilder_0 : decode cX7_addBuilder 0 = .ok (.aload_n 0, 1) := by decide +kernel
theorem dX7_addBuilder_1 : decode cX7_addBuilder 1 = .ok (.getfield 52, 3) := by decide +kernel
theorem dX7_addBuilder_4 : decode cX7_addBuilder 4 = .ok (.iconst 4, 1) := by decide +kernel
theorem dX7_addBuilder_5 : decode cX7_addBuilder 5 = .ok (.if_icmp .ge 28, 3) := by decide +kernel
theorem dX7_addBuilder_8 : decode cX7_addBuilder 8 = .ok (.aload_n 0, 1) := by decide +kernel
theorem dX7_addBuilder_9 : decode cX7_addBuilder 9 = .ok (.getfield 32, 3) := by decide +kernel
theorem dX7_addBuilder_12 : decode cX7_addBuilder 12 = .ok (.aload_n 0, 1) := by decide +kernel
theorem dX7_addBuilder_13 : decode cX7_addBuilder 13 = .ok (.getfield 52, 3) := by decide +kernel
theorem dX7_addBuilder_16 : decode cX7_addBuilder 16 = .ok (.iload_n 1, 1) := by decide +kernel
theorem dX7_addBuilder_17 : decode cX7_addBuilder 17 = .ok (.iload_n 2, 1) := by decide +kernel
theorem dX7_addBuilder_18 : decode cX7_addBuilder 18 = .ok (.iload_n 3, 1) := by decide +kernel
theorem dX7_addBuilder_19 : decode cX7_addBuilder 19 = .ok (.invokestatic 55, 3) := by decide +kernel
theorem dX7_addBuilder_22 : decode cX7_addBuilder 22 = .ok (.aastore, 1) := by decide +kernel
theorem dX7_addBuilder_23 : decode cX7_addBuilder 23 = .ok (.aload_n 0, 1) := by decide +kernel
theorem dX7_addBuilder_24 : decode cX7_addBuilder 24 = .ok (.dup, 1) := by decide +kernel
theorem dX7_addBuilder_25 : decode cX7_addBuilder 25 = .ok (.getfield 52, 3) := by decide +kernel
theorem dX7_addBuilder_28 : decode cX7_addBuilder 28 = .ok (.iconst 1, 1) := by decide +kernel
theorem dX7_addBuilder_29 : decode cX7_addBuilder 29 = .ok (.iadd, 1) := by decide +kernel
theorem dX7_addBuilder_30 : decode cX7_addBuilder 30 = .ok (.putfield 52, 3) := by decide +kernel
theorem dX7_addBuilder_33 : decode cX7_addBuilder 33 = .ok (.return_, 1) := by decide +kernel
theorem dX7_addHindrance_0 : decode cX7_addHindrance 0 = .ok (.aload_n 0, 1) := by decide +kernel
theorem dX7_addHindrance_1 : decode cX7_addHindrance 1 = .ok (.getfield 59, 3) := by decide +kernel
theorem dX7_addHindrance_4 : decode cX7_addHindrance 4 = .ok (.bipush 6, 2) := by decide +kernel
theorem dX7_addHindrance_6 : decode cX7_addHindrance 6 = .ok (.if_icmp .ge 33, 3) := by decide +kernel
theorem dX7_addHindrance_9 : decode cX7_addHindrance 9 = .ok (.aload_n 0, 1) := by decide +kernel
theorem dX7_addHindrance_10 : decode cX7_addHindrance 10 = .ok (.getfield 36, 3) := by decide +kernel
theorem dX7_addHindrance_13 : decode cX7_addHindrance 13 = .ok (.aload_n 0, 1) := by decide +kernel
theorem dX7_addHindrance_14 : decode cX7_addHindrance 14 = .ok (.getfield 59, 3) := by decide +kernel
theorem dX7_addHindrance_17 : decode cX7_addHindrance 17 = .ok (.iload_n 1, 1) := by decide +kernel
theorem dX7_addHindrance_18 : decode cX7_addHindrance 18 = .ok (.iastore, 1) := by decide +kernel
theorem dX7_addHindrance_19 : decode cX7_addHindrance 19 = .ok (.aload_n 0, 1) := by decide +kernel
theorem dX7_addHindrance_20 : decode cX7_addHindrance 20 = .ok (.getfield 40, 3) := by decide +kernel
theorem dX7_addHindrance_23 : decode cX7_addHindrance 23 = .ok (.aload_n 0, 1) := by decide +kernel
theorem dX7_addHindrance_24 : decode cX7_addHindrance 24 = .ok (.getfield 59, 3) := by decide +kernel
theorem dX7_addHindrance_27 : decode cX7_addHindrance 27 = .ok (.iload_n 2, 1) := by decide +kernel
theorem dX7_addHindrance_28 : decode cX7_addHindrance 28 = .ok (.iastore, 1) := by decide +kernel
theorem dX7_addHindrance_29 : decode cX7_addHindrance 29 = .ok (.aload_n 0, 1) := by decide +kernel
theorem dX7_addHindrance_30 : decode cX7_addHindrance 30 = .ok (.dup, 1) := by decide +kernel
theorem dX7_addHindrance_31 : decode cX7_addHindrance 31 = .ok (.getfield 59, 3) := by decide +kernel
theorem dX7_addHindrance_34 : decode cX7_addHindrance 34 = .ok (.iconst 1, 1) := by decide +kernel
theorem dX7_addHindrance_35 : decode cX7_addHindrance 35 = .ok (.iadd, 1) := by decide +kernel
theorem dX7_addHindrance_36 : decode cX7_addHindrance 36 = .ok (.putfield 59, 3) := by decide +kernel
theorem dX7_addHindrance_39 : decode cX7_addHindrance 39 = .ok (.return_, 1) := by decide +kernel
theorem dX7_layTogether_0 : decode cX7_layTogether 0 = .ok (.iconst 0, 1) := by decide +kernel
theorem dX7_layTogether_1 : decode cX7_layTogether 1 = .ok (.istore 5, 2) := by decide +kernel
theorem dX7_layTogether_3 : decode cX7_layTogether 3 = .ok (.iconst 0, 1) := by decide +kernel
theorem dX7_layTogether_4 : decode cX7_layTogether 4 = .ok (.istore 6, 2) := by decide +kernel
theorem dX7_layTogether_6 : decode cX7_layTogether 6 = .ok (.iload 6, 2) := by decide +kernel
theorem dX7_layTogether_8 : decode cX7_layTogether 8 = .ok (.aload_n 0, 1) := by decide +kernel
theorem dX7_layTogether_9 : decode cX7_layTogether 9 = .ok (.getfield 52, 3) := by decide +kernel
theorem dX7_layTogether_12 : decode cX7_layTogether 12 = .ok (.if_icmp .ge 47, 3) := by decide +kernel
theorem dX7_layTogether_15 : decode cX7_layTogether 15 = .ok (.aload_n 0, 1) := by decide +kernel
theorem dX7_layTogether_16 : decode cX7_layTogether 16 = .ok (.getfield 32, 3) := by decide +kernel
theorem dX7_layTogether_19 : decode cX7_layTogether 19 = .ok (.iload 6, 2) := by decide +kernel
theorem dX7_layTogether_21 : decode cX7_layTogether 21 = .ok (.aaload, 1) := by decide +kernel
theorem dX7_layTogether_22 : decode cX7_layTogether 22 = .ok (.astore 7, 2) := by decide +kernel
theorem dX7_layTogether_24 : decode cX7_layTogether 24 = .ok (.aload 7, 2) := by decide +kernel
theorem dX7_layTogether_26 : decode cX7_layTogether 26 = .ok (.ifnull 27, 3) := by decide +kernel
theorem dX7_layTogether_29 : decode cX7_layTogether 29 = .ok (.iload 5, 2) := by decide +kernel
theorem dX7_layTogether_31 : decode cX7_layTogether 31 = .ok (.aload 7, 2) := by decide +kernel
theorem dX7_layTogether_33 : decode cX7_layTogether 33 = .ok (.iload_n 1, 1) := by decide +kernel
theorem dX7_layTogether_34 : decode cX7_layTogether 34 = .ok (.iload_n 2, 1) := by decide +kernel
theorem dX7_layTogether_35 : decode cX7_layTogether 35 = .ok (.iload 6, 2) := by decide +kernel
theorem dX7_layTogether_37 : decode cX7_layTogether 37 = .ok (.iload_n 3, 1) := by decide +kernel
theorem dX7_layTogether_38 : decode cX7_layTogether 38 = .ok (.if_icmp .ne 8, 3) := by decide +kernel
theorem dX7_layTogether_41 : decode cX7_layTogether 41 = .ok (.iload 4, 2) := by decide +kernel
theorem dX7_layTogether_43 : decode cX7_layTogether 43 = .ok (.goto 4, 3) := by decide +kernel
theorem dX7_layTogether_46 : decode cX7_layTogether 46 = .ok (.iconst 0, 1) := by decide +kernel
theorem dX7_layTogether_47 : decode cX7_layTogether 47 = .ok (.invokevirtual 62, 3) := by decide +kernel
theorem dX7_layTogether_50 : decode cX7_layTogether 50 = .ok (.iadd, 1) := by decide +kernel
theorem dX7_layTogether_51 : decode cX7_layTogether 51 = .ok (.istore 5, 2) := by decide +kernel
theorem dX7_layTogether_53 : decode cX7_layTogether 53 = .ok (.iinc 6 1, 3) := by decide +kernel
theorem dX7_layTogether_56 : decode cX7_layTogether 56 = .ok (.goto (-50), 3) := by decide +kernel
theorem dX7_layTogether_59 : decode cX7_layTogether 59 = .ok (.iload 5, 2) := by decide +kernel
theorem dX7_layTogether_61 : decode cX7_layTogether 61 = .ok (.ireturn, 1) := by decide +kernel
theorem dX7_laidBehind_0 : decode cX7_laidBehind 0 = .ok (.aload_n 0, 1) := by decide +kernel
theorem dX7_laidBehind_1 : decode cX7_laidBehind 1 = .ok (.iload_n 1, 1) := by decide +kernel
theorem dX7_laidBehind_2 : decode cX7_laidBehind 2 = .ok (.iload_n 2, 1) := by decide +kernel
theorem dX7_laidBehind_3 : decode cX7_laidBehind 3 = .ok (.iconst (-1), 1) := by decide +kernel
theorem dX7_laidBehind_4 : decode cX7_laidBehind 4 = .ok (.iconst 0, 1) := by decide +kernel
theorem dX7_laidBehind_5 : decode cX7_laidBehind 5 = .ok (.invokevirtual 66, 3) := by decide +kernel
theorem dX7_laidBehind_8 : decode cX7_laidBehind 8 = .ok (.iload_n 3, 1) := by decide +kernel
theorem dX7_laidBehind_9 : decode cX7_laidBehind 9 = .ok (.isub, 1) := by decide +kernel
theorem dX7_laidBehind_10 : decode cX7_laidBehind 10 = .ok (.istore 4, 2) := by decide +kernel
theorem dX7_laidBehind_12 : decode cX7_laidBehind 12 = .ok (.iload 4, 2) := by decide +kernel
theorem dX7_laidBehind_14 : decode cX7_laidBehind 14 = .ok (.ifCond .gt 7, 3) := by decide +kernel
theorem dX7_laidBehind_17 : decode cX7_laidBehind 17 = .ok (.iload_n 2, 1) := by decide +kernel
theorem dX7_laidBehind_18 : decode cX7_laidBehind 18 = .ok (.goto 14, 3) := by decide +kernel
theorem dX7_laidBehind_21 : decode cX7_laidBehind 21 = .ok (.aload_n 0, 1) := by decide +kernel
theorem dX7_laidBehind_22 : decode cX7_laidBehind 22 = .ok (.getfield 9, 3) := by decide +kernel
theorem dX7_laidBehind_25 : decode cX7_laidBehind 25 = .ok (.iload_n 2, 1) := by decide +kernel
theorem dX7_laidBehind_26 : decode cX7_laidBehind 26 = .ok (.iload 4, 2) := by decide +kernel
theorem dX7_laidBehind_28 : decode cX7_laidBehind 28 = .ok (.iadd, 1) := by decide +kernel
theorem dX7_laidBehind_29 : decode cX7_laidBehind 29 = .ok (.invokestatic 70, 3) := by decide +kernel
theorem dX7_laidBehind_32 : decode cX7_laidBehind 32 = .ok (.ireturn, 1) := by decide +kernel
theorem dX7_costOf_0 : decode cX7_costOf 0 = .ok (.iconst 0, 1) := by decide +kernel
theorem dX7_costOf_1 : decode cX7_costOf 1 = .ok (.istore_n 2, 1) := by decide +kernel
theorem dX7_costOf_2 : decode cX7_costOf 2 = .ok (.iconst 0, 1) := by decide +kernel
theorem dX7_costOf_3 : decode cX7_costOf 3 = .ok (.istore_n 3, 1) := by decide +kernel
theorem dX7_costOf_4 : decode cX7_costOf 4 = .ok (.iload_n 3, 1) := by decide +kernel
theorem dX7_costOf_5 : decode cX7_costOf 5 = .ok (.aload_n 0, 1) := by decide +kernel
theorem dX7_costOf_6 : decode cX7_costOf 6 = .ok (.getfield 59, 3) := by decide +kernel
theorem dX7_costOf_9 : decode cX7_costOf 9 = .ok (.if_icmp .ge 26, 3) := by decide +kernel
theorem dX7_costOf_12 : decode cX7_costOf 12 = .ok (.iload_n 1, 1) := by decide +kernel
theorem dX7_costOf_13 : decode cX7_costOf 13 = .ok (.iload_n 3, 1) := by decide +kernel
theorem dX7_costOf_14 : decode cX7_costOf 14 = .ok (.ishr, 1) := by decide +kernel
theorem dX7_costOf_15 : decode cX7_costOf 15 = .ok (.iconst 1, 1) := by decide +kernel
theorem dX7_costOf_16 : decode cX7_costOf 16 = .ok (.iand, 1) := by decide +kernel
theorem dX7_costOf_17 : decode cX7_costOf 17 = .ok (.ifCond .eq 12, 3) := by decide +kernel
theorem dX7_costOf_20 : decode cX7_costOf 20 = .ok (.iload_n 2, 1) := by decide +kernel
theorem dX7_costOf_21 : decode cX7_costOf 21 = .ok (.aload_n 0, 1) := by decide +kernel
theorem dX7_costOf_22 : decode cX7_costOf 22 = .ok (.getfield 36, 3) := by decide +kernel
theorem dX7_costOf_25 : decode cX7_costOf 25 = .ok (.iload_n 3, 1) := by decide +kernel
theorem dX7_costOf_26 : decode cX7_costOf 26 = .ok (.iaload, 1) := by decide +kernel
theorem dX7_costOf_27 : decode cX7_costOf 27 = .ok (.iadd, 1) := by decide +kernel
theorem dX7_costOf_28 : decode cX7_costOf 28 = .ok (.istore_n 2, 1) := by decide +kernel
theorem dX7_costOf_29 : decode cX7_costOf 29 = .ok (.iinc 3 1, 3) := by decide +kernel
theorem dX7_costOf_32 : decode cX7_costOf 32 = .ok (.goto (-28), 3) := by decide +kernel
theorem dX7_costOf_35 : decode cX7_costOf 35 = .ok (.iload_n 2, 1) := by decide +kernel
theorem dX7_costOf_36 : decode cX7_costOf 36 = .ok (.ireturn, 1) := by decide +kernel
theorem dX7_costToday_0 : decode cX7_costToday 0 = .ok (.aload_n 0, 1) := by decide +kernel
theorem dX7_costToday_1 : decode cX7_costToday 1 = .ok (.aload_n 0, 1) := by decide +kernel
theorem dX7_costToday_2 : decode cX7_costToday 2 = .ok (.getfield 76, 3) := by decide +kernel
theorem dX7_costToday_5 : decode cX7_costToday 5 = .ok (.invokevirtual 79, 3) := by decide +kernel
theorem dX7_costToday_8 : decode cX7_costToday 8 = .ok (.ireturn, 1) := by decide +kernel
theorem dX7_forbidden_0 : decode cX7_forbidden 0 = .ok (.iconst 0, 1) := by decide +kernel
theorem dX7_forbidden_1 : decode cX7_forbidden 1 = .ok (.istore_n 1, 1) := by decide +kernel
theorem dX7_forbidden_2 : decode cX7_forbidden 2 = .ok (.iconst 0, 1) := by decide +kernel
theorem dX7_forbidden_3 : decode cX7_forbidden 3 = .ok (.istore_n 2, 1) := by decide +kernel
theorem dX7_forbidden_4 : decode cX7_forbidden 4 = .ok (.iload_n 2, 1) := by decide +kernel
theorem dX7_forbidden_5 : decode cX7_forbidden 5 = .ok (.aload_n 0, 1) := by decide +kernel
theorem dX7_forbidden_6 : decode cX7_forbidden 6 = .ok (.getfield 59, 3) := by decide +kernel
theorem dX7_forbidden_9 : decode cX7_forbidden 9 = .ok (.if_icmp .ge 23, 3) := by decide +kernel
theorem dX7_forbidden_12 : decode cX7_forbidden 12 = .ok (.aload_n 0, 1) := by decide +kernel
theorem dX7_forbidden_13 : decode cX7_forbidden 13 = .ok (.iload_n 2, 1) := by decide +kernel
theorem dX7_forbidden_14 : decode cX7_forbidden 14 = .ok (.invokevirtual 83, 3) := by decide +kernel
theorem dX7_forbidden_17 : decode cX7_forbidden 17 = .ok (.ifCond .eq 9, 3) := by decide +kernel
theorem dX7_forbidden_20 : decode cX7_forbidden 20 = .ok (.iload_n 1, 1) := by decide +kernel
theorem dX7_forbidden_21 : decode cX7_forbidden 21 = .ok (.iconst 1, 1) := by decide +kernel
theorem dX7_forbidden_22 : decode cX7_forbidden 22 = .ok (.iload_n 2, 1) := by decide +kernel
theorem dX7_forbidden_23 : decode cX7_forbidden 23 = .ok (.ishl, 1) := by decide +kernel
theorem dX7_forbidden_24 : decode cX7_forbidden 24 = .ok (.ior, 1) := by decide +kernel
theorem dX7_forbidden_25 : decode cX7_forbidden 25 = .ok (.istore_n 1, 1) := by decide +kernel
theorem dX7_forbidden_26 : decode cX7_forbidden 26 = .ok (.iinc 2 1, 3) := by decide +kernel
theorem dX7_forbidden_29 : decode cX7_forbidden 29 = .ok (.goto (-25), 3) := by decide +kernel
theorem dX7_forbidden_32 : decode cX7_forbidden 32 = .ok (.iload_n 1, 1) := by decide +kernel
theorem dX7_forbidden_33 : decode cX7_forbidden 33 = .ok (.ireturn, 1) := by decide +kernel
theorem dX7_breaksSworn_0 : decode cX7_breaksSworn 0 = .ok (.aload_n 0, 1) := by decide +kernel
theorem dX7_breaksSworn_1 : decode cX7_breaksSworn 1 = .ok (.getfield 40, 3) := by decide +kernel
theorem dX7_breaksSworn_4 : decode cX7_breaksSworn 4 = .ok (.iload_n 1, 1) := by decide +kernel
theorem dX7_breaksSworn_5 : decode cX7_breaksSworn 5 = .ok (.iaload, 1) := by decide +kernel
theorem dX7_breaksSworn_6 : decode cX7_breaksSworn 6 = .ok (.istore_n 2, 1) := by decide +kernel
theorem dX7_breaksSworn_7 : decode cX7_breaksSworn 7 = .ok (.iload_n 2, 1) := by decide +kernel
theorem dX7_breaksSworn_8 : decode cX7_breaksSworn 8 = .ok (.ifCond .lt 18, 3) := by decide +kernel
theorem dX7_breaksSworn_11 : decode cX7_breaksSworn 11 = .ok (.aload_n 0, 1) := by decide +kernel
theorem dX7_breaksSworn_12 : decode cX7_breaksSworn 12 = .ok (.getfield 24, 3) := by decide +kernel
theorem dX7_breaksSworn_15 : decode cX7_breaksSworn 15 = .ok (.iload_n 2, 1) := by decide +kernel
theorem dX7_breaksSworn_16 : decode cX7_breaksSworn 16 = .ok (.ishr, 1) := by decide +kernel
theorem dX7_breaksSworn_17 : decode cX7_breaksSworn 17 = .ok (.iconst 1, 1) := by decide +kernel
theorem dX7_breaksSworn_18 : decode cX7_breaksSworn 18 = .ok (.iand, 1) := by decide +kernel
theorem dX7_breaksSworn_19 : decode cX7_breaksSworn 19 = .ok (.ifCond .eq 7, 3) := by decide +kernel
theorem dX7_breaksSworn_22 : decode cX7_breaksSworn 22 = .ok (.iconst 1, 1) := by decide +kernel
theorem dX7_breaksSworn_23 : decode cX7_breaksSworn 23 = .ok (.goto 4, 3) := by decide +kernel
theorem dX7_breaksSworn_26 : decode cX7_breaksSworn 26 = .ok (.iconst 0, 1) := by decide +kernel
theorem dX7_breaksSworn_27 : decode cX7_breaksSworn 27 = .ok (.ireturn, 1) := by decide +kernel
theorem dX7_hinder_0 : decode cX7_hinder 0 = .ok (.aload_n 0, 1) := by decide +kernel
theorem dX7_hinder_1 : decode cX7_hinder 1 = .ok (.dup, 1) := by decide +kernel
theorem dX7_hinder_2 : decode cX7_hinder 2 = .ok (.getfield 49, 3) := by decide +kernel
theorem dX7_hinder_5 : decode cX7_hinder 5 = .ok (.iconst 1, 1) := by decide +kernel
theorem dX7_hinder_6 : decode cX7_hinder 6 = .ok (.iload_n 1, 1) := by decide +kernel
theorem dX7_hinder_7 : decode cX7_hinder 7 = .ok (.ishl, 1) := by decide +kernel
theorem dX7_hinder_8 : decode cX7_hinder 8 = .ok (.ior, 1) := by decide +kernel
theorem dX7_hinder_9 : decode cX7_hinder 9 = .ok (.putfield 49, 3) := by decide +kernel
theorem dX7_hinder_12 : decode cX7_hinder 12 = .ok (.aload_n 0, 1) := by decide +kernel
theorem dX7_hinder_13 : decode cX7_hinder 13 = .ok (.dup, 1) := by decide +kernel
theorem dX7_hinder_14 : decode cX7_hinder 14 = .ok (.getfield 76, 3) := by decide +kernel
theorem dX7_hinder_17 : decode cX7_hinder 17 = .ok (.iconst 1, 1) := by decide +kernel
theorem dX7_hinder_18 : decode cX7_hinder 18 = .ok (.iload_n 1, 1) := by decide +kernel
theorem dX7_hinder_19 : decode cX7_hinder 19 = .ok (.ishl, 1) := by decide +kernel
theorem dX7_hinder_20 : decode cX7_hinder 20 = .ok (.ior, 1) := by decide +kernel
theorem dX7_hinder_21 : decode cX7_hinder 21 = .ok (.putfield 76, 3) := by decide +kernel
theorem dX7_hinder_24 : decode cX7_hinder 24 = .ok (.aload_n 0, 1) := by decide +kernel
theorem dX7_hinder_25 : decode cX7_hinder 25 = .ok (.iload_n 1, 1) := by decide +kernel
theorem dX7_hinder_26 : decode cX7_hinder 26 = .ok (.invokevirtual 83, 3) := by decide +kernel
theorem dX7_hinder_29 : decode cX7_hinder 29 = .ok (.ifCond .eq 20, 3) := by decide +kernel
theorem dX7_hinder_32 : decode cX7_hinder 32 = .ok (.aload_n 0, 1) := by decide +kernel
theorem dX7_hinder_33 : decode cX7_hinder 33 = .ok (.dup, 1) := by decide +kernel
theorem dX7_hinder_34 : decode cX7_hinder 34 = .ok (.getfield 87, 3) := by decide +kernel
theorem dX7_hinder_37 : decode cX7_hinder 37 = .ok (.iconst 1, 1) := by decide +kernel
theorem dX7_hinder_38 : decode cX7_hinder 38 = .ok (.aload_n 0, 1) := by decide +kernel
theorem dX7_hinder_39 : decode cX7_hinder 39 = .ok (.getfield 40, 3) := by decide +kernel
theorem dX7_hinder_42 : decode cX7_hinder 42 = .ok (.iload_n 1, 1) := by decide +kernel
theorem dX7_hinder_43 : decode cX7_hinder 43 = .ok (.iaload, 1) := by decide +kernel
theorem dX7_hinder_44 : decode cX7_hinder 44 = .ok (.ishl, 1) := by decide +kernel
theorem dX7_hinder_45 : decode cX7_hinder 45 = .ok (.ior, 1) := by decide +kernel
theorem dX7_hinder_46 : decode cX7_hinder 46 = .ok (.putfield 87, 3) := by decide +kernel
theorem dX7_hinder_49 : decode cX7_hinder 49 = .ok (.return_, 1) := by decide +kernel
theorem dX7_pass_0 : decode cX7_pass 0 = .ok (.aload_n 0, 1) := by decide +kernel
theorem dX7_pass_1 : decode cX7_pass 1 = .ok (.getfield 90, 3) := by decide +kernel
theorem dX7_pass_4 : decode cX7_pass 4 = .ok (.istore_n 2, 1) := by decide +kernel
theorem dX7_pass_5 : decode cX7_pass 5 = .ok (.aload_n 0, 1) := by decide +kernel
theorem dX7_pass_6 : decode cX7_pass 6 = .ok (.aload_n 0, 1) := by decide +kernel
theorem dX7_pass_7 : decode cX7_pass 7 = .ok (.iload_n 1, 1) := by decide +kernel
theorem dX7_pass_8 : decode cX7_pass 8 = .ok (.iload_n 2, 1) := by decide +kernel
theorem dX7_pass_9 : decode cX7_pass 9 = .ok (.aload_n 0, 1) := by decide +kernel
theorem dX7_pass_10 : decode cX7_pass 10 = .ok (.invokevirtual 93, 3) := by decide +kernel
theorem dX7_pass_13 : decode cX7_pass 13 = .ok (.invokevirtual 97, 3) := by decide +kernel
theorem dX7_pass_16 : decode cX7_pass 16 = .ok (.putfield 90, 3) := by decide +kernel
theorem dX7_pass_19 : decode cX7_pass 19 = .ok (.aload_n 0, 1) := by decide +kernel
theorem dX7_pass_20 : decode cX7_pass 20 = .ok (.iconst 0, 1) := by decide +kernel
theorem dX7_pass_21 : decode cX7_pass 21 = .ok (.putfield 76, 3) := by decide +kernel
theorem dX7_pass_24 : decode cX7_pass 24 = .ok (.aload_n 0, 1) := by decide +kernel
theorem dX7_pass_25 : decode cX7_pass 25 = .ok (.dup, 1) := by decide +kernel
theorem dX7_pass_26 : decode cX7_pass 26 = .ok (.getfield 46, 3) := by decide +kernel
theorem dX7_pass_29 : decode cX7_pass 29 = .ok (.iconst 1, 1) := by decide +kernel
theorem dX7_pass_30 : decode cX7_pass 30 = .ok (.iadd, 1) := by decide +kernel
theorem dX7_pass_31 : decode cX7_pass 31 = .ok (.putfield 46, 3) := by decide +kernel
theorem dX7_pass_34 : decode cX7_pass 34 = .ok (.aload_n 0, 1) := by decide +kernel
theorem dX7_pass_35 : decode cX7_pass 35 = .ok (.getfield 90, 3) := by decide +kernel
theorem dX7_pass_38 : decode cX7_pass 38 = .ok (.iload_n 2, 1) := by decide +kernel
theorem dX7_pass_39 : decode cX7_pass 39 = .ok (.isub, 1) := by decide +kernel
theorem dX7_pass_40 : decode cX7_pass 40 = .ok (.ireturn, 1) := by decide +kernel
theorem dX7_drawWeather_0 : decode cX7_drawWeather 0 = .ok (.aload_n 0, 1) := by decide +kernel
theorem dX7_drawWeather_1 : decode cX7_drawWeather 1 = .ok (.aload_n 0, 1) := by decide +kernel
theorem dX7_drawWeather_2 : decode cX7_drawWeather 2 = .ok (.getfield 27, 3) := by decide +kernel
theorem dX7_drawWeather_5 : decode cX7_drawWeather 5 = .ok (.i2l, 1) := by decide +kernel
theorem dX7_drawWeather_6 : decode cX7_drawWeather 6 = .ok (.ldc2_w 100, 3) := by decide +kernel
theorem dX7_drawWeather_9 : decode cX7_drawWeather 9 = .ok (.lmul, 1) := by decide +kernel
theorem dX7_drawWeather_10 : decode cX7_drawWeather 10 = .ok (.ldc2_w 102, 3) := by decide +kernel
theorem dX7_drawWeather_13 : decode cX7_drawWeather 13 = .ok (.ladd, 1) := by decide +kernel
theorem dX7_drawWeather_14 : decode cX7_drawWeather 14 = .ok (.ldc2_w 104, 3) := by decide +kernel
theorem dX7_drawWeather_17 : decode cX7_drawWeather 17 = .ok (.land, 1) := by decide +kernel
theorem dX7_drawWeather_18 : decode cX7_drawWeather 18 = .ok (.l2i, 1) := by decide +kernel
theorem dX7_drawWeather_19 : decode cX7_drawWeather 19 = .ok (.putfield 27, 3) := by decide +kernel
theorem dX7_drawWeather_22 : decode cX7_drawWeather 22 = .ok (.aload_n 0, 1) := by decide +kernel
theorem dX7_drawWeather_23 : decode cX7_drawWeather 23 = .ok (.getfield 27, 3) := by decide +kernel
theorem dX7_drawWeather_26 : decode cX7_drawWeather 26 = .ok (.ldc 106, 2) := by decide +kernel
theorem dX7_drawWeather_28 : decode cX7_drawWeather 28 = .ok (.idiv, 1) := by decide +kernel
theorem dX7_drawWeather_29 : decode cX7_drawWeather 29 = .ok (.bipush 10, 2) := by decide +kernel
theorem dX7_drawWeather_31 : decode cX7_drawWeather 31 = .ok (.irem, 1) := by decide +kernel
theorem dX7_drawWeather_32 : decode cX7_drawWeather 32 = .ok (.istore_n 1, 1) := by decide +kernel
theorem dX7_drawWeather_33 : decode cX7_drawWeather 33 = .ok (.iload_n 1, 1) := by decide +kernel
theorem dX7_drawWeather_34 : decode cX7_drawWeather 34 = .ok (.aload_n 0, 1) := by decide +kernel
theorem dX7_drawWeather_35 : decode cX7_drawWeather 35 = .ok (.getfield 18, 3) := by decide +kernel
theorem dX7_drawWeather_38 : decode cX7_drawWeather 38 = .ok (.if_icmp .ge 5, 3) := by decide +kernel
theorem dX7_drawWeather_41 : decode cX7_drawWeather 41 = .ok (.iconst 1, 1) := by decide +kernel
theorem dX7_drawWeather_42 : decode cX7_drawWeather 42 = .ok (.ireturn, 1) := by decide +kernel
theorem dX7_drawWeather_43 : decode cX7_drawWeather 43 = .ok (.iload_n 1, 1) := by decide +kernel
theorem dX7_drawWeather_44 : decode cX7_drawWeather 44 = .ok (.aload_n 0, 1) := by decide +kernel
theorem dX7_drawWeather_45 : decode cX7_drawWeather 45 = .ok (.getfield 18, 3) := by decide +kernel
theorem dX7_drawWeather_48 : decode cX7_drawWeather 48 = .ok (.aload_n 0, 1) := by decide +kernel
theorem dX7_drawWeather_49 : decode cX7_drawWeather 49 = .ok (.getfield 21, 3) := by decide +kernel
theorem dX7_drawWeather_52 : decode cX7_drawWeather 52 = .ok (.iadd, 1) := by decide +kernel
theorem dX7_drawWeather_53 : decode cX7_drawWeather 53 = .ok (.if_icmp .ge 7, 3) := by decide +kernel
theorem dX7_drawWeather_56 : decode cX7_drawWeather 56 = .ok (.iconst 2, 1) := by decide +kernel
theorem dX7_drawWeather_57 : decode cX7_drawWeather 57 = .ok (.goto 4, 3) := by decide +kernel
theorem dX7_drawWeather_60 : decode cX7_drawWeather 60 = .ok (.iconst 0, 1) := by decide +kernel
theorem dX7_drawWeather_61 : decode cX7_drawWeather 61 = .ok (.ireturn, 1) := by decide +kernel
theorem dX7_remember_0 : decode cX7_remember 0 = .ok (.aload_n 0, 1) := by decide +kernel
theorem dX7_remember_1 : decode cX7_remember 1 = .ok (.getfield 107, 3) := by decide +kernel
theorem dX7_remember_4 : decode cX7_remember 4 = .ok (.bipush 8, 2) := by decide +kernel
theorem dX7_remember_6 : decode cX7_remember 6 = .ok (.if_icmp .lt 25, 3) := by decide +kernel
theorem dX7_remember_9 : decode cX7_remember 9 = .ok (.aload_n 0, 1) := by decide +kernel
theorem dX7_remember_10 : decode cX7_remember 10 = .ok (.getfield 43, 3) := by decide +kernel
theorem dX7_remember_13 : decode cX7_remember 13 = .ok (.bipush 6, 2) := by decide +kernel
theorem dX7_remember_15 : decode cX7_remember 15 = .ok (.aload_n 0, 1) := by decide +kernel
theorem dX7_remember_16 : decode cX7_remember 16 = .ok (.getfield 43, 3) := by decide +kernel
theorem dX7_remember_19 : decode cX7_remember 19 = .ok (.iconst 0, 1) := by decide +kernel
theorem dX7_remember_20 : decode cX7_remember 20 = .ok (.bipush 42, 2) := by decide +kernel
theorem dX7_remember_22 : decode cX7_remember 22 = .ok (.invokestatic 110, 3) := by decide +kernel
theorem dX7_remember_25 : decode cX7_remember 25 = .ok (.aload_n 0, 1) := by decide +kernel
theorem dX7_remember_26 : decode cX7_remember 26 = .ok (.bipush 7, 2) := by decide +kernel
theorem dX7_remember_28 : decode cX7_remember 28 = .ok (.putfield 107, 3) := by decide +kernel
theorem dX7_remember_31 : decode cX7_remember 31 = .ok (.aload_n 0, 1) := by decide +kernel
theorem dX7_remember_32 : decode cX7_remember 32 = .ok (.getfield 107, 3) := by decide +kernel
theorem dX7_remember_35 : decode cX7_remember 35 = .ok (.bipush 6, 2) := by decide +kernel
theorem dX7_remember_37 : decode cX7_remember 37 = .ok (.imul, 1) := by decide +kernel
theorem dX7_remember_38 : decode cX7_remember 38 = .ok (.istore_n 1, 1) := by decide +kernel
theorem dX7_remember_39 : decode cX7_remember 39 = .ok (.aload_n 0, 1) := by decide +kernel
theorem dX7_remember_40 : decode cX7_remember 40 = .ok (.getfield 43, 3) := by decide +kernel
theorem dX7_remember_43 : decode cX7_remember 43 = .ok (.iload_n 1, 1) := by decide +kernel
theorem dX7_remember_44 : decode cX7_remember 44 = .ok (.aload_n 0, 1) := by decide +kernel
theorem dX7_remember_45 : decode cX7_remember 45 = .ok (.getfield 46, 3) := by decide +kernel
theorem dX7_remember_48 : decode cX7_remember 48 = .ok (.iastore, 1) := by decide +kernel
theorem dX7_remember_49 : decode cX7_remember 49 = .ok (.aload_n 0, 1) := by decide +kernel
theorem dX7_remember_50 : decode cX7_remember 50 = .ok (.getfield 43, 3) := by decide +kernel
theorem dX7_remember_53 : decode cX7_remember 53 = .ok (.iload_n 1, 1) := by decide +kernel
theorem dX7_remember_54 : decode cX7_remember 54 = .ok (.iconst 1, 1) := by decide +kernel
theorem dX7_remember_55 : decode cX7_remember 55 = .ok (.iadd, 1) := by decide +kernel
theorem dX7_remember_56 : decode cX7_remember 56 = .ok (.aload_n 0, 1) := by decide +kernel
theorem dX7_remember_57 : decode cX7_remember 57 = .ok (.getfield 90, 3) := by decide +kernel
theorem dX7_remember_60 : decode cX7_remember 60 = .ok (.iastore, 1) := by decide +kernel
theorem dX7_remember_61 : decode cX7_remember 61 = .ok (.aload_n 0, 1) := by decide +kernel
theorem dX7_remember_62 : decode cX7_remember 62 = .ok (.getfield 43, 3) := by decide +kernel
theorem dX7_remember_65 : decode cX7_remember 65 = .ok (.iload_n 1, 1) := by decide +kernel
theorem dX7_remember_66 : decode cX7_remember 66 = .ok (.iconst 2, 1) := by decide +kernel
theorem dX7_remember_67 : decode cX7_remember 67 = .ok (.iadd, 1) := by decide +kernel
theorem dX7_remember_68 : decode cX7_remember 68 = .ok (.aload_n 0, 1) := by decide +kernel
theorem dX7_remember_69 : decode cX7_remember 69 = .ok (.getfield 49, 3) := by decide +kernel
theorem dX7_remember_72 : decode cX7_remember 72 = .ok (.iastore, 1) := by decide +kernel
theorem dX7_remember_73 : decode cX7_remember 73 = .ok (.aload_n 0, 1) := by decide +kernel
theorem dX7_remember_74 : decode cX7_remember 74 = .ok (.getfield 43, 3) := by decide +kernel
theorem dX7_remember_77 : decode cX7_remember 77 = .ok (.iload_n 1, 1) := by decide +kernel
theorem dX7_remember_78 : decode cX7_remember 78 = .ok (.iconst 3, 1) := by decide +kernel
theorem dX7_remember_79 : decode cX7_remember 79 = .ok (.iadd, 1) := by decide +kernel
theorem dX7_remember_80 : decode cX7_remember 80 = .ok (.aload_n 0, 1) := by decide +kernel
theorem dX7_remember_81 : decode cX7_remember 81 = .ok (.getfield 76, 3) := by decide +kernel
theorem dX7_remember_84 : decode cX7_remember 84 = .ok (.iastore, 1) := by decide +kernel
theorem dX7_remember_85 : decode cX7_remember 85 = .ok (.aload_n 0, 1) := by decide +kernel
theorem dX7_remember_86 : decode cX7_remember 86 = .ok (.getfield 43, 3) := by decide +kernel
theorem dX7_remember_89 : decode cX7_remember 89 = .ok (.iload_n 1, 1) := by decide +kernel
theorem dX7_remember_90 : decode cX7_remember 90 = .ok (.iconst 4, 1) := by decide +kernel
theorem dX7_remember_91 : decode cX7_remember 91 = .ok (.iadd, 1) := by decide +kernel
theorem dX7_remember_92 : decode cX7_remember 92 = .ok (.aload_n 0, 1) := by decide +kernel
theorem dX7_remember_93 : decode cX7_remember 93 = .ok (.getfield 87, 3) := by decide +kernel
theorem dX7_remember_96 : decode cX7_remember 96 = .ok (.iastore, 1) := by decide +kernel
theorem dX7_remember_97 : decode cX7_remember 97 = .ok (.aload_n 0, 1) := by decide +kernel
theorem dX7_remember_98 : decode cX7_remember 98 = .ok (.getfield 43, 3) := by decide +kernel
theorem dX7_remember_101 : decode cX7_remember 101 = .ok (.iload_n 1, 1) := by decide +kernel
theorem dX7_remember_102 : decode cX7_remember 102 = .ok (.iconst 5, 1) := by decide +kernel
theorem dX7_remember_103 : decode cX7_remember 103 = .ok (.iadd, 1) := by decide +kernel
theorem dX7_remember_104 : decode cX7_remember 104 = .ok (.aload_n 0, 1) := by decide +kernel
theorem dX7_remember_105 : decode cX7_remember 105 = .ok (.getfield 27, 3) := by decide +kernel
theorem dX7_remember_108 : decode cX7_remember 108 = .ok (.iastore, 1) := by decide +kernel
theorem dX7_remember_109 : decode cX7_remember 109 = .ok (.aload_n 0, 1) := by decide +kernel
theorem dX7_remember_110 : decode cX7_remember 110 = .ok (.dup, 1) := by decide +kernel
theorem dX7_remember_111 : decode cX7_remember 111 = .ok (.getfield 107, 3) := by decide +kernel
theorem dX7_remember_114 : decode cX7_remember 114 = .ok (.iconst 1, 1) := by decide +kernel
theorem dX7_remember_115 : decode cX7_remember 115 = .ok (.iadd, 1) := by decide +kernel
theorem dX7_remember_116 : decode cX7_remember 116 = .ok (.putfield 107, 3) := by decide +kernel
theorem dX7_remember_119 : decode cX7_remember 119 = .ok (.return_, 1) := by decide +kernel
theorem dX7_recall_0 : decode cX7_recall 0 = .ok (.aload_n 0, 1) := by decide +kernel
theorem dX7_recall_1 : decode cX7_recall 1 = .ok (.getfield 107, 3) := by decide +kernel
theorem dX7_recall_4 : decode cX7_recall 4 = .ok (.ifCond .gt 4, 3) := by decide +kernel
theorem dX7_recall_7 : decode cX7_recall 7 = .ok (.return_, 1) := by decide +kernel
theorem dX7_recall_8 : decode cX7_recall 8 = .ok (.aload_n 0, 1) := by decide +kernel
theorem dX7_recall_9 : decode cX7_recall 9 = .ok (.dup, 1) := by decide +kernel
theorem dX7_recall_10 : decode cX7_recall 10 = .ok (.getfield 107, 3) := by decide +kernel
theorem dX7_recall_13 : decode cX7_recall 13 = .ok (.iconst 1, 1) := by decide +kernel
theorem dX7_recall_14 : decode cX7_recall 14 = .ok (.isub, 1) := by decide +kernel
theorem dX7_recall_15 : decode cX7_recall 15 = .ok (.putfield 107, 3) := by decide +kernel
theorem dX7_recall_18 : decode cX7_recall 18 = .ok (.aload_n 0, 1) := by decide +kernel
theorem dX7_recall_19 : decode cX7_recall 19 = .ok (.getfield 107, 3) := by decide +kernel
theorem dX7_recall_22 : decode cX7_recall 22 = .ok (.bipush 6, 2) := by decide +kernel
theorem dX7_recall_24 : decode cX7_recall 24 = .ok (.imul, 1) := by decide +kernel
theorem dX7_recall_25 : decode cX7_recall 25 = .ok (.istore_n 1, 1) := by decide +kernel
theorem dX7_recall_26 : decode cX7_recall 26 = .ok (.aload_n 0, 1) := by decide +kernel
theorem dX7_recall_27 : decode cX7_recall 27 = .ok (.aload_n 0, 1) := by decide +kernel
theorem dX7_recall_28 : decode cX7_recall 28 = .ok (.getfield 43, 3) := by decide +kernel
theorem dX7_recall_31 : decode cX7_recall 31 = .ok (.iload_n 1, 1) := by decide +kernel
theorem dX7_recall_32 : decode cX7_recall 32 = .ok (.iaload, 1) := by decide +kernel
theorem dX7_recall_33 : decode cX7_recall 33 = .ok (.putfield 46, 3) := by decide +kernel
theorem dX7_recall_36 : decode cX7_recall 36 = .ok (.aload_n 0, 1) := by decide +kernel
theorem dX7_recall_37 : decode cX7_recall 37 = .ok (.aload_n 0, 1) := by decide +kernel
theorem dX7_recall_38 : decode cX7_recall 38 = .ok (.getfield 43, 3) := by decide +kernel
theorem dX7_recall_41 : decode cX7_recall 41 = .ok (.iload_n 1, 1) := by decide +kernel
theorem dX7_recall_42 : decode cX7_recall 42 = .ok (.iconst 1, 1) := by decide +kernel
theorem dX7_recall_43 : decode cX7_recall 43 = .ok (.iadd, 1) := by decide +kernel
theorem dX7_recall_44 : decode cX7_recall 44 = .ok (.iaload, 1) := by decide +kernel
theorem dX7_recall_45 : decode cX7_recall 45 = .ok (.putfield 90, 3) := by decide +kernel
theorem dX7_recall_48 : decode cX7_recall 48 = .ok (.aload_n 0, 1) := by decide +kernel
theorem dX7_recall_49 : decode cX7_recall 49 = .ok (.aload_n 0, 1) := by decide +kernel
theorem dX7_recall_50 : decode cX7_recall 50 = .ok (.getfield 43, 3) := by decide +kernel
theorem dX7_recall_53 : decode cX7_recall 53 = .ok (.iload_n 1, 1) := by decide +kernel
theorem dX7_recall_54 : decode cX7_recall 54 = .ok (.iconst 2, 1) := by decide +kernel
theorem dX7_recall_55 : decode cX7_recall 55 = .ok (.iadd, 1) := by decide +kernel
theorem dX7_recall_56 : decode cX7_recall 56 = .ok (.iaload, 1) := by decide +kernel
theorem dX7_recall_57 : decode cX7_recall 57 = .ok (.putfield 49, 3) := by decide +kernel
theorem dX7_recall_60 : decode cX7_recall 60 = .ok (.aload_n 0, 1) := by decide +kernel
theorem dX7_recall_61 : decode cX7_recall 61 = .ok (.aload_n 0, 1) := by decide +kernel
theorem dX7_recall_62 : decode cX7_recall 62 = .ok (.getfield 43, 3) := by decide +kernel
theorem dX7_recall_65 : decode cX7_recall 65 = .ok (.iload_n 1, 1) := by decide +kernel
theorem dX7_recall_66 : decode cX7_recall 66 = .ok (.iconst 3, 1) := by decide +kernel
theorem dX7_recall_67 : decode cX7_recall 67 = .ok (.iadd, 1) := by decide +kernel
theorem dX7_recall_68 : decode cX7_recall 68 = .ok (.iaload, 1) := by decide +kernel
theorem dX7_recall_69 : decode cX7_recall 69 = .ok (.putfield 76, 3) := by decide +kernel
theorem dX7_recall_72 : decode cX7_recall 72 = .ok (.aload_n 0, 1) := by decide +kernel
theorem dX7_recall_73 : decode cX7_recall 73 = .ok (.aload_n 0, 1) := by decide +kernel
theorem dX7_recall_74 : decode cX7_recall 74 = .ok (.getfield 43, 3) := by decide +kernel
theorem dX7_recall_77 : decode cX7_recall 77 = .ok (.iload_n 1, 1) := by decide +kernel
theorem dX7_recall_78 : decode cX7_recall 78 = .ok (.iconst 4, 1) := by decide +kernel
theorem dX7_recall_79 : decode cX7_recall 79 = .ok (.iadd, 1) := by decide +kernel
theorem dX7_recall_80 : decode cX7_recall 80 = .ok (.iaload, 1) := by decide +kernel
theorem dX7_recall_81 : decode cX7_recall 81 = .ok (.putfield 87, 3) := by decide +kernel
theorem dX7_recall_84 : decode cX7_recall 84 = .ok (.aload_n 0, 1) := by decide +kernel
theorem dX7_recall_85 : decode cX7_recall 85 = .ok (.aload_n 0, 1) := by decide +kernel
theorem dX7_recall_86 : decode cX7_recall 86 = .ok (.getfield 43, 3) := by decide +kernel
theorem dX7_recall_89 : decode cX7_recall 89 = .ok (.iload_n 1, 1) := by decide +kernel
theorem dX7_recall_90 : decode cX7_recall 90 = .ok (.iconst 5, 1) := by decide +kernel
theorem dX7_recall_91 : decode cX7_recall 91 = .ok (.iadd, 1) := by decide +kernel
theorem dX7_recall_92 : decode cX7_recall 92 = .ok (.iaload, 1) := by decide +kernel
theorem dX7_recall_93 : decode cX7_recall 93 = .ok (.putfield 27, 3) := by decide +kernel
theorem dX7_recall_96 : decode cX7_recall 96 = .ok (.return_, 1) := by decide +kernel
theorem dX7_begin_0 : decode cX7_begin 0 = .ok (.aload_n 0, 1) := by decide +kernel
theorem dX7_begin_1 : decode cX7_begin 1 = .ok (.aload_n 1, 1) := by decide +kernel
theorem dX7_begin_2 : decode cX7_begin 2 = .ok (.getfield 116, 3) := by decide +kernel
theorem dX7_begin_5 : decode cX7_begin 5 = .ok (.putfield 9, 3) := by decide +kernel
theorem dX7_begin_8 : decode cX7_begin 8 = .ok (.aload_n 0, 1) := by decide +kernel
theorem dX7_begin_9 : decode cX7_begin 9 = .ok (.aload_n 1, 1) := by decide +kernel
theorem dX7_begin_10 : decode cX7_begin 10 = .ok (.getfield 119, 3) := by decide +kernel
theorem dX7_begin_13 : decode cX7_begin 13 = .ok (.putfield 15, 3) := by decide +kernel
theorem dX7_begin_16 : decode cX7_begin 16 = .ok (.aload_n 0, 1) := by decide +kernel
theorem dX7_begin_17 : decode cX7_begin 17 = .ok (.iconst 0, 1) := by decide +kernel
theorem dX7_begin_18 : decode cX7_begin 18 = .ok (.putfield 46, 3) := by decide +kernel
theorem dX7_begin_21 : decode cX7_begin 21 = .ok (.aload_n 0, 1) := by decide +kernel
theorem dX7_begin_22 : decode cX7_begin 22 = .ok (.iconst 0, 1) := by decide +kernel
theorem dX7_begin_23 : decode cX7_begin 23 = .ok (.putfield 90, 3) := by decide +kernel
theorem dX7_begin_26 : decode cX7_begin 26 = .ok (.aload_n 0, 1) := by decide +kernel
theorem dX7_begin_27 : decode cX7_begin 27 = .ok (.iconst 0, 1) := by decide +kernel
theorem dX7_begin_28 : decode cX7_begin 28 = .ok (.putfield 49, 3) := by decide +kernel
theorem dX7_begin_31 : decode cX7_begin 31 = .ok (.aload_n 0, 1) := by decide +kernel
theorem dX7_begin_32 : decode cX7_begin 32 = .ok (.iconst 0, 1) := by decide +kernel
theorem dX7_begin_33 : decode cX7_begin 33 = .ok (.putfield 76, 3) := by decide +kernel
theorem dX7_begin_36 : decode cX7_begin 36 = .ok (.aload_n 0, 1) := by decide +kernel
theorem dX7_begin_37 : decode cX7_begin 37 = .ok (.iconst 0, 1) := by decide +kernel
theorem dX7_begin_38 : decode cX7_begin 38 = .ok (.putfield 87, 3) := by decide +kernel
theorem dX7_begin_41 : decode cX7_begin 41 = .ok (.aload_n 0, 1) := by decide +kernel
theorem dX7_begin_42 : decode cX7_begin 42 = .ok (.iconst 0, 1) := by decide +kernel
theorem dX7_begin_43 : decode cX7_begin 43 = .ok (.putfield 107, 3) := by decide +kernel
theorem dX7_begin_46 : decode cX7_begin 46 = .ok (.aload_n 0, 1) := by decide +kernel
theorem dX7_begin_47 : decode cX7_begin 47 = .ok (.iconst 0, 1) := by decide +kernel
theorem dX7_begin_48 : decode cX7_begin 48 = .ok (.putfield 52, 3) := by decide +kernel
theorem dX7_begin_51 : decode cX7_begin 51 = .ok (.aload_n 0, 1) := by decide +kernel
theorem dX7_begin_52 : decode cX7_begin 52 = .ok (.iconst 0, 1) := by decide +kernel
theorem dX7_begin_53 : decode cX7_begin 53 = .ok (.putfield 59, 3) := by decide +kernel
theorem dX7_begin_56 : decode cX7_begin 56 = .ok (.iconst 0, 1) := by decide +kernel
theorem dX7_begin_57 : decode cX7_begin 57 = .ok (.istore_n 2, 1) := by decide +kernel
theorem dX7_begin_58 : decode cX7_begin 58 = .ok (.iload_n 2, 1) := by decide +kernel
theorem dX7_begin_59 : decode cX7_begin 59 = .ok (.aload_n 1, 1) := by decide +kernel
theorem dX7_begin_60 : decode cX7_begin 60 = .ok (.getfield 120, 3) := by decide +kernel
theorem dX7_begin_63 : decode cX7_begin 63 = .ok (.if_icmp .ge 31, 3) := by decide +kernel
theorem dX7_begin_66 : decode cX7_begin 66 = .ok (.aload_n 0, 1) := by decide +kernel
theorem dX7_begin_67 : decode cX7_begin 67 = .ok (.aload_n 1, 1) := by decide +kernel
theorem dX7_begin_68 : decode cX7_begin 68 = .ok (.getfield 121, 3) := by decide +kernel
theorem dX7_begin_71 : decode cX7_begin 71 = .ok (.iload_n 2, 1) := by decide +kernel
theorem dX7_begin_72 : decode cX7_begin 72 = .ok (.iaload, 1) := by decide +kernel
theorem dX7_begin_73 : decode cX7_begin 73 = .ok (.aload_n 1, 1) := by decide +kernel
theorem dX7_begin_74 : decode cX7_begin 74 = .ok (.getfield 124, 3) := by decide +kernel
theorem dX7_begin_77 : decode cX7_begin 77 = .ok (.iload_n 2, 1) := by decide +kernel
theorem dX7_begin_78 : decode cX7_begin 78 = .ok (.iaload, 1) := by decide +kernel
theorem dX7_begin_79 : decode cX7_begin 79 = .ok (.aload_n 1, 1) := by decide +kernel
theorem dX7_begin_80 : decode cX7_begin 80 = .ok (.getfield 127, 3) := by decide +kernel
theorem dX7_begin_83 : decode cX7_begin 83 = .ok (.iload_n 2, 1) := by decide +kernel
theorem dX7_begin_84 : decode cX7_begin 84 = .ok (.iaload, 1) := by decide +kernel
theorem dX7_begin_85 : decode cX7_begin 85 = .ok (.invokevirtual 130, 3) := by decide +kernel
theorem dX7_begin_88 : decode cX7_begin 88 = .ok (.iinc 2 1, 3) := by decide +kernel
theorem dX7_begin_91 : decode cX7_begin 91 = .ok (.goto (-33), 3) := by decide +kernel
theorem dX7_begin_94 : decode cX7_begin 94 = .ok (.iconst 0, 1) := by decide +kernel
theorem dX7_begin_95 : decode cX7_begin 95 = .ok (.istore_n 2, 1) := by decide +kernel
theorem dX7_begin_96 : decode cX7_begin 96 = .ok (.iload_n 2, 1) := by decide +kernel
theorem dX7_begin_97 : decode cX7_begin 97 = .ok (.aload_n 1, 1) := by decide +kernel
theorem dX7_begin_98 : decode cX7_begin 98 = .ok (.getfield 134, 3) := by decide +kernel
theorem dX7_begin_101 : decode cX7_begin 101 = .ok (.if_icmp .ge 25, 3) := by decide +kernel
theorem dX7_begin_104 : decode cX7_begin 104 = .ok (.aload_n 0, 1) := by decide +kernel
theorem dX7_begin_105 : decode cX7_begin 105 = .ok (.aload_n 1, 1) := by decide +kernel
theorem dX7_begin_106 : decode cX7_begin 106 = .ok (.getfield 135, 3) := by decide +kernel
theorem dX7_begin_109 : decode cX7_begin 109 = .ok (.iload_n 2, 1) := by decide +kernel
theorem dX7_begin_110 : decode cX7_begin 110 = .ok (.iaload, 1) := by decide +kernel
theorem dX7_begin_111 : decode cX7_begin 111 = .ok (.aload_n 1, 1) := by decide +kernel
theorem dX7_begin_112 : decode cX7_begin 112 = .ok (.getfield 136, 3) := by decide +kernel
theorem dX7_begin_115 : decode cX7_begin 115 = .ok (.iload_n 2, 1) := by decide +kernel
theorem dX7_begin_116 : decode cX7_begin 116 = .ok (.iaload, 1) := by decide +kernel
theorem dX7_begin_117 : decode cX7_begin 117 = .ok (.invokevirtual 137, 3) := by decide +kernel
theorem dX7_begin_120 : decode cX7_begin 120 = .ok (.iinc 2 1, 3) := by decide +kernel
theorem dX7_begin_123 : decode cX7_begin 123 = .ok (.goto (-27), 3) := by decide +kernel
theorem dX7_begin_126 : decode cX7_begin 126 = .ok (.return_, 1) := by decide +kernel
theorem dX7_becomes_0 : decode cX7_becomes 0 = .ok (.aload_n 0, 1) := by decide +kernel
theorem dX7_becomes_1 : decode cX7_becomes 1 = .ok (.aload_n 1, 1) := by decide +kernel
theorem dX7_becomes_2 : decode cX7_becomes 2 = .ok (.getfield 9, 3) := by decide +kernel
theorem dX7_becomes_5 : decode cX7_becomes 5 = .ok (.putfield 9, 3) := by decide +kernel
theorem dX7_becomes_8 : decode cX7_becomes 8 = .ok (.aload_n 0, 1) := by decide +kernel
theorem dX7_becomes_9 : decode cX7_becomes 9 = .ok (.aload_n 1, 1) := by decide +kernel
theorem dX7_becomes_10 : decode cX7_becomes 10 = .ok (.getfield 15, 3) := by decide +kernel
theorem dX7_becomes_13 : decode cX7_becomes 13 = .ok (.putfield 15, 3) := by decide +kernel
theorem dX7_becomes_16 : decode cX7_becomes 16 = .ok (.aload_n 0, 1) := by decide +kernel
theorem dX7_becomes_17 : decode cX7_becomes 17 = .ok (.aload_n 1, 1) := by decide +kernel
theorem dX7_becomes_18 : decode cX7_becomes 18 = .ok (.getfield 18, 3) := by decide +kernel
theorem dX7_becomes_21 : decode cX7_becomes 21 = .ok (.putfield 18, 3) := by decide +kernel
theorem dX7_becomes_24 : decode cX7_becomes 24 = .ok (.aload_n 0, 1) := by decide +kernel
theorem dX7_becomes_25 : decode cX7_becomes 25 = .ok (.aload_n 1, 1) := by decide +kernel
theorem dX7_becomes_26 : decode cX7_becomes 26 = .ok (.getfield 21, 3) := by decide +kernel
theorem dX7_becomes_29 : decode cX7_becomes 29 = .ok (.putfield 21, 3) := by decide +kernel
theorem dX7_becomes_32 : decode cX7_becomes 32 = .ok (.aload_n 0, 1) := by decide +kernel
theorem dX7_becomes_33 : decode cX7_becomes 33 = .ok (.aload_n 1, 1) := by decide +kernel
theorem dX7_becomes_34 : decode cX7_becomes 34 = .ok (.getfield 46, 3) := by decide +kernel
theorem dX7_becomes_37 : decode cX7_becomes 37 = .ok (.putfield 46, 3) := by decide +kernel
theorem dX7_becomes_40 : decode cX7_becomes 40 = .ok (.aload_n 0, 1) := by decide +kernel
theorem dX7_becomes_41 : decode cX7_becomes 41 = .ok (.aload_n 1, 1) := by decide +kernel
theorem dX7_becomes_42 : decode cX7_becomes 42 = .ok (.getfield 90, 3) := by decide +kernel
theorem dX7_becomes_45 : decode cX7_becomes 45 = .ok (.putfield 90, 3) := by decide +kernel
theorem dX7_becomes_48 : decode cX7_becomes 48 = .ok (.aload_n 0, 1) := by decide +kernel
theorem dX7_becomes_49 : decode cX7_becomes 49 = .ok (.aload_n 1, 1) := by decide +kernel
theorem dX7_becomes_50 : decode cX7_becomes 50 = .ok (.getfield 49, 3) := by decide +kernel
theorem dX7_becomes_53 : decode cX7_becomes 53 = .ok (.putfield 49, 3) := by decide +kernel
theorem dX7_becomes_56 : decode cX7_becomes 56 = .ok (.aload_n 0, 1) := by decide +kernel
theorem dX7_becomes_57 : decode cX7_becomes 57 = .ok (.aload_n 1, 1) := by decide +kernel
theorem dX7_becomes_58 : decode cX7_becomes 58 = .ok (.getfield 76, 3) := by decide +kernel
theorem dX7_becomes_61 : decode cX7_becomes 61 = .ok (.putfield 76, 3) := by decide +kernel
theorem dX7_becomes_64 : decode cX7_becomes 64 = .ok (.aload_n 0, 1) := by decide +kernel
theorem dX7_becomes_65 : decode cX7_becomes 65 = .ok (.aload_n 1, 1) := by decide +kernel
theorem dX7_becomes_66 : decode cX7_becomes 66 = .ok (.getfield 87, 3) := by decide +kernel
theorem dX7_becomes_69 : decode cX7_becomes 69 = .ok (.putfield 87, 3) := by decide +kernel
theorem dX7_becomes_72 : decode cX7_becomes 72 = .ok (.aload_n 0, 1) := by decide +kernel
theorem dX7_becomes_73 : decode cX7_becomes 73 = .ok (.aload_n 1, 1) := by decide +kernel
theorem dX7_becomes_74 : decode cX7_becomes 74 = .ok (.getfield 24, 3) := by decide +kernel
theorem dX7_becomes_77 : decode cX7_becomes 77 = .ok (.putfield 24, 3) := by decide +kernel
theorem dX7_becomes_80 : decode cX7_becomes 80 = .ok (.aload_n 0, 1) := by decide +kernel
theorem dX7_becomes_81 : decode cX7_becomes 81 = .ok (.aload_n 1, 1) := by decide +kernel
theorem dX7_becomes_82 : decode cX7_becomes 82 = .ok (.getfield 27, 3) := by decide +kernel
theorem dX7_becomes_85 : decode cX7_becomes 85 = .ok (.putfield 27, 3) := by decide +kernel
theorem dX7_becomes_88 : decode cX7_becomes 88 = .ok (.aload_n 0, 1) := by decide +kernel
theorem dX7_becomes_89 : decode cX7_becomes 89 = .ok (.aload_n 1, 1) := by decide +kernel
theorem dX7_becomes_90 : decode cX7_becomes 90 = .ok (.getfield 52, 3) := by decide +kernel
theorem dX7_becomes_93 : decode cX7_becomes 93 = .ok (.putfield 52, 3) := by decide +kernel
theorem dX7_becomes_96 : decode cX7_becomes 96 = .ok (.aload_n 0, 1) := by decide +kernel
theorem dX7_becomes_97 : decode cX7_becomes 97 = .ok (.aload_n 1, 1) := by decide +kernel
theorem dX7_becomes_98 : decode cX7_becomes 98 = .ok (.getfield 59, 3) := by decide +kernel
theorem dX7_becomes_101 : decode cX7_becomes 101 = .ok (.putfield 59, 3) := by decide +kernel
theorem dX7_becomes_104 : decode cX7_becomes 104 = .ok (.aload_n 0, 1) := by decide +kernel
theorem dX7_becomes_105 : decode cX7_becomes 105 = .ok (.aload_n 1, 1) := by decide +kernel
theorem dX7_becomes_106 : decode cX7_becomes 106 = .ok (.getfield 107, 3) := by decide +kernel
theorem dX7_becomes_109 : decode cX7_becomes 109 = .ok (.putfield 107, 3) := by decide +kernel
theorem dX7_becomes_112 : decode cX7_becomes 112 = .ok (.iconst 0, 1) := by decide +kernel
theorem dX7_becomes_113 : decode cX7_becomes 113 = .ok (.istore_n 2, 1) := by decide +kernel
theorem dX7_becomes_114 : decode cX7_becomes 114 = .ok (.iload_n 2, 1) := by decide +kernel
theorem dX7_becomes_115 : decode cX7_becomes 115 = .ok (.iconst 4, 1) := by decide +kernel
theorem dX7_becomes_116 : decode cX7_becomes 116 = .ok (.if_icmp .ge 21, 3) := by decide +kernel
theorem dX7_becomes_119 : decode cX7_becomes 119 = .ok (.aload_n 0, 1) := by decide +kernel
theorem dX7_becomes_120 : decode cX7_becomes 120 = .ok (.getfield 32, 3) := by decide +kernel
theorem dX7_becomes_123 : decode cX7_becomes 123 = .ok (.iload_n 2, 1) := by decide +kernel
theorem dX7_becomes_124 : decode cX7_becomes 124 = .ok (.aload_n 1, 1) := by decide +kernel
theorem dX7_becomes_125 : decode cX7_becomes 125 = .ok (.getfield 32, 3) := by decide +kernel
theorem dX7_becomes_128 : decode cX7_becomes 128 = .ok (.iload_n 2, 1) := by decide +kernel
theorem dX7_becomes_129 : decode cX7_becomes 129 = .ok (.aaload, 1) := by decide +kernel
theorem dX7_becomes_130 : decode cX7_becomes 130 = .ok (.aastore, 1) := by decide +kernel
theorem dX7_becomes_131 : decode cX7_becomes 131 = .ok (.iinc 2 1, 3) := by decide +kernel
theorem dX7_becomes_134 : decode cX7_becomes 134 = .ok (.goto (-20), 3) := by decide +kernel
theorem dX7_becomes_137 : decode cX7_becomes 137 = .ok (.aload_n 1, 1) := by decide +kernel
theorem dX7_becomes_138 : decode cX7_becomes 138 = .ok (.getfield 36, 3) := by decide +kernel
theorem dX7_becomes_141 : decode cX7_becomes 141 = .ok (.iconst 0, 1) := by decide +kernel
theorem dX7_becomes_142 : decode cX7_becomes 142 = .ok (.aload_n 0, 1) := by decide +kernel
theorem dX7_becomes_143 : decode cX7_becomes 143 = .ok (.getfield 36, 3) := by decide +kernel
theorem dX7_becomes_146 : decode cX7_becomes 146 = .ok (.iconst 0, 1) := by decide +kernel
theorem dX7_becomes_147 : decode cX7_becomes 147 = .ok (.bipush 6, 2) := by decide +kernel
theorem dX7_becomes_149 : decode cX7_becomes 149 = .ok (.invokestatic 110, 3) := by decide +kernel
theorem dX7_becomes_152 : decode cX7_becomes 152 = .ok (.aload_n 1, 1) := by decide +kernel
theorem dX7_becomes_153 : decode cX7_becomes 153 = .ok (.getfield 40, 3) := by decide +kernel
theorem dX7_becomes_156 : decode cX7_becomes 156 = .ok (.iconst 0, 1) := by decide +kernel
theorem dX7_becomes_157 : decode cX7_becomes 157 = .ok (.aload_n 0, 1) := by decide +kernel
theorem dX7_becomes_158 : decode cX7_becomes 158 = .ok (.getfield 40, 3) := by decide +kernel
theorem dX7_becomes_161 : decode cX7_becomes 161 = .ok (.iconst 0, 1) := by decide +kernel
theorem dX7_becomes_162 : decode cX7_becomes 162 = .ok (.bipush 6, 2) := by decide +kernel
theorem dX7_becomes_164 : decode cX7_becomes 164 = .ok (.invokestatic 110, 3) := by decide +kernel
theorem dX7_becomes_167 : decode cX7_becomes 167 = .ok (.aload_n 1, 1) := by decide +kernel
theorem dX7_becomes_168 : decode cX7_becomes 168 = .ok (.getfield 43, 3) := by decide +kernel
theorem dX7_becomes_171 : decode cX7_becomes 171 = .ok (.iconst 0, 1) := by decide +kernel
theorem dX7_becomes_172 : decode cX7_becomes 172 = .ok (.aload_n 0, 1) := by decide +kernel
theorem dX7_becomes_173 : decode cX7_becomes 173 = .ok (.getfield 43, 3) := by decide +kernel
theorem dX7_becomes_176 : decode cX7_becomes 176 = .ok (.iconst 0, 1) := by decide +kernel
theorem dX7_becomes_177 : decode cX7_becomes 177 = .ok (.bipush 48, 2) := by decide +kernel
theorem dX7_becomes_179 : decode cX7_becomes 179 = .ok (.invokestatic 110, 3) := by decide +kernel
theorem dX7_becomes_182 : decode cX7_becomes 182 = .ok (.return_, 1) := by decide +kernel
theorem dX8_init_0 : decode cX8_init 0 = .ok (.aload_n 0, 1) := by decide +kernel
theorem dX8_init_1 : decode cX8_init 1 = .ok (.invokespecial 3, 3) := by decide +kernel
theorem dX8_init_4 : decode cX8_init 4 = .ok (.aload_n 0, 1) := by decide +kernel
theorem dX8_init_5 : decode cX8_init 5 = .ok (.bipush 60, 2) := by decide +kernel
theorem dX8_init_7 : decode cX8_init 7 = .ok (.newarray .char, 2) := by decide +kernel
theorem dX8_init_9 : decode cX8_init 9 = .ok (.putfield 9, 3) := by decide +kernel
theorem dX8_init_12 : decode cX8_init 12 = .ok (.aload_n 0, 1) := by decide +kernel
theorem dX8_init_13 : decode cX8_init 13 = .ok (.iconst 4, 1) := by decide +kernel
theorem dX8_init_14 : decode cX8_init 14 = .ok (.newarray .int, 2) := by decide +kernel
theorem dX8_init_16 : decode cX8_init 16 = .ok (.putfield 15, 3) := by decide +kernel
theorem dX8_init_19 : decode cX8_init 19 = .ok (.aload_n 0, 1) := by decide +kernel
theorem dX8_init_20 : decode cX8_init 20 = .ok (.iconst 4, 1) := by decide +kernel
theorem dX8_init_21 : decode cX8_init 21 = .ok (.newarray .int, 2) := by decide +kernel
theorem dX8_init_23 : decode cX8_init 23 = .ok (.putfield 19, 3) := by decide +kernel
theorem dX8_init_26 : decode cX8_init 26 = .ok (.aload_n 0, 1) := by decide +kernel
theorem dX8_init_27 : decode cX8_init 27 = .ok (.iconst 4, 1) := by decide +kernel
theorem dX8_init_28 : decode cX8_init 28 = .ok (.newarray .int, 2) := by decide +kernel
theorem dX8_init_30 : decode cX8_init 30 = .ok (.putfield 22, 3) := by decide +kernel
theorem dX8_init_33 : decode cX8_init 33 = .ok (.aload_n 0, 1) := by decide +kernel
theorem dX8_init_34 : decode cX8_init 34 = .ok (.bipush 6, 2) := by decide +kernel
theorem dX8_init_36 : decode cX8_init 36 = .ok (.newarray .int, 2) := by decide +kernel
theorem dX8_init_38 : decode cX8_init 38 = .ok (.putfield 25, 3) := by decide +kernel
theorem dX8_init_41 : decode cX8_init 41 = .ok (.aload_n 0, 1) := by decide +kernel
theorem dX8_init_42 : decode cX8_init 42 = .ok (.bipush 6, 2) := by decide +kernel
theorem dX8_init_44 : decode cX8_init 44 = .ok (.newarray .int, 2) := by decide +kernel
theorem dX8_init_46 : decode cX8_init 46 = .ok (.putfield 28, 3) := by decide +kernel
theorem dX8_init_49 : decode cX8_init 49 = .ok (.return_, 1) := by decide +kernel
theorem dX8_append_0 : decode cX8_append 0 = .ok (.aload_n 0, 1) := by decide +kernel
theorem dX8_append_1 : decode cX8_append 1 = .ok (.getfield 31, 3) := by decide +kernel
theorem dX8_append_4 : decode cX8_append 4 = .ok (.bipush 60, 2) := by decide +kernel
theorem dX8_append_6 : decode cX8_append 6 = .ok (.if_icmp .ge 23, 3) := by decide +kernel
theorem dX8_append_9 : decode cX8_append 9 = .ok (.aload_n 0, 1) := by decide +kernel
theorem dX8_append_10 : decode cX8_append 10 = .ok (.getfield 9, 3) := by decide +kernel
theorem dX8_append_13 : decode cX8_append 13 = .ok (.aload_n 0, 1) := by decide +kernel
theorem dX8_append_14 : decode cX8_append 14 = .ok (.getfield 31, 3) := by decide +kernel
theorem dX8_append_17 : decode cX8_append 17 = .ok (.iload_n 1, 1) := by decide +kernel
theorem dX8_append_18 : decode cX8_append 18 = .ok (.castore, 1) := by decide +kernel
theorem dX8_append_19 : decode cX8_append 19 = .ok (.aload_n 0, 1) := by decide +kernel
theorem dX8_append_20 : decode cX8_append 20 = .ok (.dup, 1) := by decide +kernel
theorem dX8_append_21 : decode cX8_append 21 = .ok (.getfield 31, 3) := by decide +kernel
theorem dX8_append_24 : decode cX8_append 24 = .ok (.iconst 1, 1) := by decide +kernel
theorem dX8_append_25 : decode cX8_append 25 = .ok (.iadd, 1) := by decide +kernel
theorem dX8_append_26 : decode cX8_append 26 = .ok (.putfield 31, 3) := by decide +kernel
theorem dX8_append_29 : decode cX8_append 29 = .ok (.return_, 1) := by decide +kernel
theorem dX8_read_0 : decode cX8_read 0 = .ok (.aload_n 0, 1) := by decide +kernel
theorem dX8_read_1 : decode cX8_read 1 = .ok (.iconst 0, 1) := by decide +kernel
theorem dX8_read_2 : decode cX8_read 2 = .ok (.putfield 35, 3) := by decide +kernel
theorem dX8_read_5 : decode cX8_read 5 = .ok (.aload_n 0, 1) := by decide +kernel
theorem dX8_read_6 : decode cX8_read 6 = .ok (.iconst 0, 1) := by decide +kernel
theorem dX8_read_7 : decode cX8_read 7 = .ok (.putfield 38, 3) := by decide +kernel
theorem dX8_read_10 : decode cX8_read 10 = .ok (.aload_n 0, 1) := by decide +kernel
theorem dX8_read_11 : decode cX8_read 11 = .ok (.iconst 0, 1) := by decide +kernel
theorem dX8_read_12 : decode cX8_read 12 = .ok (.putfield 41, 3) := by decide +kernel
theorem dX8_read_15 : decode cX8_read 15 = .ok (.aload_n 0, 1) := by decide +kernel
theorem dX8_read_16 : decode cX8_read 16 = .ok (.aload_n 0, 1) := by decide +kernel
theorem dX8_read_17 : decode cX8_read 17 = .ok (.sipush 200, 3) := by decide +kernel
theorem dX8_read_20 : decode cX8_read 20 = .ok (.invokevirtual 44, 3) := by decide +kernel
theorem dX8_read_23 : decode cX8_read 23 = .ok (.putfield 48, 3) := by decide +kernel
theorem dX8_read_26 : decode cX8_read 26 = .ok (.aload_n 0, 1) := by decide +kernel
theorem dX8_read_27 : decode cX8_read 27 = .ok (.getfield 48, 3) := by decide +kernel
theorem dX8_read_30 : decode cX8_read 30 = .ok (.ifCond .lt 12, 3) := by decide +kernel
theorem dX8_read_33 : decode cX8_read 33 = .ok (.aload_n 0, 1) := by decide +kernel
theorem dX8_read_34 : decode cX8_read 34 = .ok (.bipush 44, 2) := by decide +kernel
theorem dX8_read_36 : decode cX8_read 36 = .ok (.invokevirtual 51, 3) := by decide +kernel
theorem dX8_read_39 : decode cX8_read 39 = .ok (.ifCond .ne 5, 3) := by decide +kernel
theorem dX8_read_42 : decode cX8_read 42 = .ok (.iconst 0, 1) := by decide +kernel
theorem dX8_read_43 : decode cX8_read 43 = .ok (.ireturn, 1) := by decide +kernel
theorem dX8_read_44 : decode cX8_read 44 = .ok (.aload_n 0, 1) := by decide +kernel
theorem dX8_read_45 : decode cX8_read 45 = .ok (.aload_n 0, 1) := by decide +kernel
theorem dX8_read_46 : decode cX8_read 46 = .ok (.bipush 40, 2) := by decide +kernel
theorem dX8_read_48 : decode cX8_read 48 = .ok (.invokevirtual 44, 3) := by decide +kernel
theorem dX8_read_51 : decode cX8_read 51 = .ok (.putfield 55, 3) := by decide +kernel
theorem dX8_read_54 : decode cX8_read 54 = .ok (.aload_n 0, 1) := by decide +kernel
theorem dX8_read_55 : decode cX8_read 55 = .ok (.getfield 55, 3) := by decide +kernel
theorem dX8_read_58 : decode cX8_read 58 = .ok (.ifCond .lt 19, 3) := by decide +kernel
theorem dX8_read_61 : decode cX8_read 61 = .ok (.aload_n 0, 1) := by decide +kernel
theorem dX8_read_62 : decode cX8_read 62 = .ok (.bipush 59, 2) := by decide +kernel
theorem dX8_read_64 : decode cX8_read 64 = .ok (.invokevirtual 51, 3) := by decide +kernel
theorem dX8_read_67 : decode cX8_read 67 = .ok (.ifCond .eq 10, 3) := by decide +kernel
theorem dX8_read_70 : decode cX8_read 70 = .ok (.aload_n 0, 1) := by decide +kernel
theorem dX8_read_71 : decode cX8_read 71 = .ok (.invokevirtual 58, 3) := by decide +kernel
theorem dX8_read_74 : decode cX8_read 74 = .ok (.ifCond .ne 5, 3) := by decide +kernel
theorem dX8_read_77 : decode cX8_read 77 = .ok (.iconst 0, 1) := by decide +kernel
theorem dX8_read_78 : decode cX8_read 78 = .ok (.ireturn, 1) := by decide +kernel
theorem dX8_read_79 : decode cX8_read 79 = .ok (.aload_n 0, 1) := by decide +kernel
theorem dX8_read_80 : decode cX8_read 80 = .ok (.invokevirtual 62, 3) := by decide +kernel
theorem dX8_read_83 : decode cX8_read 83 = .ok (.ifCond .ne 5, 3) := by decide +kernel
theorem dX8_read_86 : decode cX8_read 86 = .ok (.iconst 1, 1) := by decide +kernel
theorem dX8_read_87 : decode cX8_read 87 = .ok (.ireturn, 1) := by decide +kernel
theorem dX8_read_88 : decode cX8_read 88 = .ok (.aload_n 0, 1) := by decide +kernel
theorem dX8_read_89 : decode cX8_read 89 = .ok (.bipush 59, 2) := by decide +kernel
theorem dX8_read_91 : decode cX8_read 91 = .ok (.invokevirtual 51, 3) := by decide +kernel
theorem dX8_read_94 : decode cX8_read 94 = .ok (.ifCond .eq 14, 3) := by decide +kernel
theorem dX8_read_97 : decode cX8_read 97 = .ok (.aload_n 0, 1) := by decide +kernel
theorem dX8_read_98 : decode cX8_read 98 = .ok (.invokevirtual 66, 3) := by decide +kernel
theorem dX8_read_101 : decode cX8_read 101 = .ok (.ifCond .eq 7, 3) := by decide +kernel
theorem dX8_read_104 : decode cX8_read 104 = .ok (.iconst 1, 1) := by decide +kernel
theorem dX8_read_105 : decode cX8_read 105 = .ok (.goto 4, 3) := by decide +kernel
theorem dX8_read_108 : decode cX8_read 108 = .ok (.iconst 0, 1) := by decide +kernel
theorem dX8_read_109 : decode cX8_read 109 = .ok (.ireturn, 1) := by decide +kernel
theorem dX8_readBuilders_0 : decode cX8_readBuilders 0 = .ok (.iconst 0, 1) := by decide +kernel
theorem dX8_readBuilders_1 : decode cX8_readBuilders 1 = .ok (.istore_n 1, 1) := by decide +kernel
theorem dX8_readBuilders_2 : decode cX8_readBuilders 2 = .ok (.iload_n 1, 1) := by decide +kernel
theorem dX8_readBuilders_3 : decode cX8_readBuilders 3 = .ok (.iconst 4, 1) := by decide +kernel
theorem dX8_readBuilders_4 : decode cX8_readBuilders 4 = .ok (.if_icmp .ge 43, 3) := by decide +kernel
theorem dX8_readBuilders_7 : decode cX8_readBuilders 7 = .ok (.iload_n 1, 1) := by decide +kernel
theorem dX8_readBuilders_8 : decode cX8_readBuilders 8 = .ok (.ifCond .le 24, 3) := by decide +kernel
theorem dX8_readBuilders_11 : decode cX8_readBuilders 11 = .ok (.aload_n 0, 1) := by decide +kernel
theorem dX8_readBuilders_12 : decode cX8_readBuilders 12 = .ok (.invokevirtual 62, 3) := by decide +kernel
theorem dX8_readBuilders_15 : decode cX8_readBuilders 15 = .ok (.bipush 44, 2) := by decide +kernel
theorem dX8_readBuilders_17 : decode cX8_readBuilders 17 = .ok (.if_icmp .eq 5, 3) := by decide +kernel
theorem dX8_readBuilders_20 : decode cX8_readBuilders 20 = .ok (.iconst 1, 1) := by decide +kernel
theorem dX8_readBuilders_21 : decode cX8_readBuilders 21 = .ok (.ireturn, 1) := by decide +kernel
theorem dX8_readBuilders_22 : decode cX8_readBuilders 22 = .ok (.aload_n 0, 1) := by decide +kernel
theorem dX8_readBuilders_23 : decode cX8_readBuilders 23 = .ok (.dup, 1) := by decide +kernel
theorem dX8_readBuilders_24 : decode cX8_readBuilders 24 = .ok (.getfield 35, 3) := by decide +kernel
theorem dX8_readBuilders_27 : decode cX8_readBuilders 27 = .ok (.iconst 1, 1) := by decide +kernel
theorem dX8_readBuilders_28 : decode cX8_readBuilders 28 = .ok (.iadd, 1) := by decide +kernel
theorem dX8_readBuilders_29 : decode cX8_readBuilders 29 = .ok (.putfield 35, 3) := by decide +kernel
theorem dX8_readBuilders_32 : decode cX8_readBuilders 32 = .ok (.aload_n 0, 1) := by decide +kernel
theorem dX8_readBuilders_33 : decode cX8_readBuilders 33 = .ok (.invokevirtual 69, 3) := by decide +kernel
theorem dX8_readBuilders_36 : decode cX8_readBuilders 36 = .ok (.ifCond .ne 5, 3) := by decide +kernel
theorem dX8_readBuilders_39 : decode cX8_readBuilders 39 = .ok (.iconst 0, 1) := by decide +kernel
theorem dX8_readBuilders_40 : decode cX8_readBuilders 40 = .ok (.ireturn, 1) := by decide +kernel
theorem dX8_readBuilders_41 : decode cX8_readBuilders 41 = .ok (.iinc 1 1, 3) := by decide +kernel
theorem dX8_readBuilders_44 : decode cX8_readBuilders 44 = .ok (.goto (-42), 3) := by decide +kernel
theorem dX8_readBuilders_47 : decode cX8_readBuilders 47 = .ok (.iconst 1, 1) := by decide +kernel
theorem dX8_readBuilders_48 : decode cX8_readBuilders 48 = .ok (.ireturn, 1) := by decide +kernel
theorem dX8_readBuilder_0 : decode cX8_readBuilder 0 = .ok (.aload_n 0, 1) := by decide +kernel
theorem dX8_readBuilder_1 : decode cX8_readBuilder 1 = .ok (.invokevirtual 62, 3) := by decide +kernel
theorem dX8_readBuilder_4 : decode cX8_readBuilder 4 = .ok (.invokestatic 72, 3) := by decide +kernel
theorem dX8_readBuilder_7 : decode cX8_readBuilder 7 = .ok (.istore_n 1, 1) := by decide +kernel
theorem dX8_readBuilder_8 : decode cX8_readBuilder 8 = .ok (.iload_n 1, 1) := by decide +kernel
theorem dX8_readBuilder_9 : decode cX8_readBuilder 9 = .ok (.ifCond .ge 12, 3) := by decide +kernel
theorem dX8_readBuilder_12 : decode cX8_readBuilder 12 = .ok (.aload_n 0, 1) := by decide +kernel
theorem dX8_readBuilder_13 : decode cX8_readBuilder 13 = .ok (.aload_n 0, 1) := by decide +kernel
theorem dX8_readBuilder_14 : decode cX8_readBuilder 14 = .ok (.getfield 35, 3) := by decide +kernel
theorem dX8_readBuilder_17 : decode cX8_readBuilder 17 = .ok (.invokevirtual 76, 3) := by decide +kernel
theorem dX8_readBuilder_20 : decode cX8_readBuilder 20 = .ok (.ireturn, 1) := by decide +kernel
theorem dX8_readBuilder_21 : decode cX8_readBuilder 21 = .ok (.aload_n 0, 1) := by decide +kernel
theorem dX8_readBuilder_22 : decode cX8_readBuilder 22 = .ok (.dup, 1) := by decide +kernel
theorem dX8_readBuilder_23 : decode cX8_readBuilder 23 = .ok (.getfield 35, 3) := by decide +kernel
theorem dX8_readBuilder_26 : decode cX8_readBuilder 26 = .ok (.iconst 1, 1) := by decide +kernel
theorem dX8_readBuilder_27 : decode cX8_readBuilder 27 = .ok (.iadd, 1) := by decide +kernel
theorem dX8_readBuilder_28 : decode cX8_readBuilder 28 = .ok (.putfield 35, 3) := by decide +kernel
theorem dX8_readBuilder_31 : decode cX8_readBuilder 31 = .ok (.aload_n 0, 1) := by decide +kernel
theorem dX8_readBuilder_32 : decode cX8_readBuilder 32 = .ok (.iconst 1, 1) := by decide +kernel
theorem dX8_readBuilder_33 : decode cX8_readBuilder 33 = .ok (.invokevirtual 80, 3) := by decide +kernel
theorem dX8_readBuilder_36 : decode cX8_readBuilder 36 = .ok (.istore_n 2, 1) := by decide +kernel
theorem dX8_readBuilder_37 : decode cX8_readBuilder 37 = .ok (.iload_n 2, 1) := by decide +kernel
theorem dX8_readBuilder_38 : decode cX8_readBuilder 38 = .ok (.ifCond .ge 5, 3) := by decide +kernel
theorem dX8_readBuilder_41 : decode cX8_readBuilder 41 = .ok (.iconst 0, 1) := by decide +kernel
theorem dX8_readBuilder_42 : decode cX8_readBuilder 42 = .ok (.ireturn, 1) := by decide +kernel
theorem dX8_readBuilder_43 : decode cX8_readBuilder 43 = .ok (.aload_n 0, 1) := by decide +kernel
theorem dX8_readBuilder_44 : decode cX8_readBuilder 44 = .ok (.iconst 0, 1) := by decide +kernel
theorem dX8_readBuilder_45 : decode cX8_readBuilder 45 = .ok (.invokevirtual 80, 3) := by decide +kernel
theorem dX8_readBuilder_48 : decode cX8_readBuilder 48 = .ok (.istore_n 3, 1) := by decide +kernel
theorem dX8_readBuilder_49 : decode cX8_readBuilder 49 = .ok (.iload_n 3, 1) := by decide +kernel
theorem dX8_readBuilder_50 : decode cX8_readBuilder 50 = .ok (.ifCond .lt 11, 3) := by decide +kernel
theorem dX8_readBuilder_53 : decode cX8_readBuilder 53 = .ok (.aload_n 0, 1) := by decide +kernel
theorem dX8_readBuilder_54 : decode cX8_readBuilder 54 = .ok (.getfield 38, 3) := by decide +kernel
theorem dX8_readBuilder_57 : decode cX8_readBuilder 57 = .ok (.iconst 4, 1) := by decide +kernel
theorem dX8_readBuilder_58 : decode cX8_readBuilder 58 = .ok (.if_icmp .lt 5, 3) := by decide +kernel
theorem dX8_readBuilder_61 : decode cX8_readBuilder 61 = .ok (.iconst 0, 1) := by decide +kernel
theorem dX8_readBuilder_62 : decode cX8_readBuilder 62 = .ok (.ireturn, 1) := by decide +kernel
theorem dX8_readBuilder_63 : decode cX8_readBuilder 63 = .ok (.aload_n 0, 1) := by decide +kernel
theorem dX8_readBuilder_64 : decode cX8_readBuilder 64 = .ok (.getfield 15, 3) := by decide +kernel
theorem dX8_readBuilder_67 : decode cX8_readBuilder 67 = .ok (.aload_n 0, 1) := by decide +kernel
theorem dX8_readBuilder_68 : decode cX8_readBuilder 68 = .ok (.getfield 38, 3) := by decide +kernel
theorem dX8_readBuilder_71 : decode cX8_readBuilder 71 = .ok (.iload_n 1, 1) := by decide +kernel
theorem dX8_readBuilder_72 : decode cX8_readBuilder 72 = .ok (.iastore, 1) := by decide +kernel
theorem dX8_readBuilder_73 : decode cX8_readBuilder 73 = .ok (.aload_n 0, 1) := by decide +kernel
theorem dX8_readBuilder_74 : decode cX8_readBuilder 74 = .ok (.getfield 19, 3) := by decide +kernel
theorem dX8_readBuilder_77 : decode cX8_readBuilder 77 = .ok (.aload_n 0, 1) := by decide +kernel
theorem dX8_readBuilder_78 : decode cX8_readBuilder 78 = .ok (.getfield 38, 3) := by decide +kernel
theorem dX8_readBuilder_81 : decode cX8_readBuilder 81 = .ok (.iload_n 2, 1) := by decide +kernel
theorem dX8_readBuilder_82 : decode cX8_readBuilder 82 = .ok (.iastore, 1) := by decide +kernel
theorem dX8_readBuilder_83 : decode cX8_readBuilder 83 = .ok (.aload_n 0, 1) := by decide +kernel
theorem dX8_readBuilder_84 : decode cX8_readBuilder 84 = .ok (.getfield 22, 3) := by decide +kernel
theorem dX8_readBuilder_87 : decode cX8_readBuilder 87 = .ok (.aload_n 0, 1) := by decide +kernel
theorem dX8_readBuilder_88 : decode cX8_readBuilder 88 = .ok (.getfield 38, 3) := by decide +kernel
theorem dX8_readBuilder_91 : decode cX8_readBuilder 91 = .ok (.iload_n 3, 1) := by decide +kernel
theorem dX8_readBuilder_92 : decode cX8_readBuilder 92 = .ok (.iastore, 1) := by decide +kernel
theorem dX8_readBuilder_93 : decode cX8_readBuilder 93 = .ok (.aload_n 0, 1) := by decide +kernel
theorem dX8_readBuilder_94 : decode cX8_readBuilder 94 = .ok (.dup, 1) := by decide +kernel
theorem dX8_readBuilder_95 : decode cX8_readBuilder 95 = .ok (.getfield 38, 3) := by decide +kernel
theorem dX8_readBuilder_98 : decode cX8_readBuilder 98 = .ok (.iconst 1, 1) := by decide +kernel
theorem dX8_readBuilder_99 : decode cX8_readBuilder 99 = .ok (.iadd, 1) := by decide +kernel
theorem dX8_readBuilder_100 : decode cX8_readBuilder 100 = .ok (.putfield 38, 3) := by decide +kernel
theorem dX8_readBuilder_103 : decode cX8_readBuilder 103 = .ok (.iconst 1, 1) := by decide +kernel
theorem dX8_readBuilder_104 : decode cX8_readBuilder 104 = .ok (.ireturn, 1) := by decide +kernel
theorem dX8_readHindrances_0 : decode cX8_readHindrances 0 = .ok (.iconst 0, 1) := by decide +kernel
theorem dX8_readHindrances_1 : decode cX8_readHindrances 1 = .ok (.istore_n 1, 1) := by decide +kernel
theorem dX8_readHindrances_2 : decode cX8_readHindrances 2 = .ok (.iload_n 1, 1) := by decide +kernel
theorem dX8_readHindrances_3 : decode cX8_readHindrances 3 = .ok (.bipush 6, 2) := by decide +kernel
theorem dX8_readHindrances_5 : decode cX8_readHindrances 5 = .ok (.if_icmp .ge 42, 3) := by decide +kernel
theorem dX8_readHindrances_8 : decode cX8_readHindrances 8 = .ok (.iload_n 1, 1) := by decide +kernel
theorem dX8_readHindrances_9 : decode cX8_readHindrances 9 = .ok (.ifCond .le 14, 3) := by decide +kernel
theorem dX8_readHindrances_12 : decode cX8_readHindrances 12 = .ok (.aload_n 0, 1) := by decide +kernel
theorem dX8_readHindrances_13 : decode cX8_readHindrances 13 = .ok (.bipush 44, 2) := by decide +kernel
theorem dX8_readHindrances_15 : decode cX8_readHindrances 15 = .ok (.invokevirtual 51, 3) := by decide +kernel
theorem dX8_readHindrances_18 : decode cX8_readHindrances 18 = .ok (.ifCond .ne 5, 3) := by decide +kernel
theorem dX8_readHindrances_21 : decode cX8_readHindrances 21 = .ok (.iconst 0, 1) := by decide +kernel
theorem dX8_readHindrances_22 : decode cX8_readHindrances 22 = .ok (.ireturn, 1) := by decide +kernel
theorem dX8_readHindrances_23 : decode cX8_readHindrances 23 = .ok (.aload_n 0, 1) := by decide +kernel
theorem dX8_readHindrances_24 : decode cX8_readHindrances 24 = .ok (.invokevirtual 83, 3) := by decide +kernel
theorem dX8_readHindrances_27 : decode cX8_readHindrances 27 = .ok (.ifCond .ne 5, 3) := by decide +kernel
theorem dX8_readHindrances_30 : decode cX8_readHindrances 30 = .ok (.iconst 0, 1) := by decide +kernel
theorem dX8_readHindrances_31 : decode cX8_readHindrances 31 = .ok (.ireturn, 1) := by decide +kernel
theorem dX8_readHindrances_32 : decode cX8_readHindrances 32 = .ok (.aload_n 0, 1) := by decide +kernel
theorem dX8_readHindrances_33 : decode cX8_readHindrances 33 = .ok (.invokevirtual 62, 3) := by decide +kernel
theorem dX8_readHindrances_36 : decode cX8_readHindrances 36 = .ok (.ifCond .ne 5, 3) := by decide +kernel
theorem dX8_readHindrances_39 : decode cX8_readHindrances 39 = .ok (.iconst 1, 1) := by decide +kernel
theorem dX8_readHindrances_40 : decode cX8_readHindrances 40 = .ok (.ireturn, 1) := by decide +kernel
theorem dX8_readHindrances_41 : decode cX8_readHindrances 41 = .ok (.iinc 1 1, 3) := by decide +kernel
theorem dX8_readHindrances_44 : decode cX8_readHindrances 44 = .ok (.goto (-42), 3) := by decide +kernel
theorem dX8_readHindrances_47 : decode cX8_readHindrances 47 = .ok (.aload_n 0, 1) := by decide +kernel
theorem dX8_readHindrances_48 : decode cX8_readHindrances 48 = .ok (.aload_n 0, 1) := by decide +kernel
theorem dX8_readHindrances_49 : decode cX8_readHindrances 49 = .ok (.getfield 35, 3) := by decide +kernel
theorem dX8_readHindrances_52 : decode cX8_readHindrances 52 = .ok (.invokevirtual 76, 3) := by decide +kernel
theorem dX8_readHindrances_55 : decode cX8_readHindrances 55 = .ok (.ireturn, 1) := by decide +kernel
theorem dX8_readHindrance_0 : decode cX8_readHindrance 0 = .ok (.aload_n 0, 1) := by decide +kernel
theorem dX8_readHindrance_1 : decode cX8_readHindrance 1 = .ok (.iconst 1, 1) := by decide +kernel
theorem dX8_readHindrance_2 : decode cX8_readHindrance 2 = .ok (.invokevirtual 80, 3) := by decide +kernel
theorem dX8_readHindrance_5 : decode cX8_readHindrance 5 = .ok (.istore_n 1, 1) := by decide +kernel
theorem dX8_readHindrance_6 : decode cX8_readHindrance 6 = .ok (.iload_n 1, 1) := by decide +kernel
theorem dX8_readHindrance_7 : decode cX8_readHindrance 7 = .ok (.ifCond .lt 12, 3) := by decide +kernel
theorem dX8_readHindrance_10 : decode cX8_readHindrance 10 = .ok (.aload_n 0, 1) := by decide +kernel
theorem dX8_readHindrance_11 : decode cX8_readHindrance 11 = .ok (.getfield 41, 3) := by decide +kernel
theorem dX8_readHindrance_14 : decode cX8_readHindrance 14 = .ok (.bipush 6, 2) := by decide +kernel
theorem dX8_readHindrance_16 : decode cX8_readHindrance 16 = .ok (.if_icmp .lt 5, 3) := by decide +kernel
theorem dX8_readHindrance_19 : decode cX8_readHindrance 19 = .ok (.iconst 0, 1) := by decide +kernel
theorem dX8_readHindrance_20 : decode cX8_readHindrance 20 = .ok (.ireturn, 1) := by decide +kernel
theorem dX8_readHindrance_21 : decode cX8_readHindrance 21 = .ok (.aload_n 0, 1) := by decide +kernel
theorem dX8_readHindrance_22 : decode cX8_readHindrance 22 = .ok (.invokevirtual 62, 3) := by decide +kernel
theorem dX8_readHindrance_25 : decode cX8_readHindrance 25 = .ok (.bipush 97, 2) := by decide +kernel
theorem dX8_readHindrance_27 : decode cX8_readHindrance 27 = .ok (.isub, 1) := by decide +kernel
theorem dX8_readHindrance_28 : decode cX8_readHindrance 28 = .ok (.istore_n 2, 1) := by decide +kernel
theorem dX8_readHindrance_29 : decode cX8_readHindrance 29 = .ok (.iload_n 2, 1) := by decide +kernel
theorem dX8_readHindrance_30 : decode cX8_readHindrance 30 = .ok (.iconst 0, 1) := by decide +kernel
theorem dX8_readHindrance_31 : decode cX8_readHindrance 31 = .ok (.iconst 3, 1) := by decide +kernel
theorem dX8_readHindrance_32 : decode cX8_readHindrance 32 = .ok (.invokestatic 86, 3) := by decide +kernel
theorem dX8_readHindrance_35 : decode cX8_readHindrance 35 = .ok (.istore_n 3, 1) := by decide +kernel
theorem dX8_readHindrance_36 : decode cX8_readHindrance 36 = .ok (.iload_n 3, 1) := by decide +kernel
theorem dX8_readHindrance_37 : decode cX8_readHindrance 37 = .ok (.ifCond .eq 13, 3) := by decide +kernel
theorem dX8_readHindrance_40 : decode cX8_readHindrance 40 = .ok (.aload_n 0, 1) := by decide +kernel
theorem dX8_readHindrance_41 : decode cX8_readHindrance 41 = .ok (.dup, 1) := by decide +kernel
theorem dX8_readHindrance_42 : decode cX8_readHindrance 42 = .ok (.getfield 35, 3) := by decide +kernel
theorem dX8_readHindrance_45 : decode cX8_readHindrance 45 = .ok (.iconst 1, 1) := by decide +kernel
theorem dX8_readHindrance_46 : decode cX8_readHindrance 46 = .ok (.iadd, 1) := by decide +kernel
theorem dX8_readHindrance_47 : decode cX8_readHindrance 47 = .ok (.putfield 35, 3) := by decide +kernel
theorem dX8_readHindrance_50 : decode cX8_readHindrance 50 = .ok (.aload_n 0, 1) := by decide +kernel
theorem dX8_readHindrance_51 : decode cX8_readHindrance 51 = .ok (.getfield 25, 3) := by decide +kernel
theorem dX8_readHindrance_54 : decode cX8_readHindrance 54 = .ok (.aload_n 0, 1) := by decide +kernel
theorem dX8_readHindrance_55 : decode cX8_readHindrance 55 = .ok (.getfield 41, 3) := by decide +kernel
theorem dX8_readHindrance_58 : decode cX8_readHindrance 58 = .ok (.iload_n 1, 1) := by decide +kernel
theorem dX8_readHindrance_59 : decode cX8_readHindrance 59 = .ok (.iastore, 1) := by decide +kernel
theorem dX8_readHindrance_60 : decode cX8_readHindrance 60 = .ok (.aload_n 0, 1) := by decide +kernel
theorem dX8_readHindrance_61 : decode cX8_readHindrance 61 = .ok (.getfield 28, 3) := by decide +kernel
theorem dX8_readHindrance_64 : decode cX8_readHindrance 64 = .ok (.aload_n 0, 1) := by decide +kernel
theorem dX8_readHindrance_65 : decode cX8_readHindrance 65 = .ok (.getfield 41, 3) := by decide +kernel
theorem dX8_readHindrance_68 : decode cX8_readHindrance 68 = .ok (.iload_n 3, 1) := by decide +kernel
theorem dX8_readHindrance_69 : decode cX8_readHindrance 69 = .ok (.ifCond .eq 7, 3) := by decide +kernel
theorem dX8_readHindrance_72 : decode cX8_readHindrance 72 = .ok (.iload_n 2, 1) := by decide +kernel
theorem dX8_readHindrance_73 : decode cX8_readHindrance 73 = .ok (.goto 5, 3) := by decide +kernel
theorem dX8_readHindrance_76 : decode cX8_readHindrance 76 = .ok (.bipush (-4), 2) := by decide +kernel
theorem dX8_readHindrance_78 : decode cX8_readHindrance 78 = .ok (.iastore, 1) := by decide +kernel
theorem dX8_readHindrance_79 : decode cX8_readHindrance 79 = .ok (.aload_n 0, 1) := by decide +kernel
theorem dX8_readHindrance_80 : decode cX8_readHindrance 80 = .ok (.dup, 1) := by decide +kernel
theorem dX8_readHindrance_81 : decode cX8_readHindrance 81 = .ok (.getfield 41, 3) := by decide +kernel
theorem dX8_readHindrance_84 : decode cX8_readHindrance 84 = .ok (.iconst 1, 1) := by decide +kernel
theorem dX8_readHindrance_85 : decode cX8_readHindrance 85 = .ok (.iadd, 1) := by decide +kernel
theorem dX8_readHindrance_86 : decode cX8_readHindrance 86 = .ok (.putfield 41, 3) := by decide +kernel
theorem dX8_readHindrance_89 : decode cX8_readHindrance 89 = .ok (.iconst 1, 1) := by decide +kernel
theorem dX8_readHindrance_90 : decode cX8_readHindrance 90 = .ok (.ireturn, 1) := by decide +kernel
theorem dX8_readNumber_0 : decode cX8_readNumber 0 = .ok (.aload_n 0, 1) := by decide +kernel
theorem dX8_readNumber_1 : decode cX8_readNumber 1 = .ok (.invokevirtual 62, 3) := by decide +kernel
theorem dX8_readNumber_4 : decode cX8_readNumber 4 = .ok (.pop, 1) := by decide +kernel
theorem dX8_readNumber_5 : decode cX8_readNumber 5 = .ok (.aload_n 0, 1) := by decide +kernel
theorem dX8_readNumber_6 : decode cX8_readNumber 6 = .ok (.getfield 35, 3) := by decide +kernel
theorem dX8_readNumber_9 : decode cX8_readNumber 9 = .ok (.istore_n 2, 1) := by decide +kernel
theorem dX8_readNumber_10 : decode cX8_readNumber 10 = .ok (.iconst 0, 1) := by decide +kernel
theorem dX8_readNumber_11 : decode cX8_readNumber 11 = .ok (.istore_n 3, 1) := by decide +kernel
theorem dX8_readNumber_12 : decode cX8_readNumber 12 = .ok (.aload_n 0, 1) := by decide +kernel
theorem dX8_readNumber_13 : decode cX8_readNumber 13 = .ok (.getfield 35, 3) := by decide +kernel
theorem dX8_readNumber_16 : decode cX8_readNumber 16 = .ok (.aload_n 0, 1) := by decide +kernel
theorem dX8_readNumber_17 : decode cX8_readNumber 17 = .ok (.getfield 31, 3) := by decide +kernel
theorem dX8_readNumber_20 : decode cX8_readNumber 20 = .ok (.if_icmp .ge 59, 3) := by decide +kernel
theorem dX8_readNumber_23 : decode cX8_readNumber 23 = .ok (.aload_n 0, 1) := by decide +kernel
theorem dX8_readNumber_24 : decode cX8_readNumber 24 = .ok (.getfield 35, 3) := by decide +kernel
theorem dX8_readNumber_27 : decode cX8_readNumber 27 = .ok (.iload_n 2, 1) := by decide +kernel
theorem dX8_readNumber_28 : decode cX8_readNumber 28 = .ok (.isub, 1) := by decide +kernel
theorem dX8_readNumber_29 : decode cX8_readNumber 29 = .ok (.iconst 3, 1) := by decide +kernel
theorem dX8_readNumber_30 : decode cX8_readNumber 30 = .ok (.if_icmp .ge 49, 3) := by decide +kernel
theorem dX8_readNumber_33 : decode cX8_readNumber 33 = .ok (.aload_n 0, 1) := by decide +kernel
theorem dX8_readNumber_34 : decode cX8_readNumber 34 = .ok (.getfield 9, 3) := by decide +kernel
theorem dX8_readNumber_37 : decode cX8_readNumber 37 = .ok (.aload_n 0, 1) := by decide +kernel
theorem dX8_readNumber_38 : decode cX8_readNumber 38 = .ok (.getfield 35, 3) := by decide +kernel
theorem dX8_readNumber_41 : decode cX8_readNumber 41 = .ok (.caload, 1) := by decide +kernel
theorem dX8_readNumber_42 : decode cX8_readNumber 42 = .ok (.invokestatic 90, 3) := by decide +kernel
theorem dX8_readNumber_45 : decode cX8_readNumber 45 = .ok (.ifCond .eq 34, 3) := by decide +kernel
theorem dX8_readNumber_48 : decode cX8_readNumber 48 = .ok (.iload_n 3, 1) := by decide +kernel
theorem dX8_readNumber_49 : decode cX8_readNumber 49 = .ok (.bipush 10, 2) := by decide +kernel
theorem dX8_readNumber_51 : decode cX8_readNumber 51 = .ok (.imul, 1) := by decide +kernel
theorem dX8_readNumber_52 : decode cX8_readNumber 52 = .ok (.aload_n 0, 1) := by decide +kernel
theorem dX8_readNumber_53 : decode cX8_readNumber 53 = .ok (.getfield 9, 3) := by decide +kernel
theorem dX8_readNumber_56 : decode cX8_readNumber 56 = .ok (.aload_n 0, 1) := by decide +kernel
theorem dX8_readNumber_57 : decode cX8_readNumber 57 = .ok (.getfield 35, 3) := by decide +kernel
theorem dX8_readNumber_60 : decode cX8_readNumber 60 = .ok (.caload, 1) := by decide +kernel
theorem dX8_readNumber_61 : decode cX8_readNumber 61 = .ok (.bipush 48, 2) := by decide +kernel
theorem dX8_readNumber_63 : decode cX8_readNumber 63 = .ok (.isub, 1) := by decide +kernel
theorem dX8_readNumber_64 : decode cX8_readNumber 64 = .ok (.iadd, 1) := by decide +kernel
theorem dX8_readNumber_65 : decode cX8_readNumber 65 = .ok (.istore_n 3, 1) := by decide +kernel
theorem dX8_readNumber_66 : decode cX8_readNumber 66 = .ok (.aload_n 0, 1) := by decide +kernel
theorem dX8_readNumber_67 : decode cX8_readNumber 67 = .ok (.dup, 1) := by decide +kernel
theorem dX8_readNumber_68 : decode cX8_readNumber 68 = .ok (.getfield 35, 3) := by decide +kernel
theorem dX8_readNumber_71 : decode cX8_readNumber 71 = .ok (.iconst 1, 1) := by decide +kernel
theorem dX8_readNumber_72 : decode cX8_readNumber 72 = .ok (.iadd, 1) := by decide +kernel
theorem dX8_readNumber_73 : decode cX8_readNumber 73 = .ok (.putfield 35, 3) := by decide +kernel
theorem dX8_readNumber_76 : decode cX8_readNumber 76 = .ok (.goto (-64), 3) := by decide +kernel
theorem dX8_readNumber_79 : decode cX8_readNumber 79 = .ok (.iload_n 3, 1) := by decide +kernel
theorem dX8_readNumber_80 : decode cX8_readNumber 80 = .ok (.iconst 1, 1) := by decide +kernel
theorem dX8_readNumber_81 : decode cX8_readNumber 81 = .ok (.iload_n 1, 1) := by decide +kernel
theorem dX8_readNumber_82 : decode cX8_readNumber 82 = .ok (.invokestatic 86, 3) := by decide +kernel
theorem dX8_readNumber_85 : decode cX8_readNumber 85 = .ok (.ifCond .ne 11, 3) := by decide +kernel
theorem dX8_readNumber_88 : decode cX8_readNumber 88 = .ok (.aload_n 0, 1) := by decide +kernel
theorem dX8_readNumber_89 : decode cX8_readNumber 89 = .ok (.iload_n 2, 1) := by decide +kernel
theorem dX8_readNumber_90 : decode cX8_readNumber 90 = .ok (.invokevirtual 76, 3) := by decide +kernel
theorem dX8_readNumber_93 : decode cX8_readNumber 93 = .ok (.pop, 1) := by decide +kernel
theorem dX8_readNumber_94 : decode cX8_readNumber 94 = .ok (.iconst (-1), 1) := by decide +kernel
theorem dX8_readNumber_95 : decode cX8_readNumber 95 = .ok (.ireturn, 1) := by decide +kernel
theorem dX8_readNumber_96 : decode cX8_readNumber 96 = .ok (.iload_n 3, 1) := by decide +kernel
theorem dX8_readNumber_97 : decode cX8_readNumber 97 = .ok (.ireturn, 1) := by decide +kernel
theorem dX8_readDigit_0 : decode cX8_readDigit 0 = .ok (.aload_n 0, 1) := by decide +kernel
theorem dX8_readDigit_1 : decode cX8_readDigit 1 = .ok (.invokevirtual 62, 3) := by decide +kernel
theorem dX8_readDigit_4 : decode cX8_readDigit 4 = .ok (.istore_n 2, 1) := by decide +kernel
theorem dX8_readDigit_5 : decode cX8_readDigit 5 = .ok (.iload_n 2, 1) := by decide +kernel
theorem dX8_readDigit_6 : decode cX8_readDigit 6 = .ok (.invokestatic 90, 3) := by decide +kernel
theorem dX8_readDigit_9 : decode cX8_readDigit 9 = .ok (.ifCond .eq 11, 3) := by decide +kernel
theorem dX8_readDigit_12 : decode cX8_readDigit 12 = .ok (.iload_n 2, 1) := by decide +kernel
theorem dX8_readDigit_13 : decode cX8_readDigit 13 = .ok (.bipush 48, 2) := by decide +kernel
theorem dX8_readDigit_15 : decode cX8_readDigit 15 = .ok (.isub, 1) := by decide +kernel
theorem dX8_readDigit_16 : decode cX8_readDigit 16 = .ok (.iload_n 1, 1) := by decide +kernel
theorem dX8_readDigit_17 : decode cX8_readDigit 17 = .ok (.if_icmp .ge 14, 3) := by decide +kernel
theorem dX8_readDigit_20 : decode cX8_readDigit 20 = .ok (.aload_n 0, 1) := by decide +kernel
theorem dX8_readDigit_21 : decode cX8_readDigit 21 = .ok (.aload_n 0, 1) := by decide +kernel
theorem dX8_readDigit_22 : decode cX8_readDigit 22 = .ok (.getfield 35, 3) := by decide +kernel
theorem dX8_readDigit_25 : decode cX8_readDigit 25 = .ok (.invokevirtual 76, 3) := by decide +kernel
theorem dX8_readDigit_28 : decode cX8_readDigit 28 = .ok (.pop, 1) := by decide +kernel
theorem dX8_readDigit_29 : decode cX8_readDigit 29 = .ok (.iconst (-1), 1) := by decide +kernel
theorem dX8_readDigit_30 : decode cX8_readDigit 30 = .ok (.ireturn, 1) := by decide +kernel
theorem dX8_readDigit_31 : decode cX8_readDigit 31 = .ok (.aload_n 0, 1) := by decide +kernel
theorem dX8_readDigit_32 : decode cX8_readDigit 32 = .ok (.dup, 1) := by decide +kernel
theorem dX8_readDigit_33 : decode cX8_readDigit 33 = .ok (.getfield 35, 3) := by decide +kernel
theorem dX8_readDigit_36 : decode cX8_readDigit 36 = .ok (.iconst 1, 1) := by decide +kernel
theorem dX8_readDigit_37 : decode cX8_readDigit 37 = .ok (.iadd, 1) := by decide +kernel
theorem dX8_readDigit_38 : decode cX8_readDigit 38 = .ok (.putfield 35, 3) := by decide +kernel
theorem dX8_readDigit_41 : decode cX8_readDigit 41 = .ok (.iload_n 2, 1) := by decide +kernel
theorem dX8_readDigit_42 : decode cX8_readDigit 42 = .ok (.bipush 48, 2) := by decide +kernel
theorem dX8_readDigit_44 : decode cX8_readDigit 44 = .ok (.isub, 1) := by decide +kernel
theorem dX8_readDigit_45 : decode cX8_readDigit 45 = .ok (.ireturn, 1) := by decide +kernel
theorem dX8_readSign_0 : decode cX8_readSign 0 = .ok (.aload_n 0, 1) := by decide +kernel
theorem dX8_readSign_1 : decode cX8_readSign 1 = .ok (.invokevirtual 62, 3) := by decide +kernel
theorem dX8_readSign_4 : decode cX8_readSign 4 = .ok (.iload_n 1, 1) := by decide +kernel
theorem dX8_readSign_5 : decode cX8_readSign 5 = .ok (.if_icmp .eq 12, 3) := by decide +kernel
theorem dX8_readSign_8 : decode cX8_readSign 8 = .ok (.aload_n 0, 1) := by decide +kernel
theorem dX8_readSign_9 : decode cX8_readSign 9 = .ok (.aload_n 0, 1) := by decide +kernel
theorem dX8_readSign_10 : decode cX8_readSign 10 = .ok (.getfield 35, 3) := by decide +kernel
theorem dX8_readSign_13 : decode cX8_readSign 13 = .ok (.invokevirtual 76, 3) := by decide +kernel
theorem dX8_readSign_16 : decode cX8_readSign 16 = .ok (.ireturn, 1) := by decide +kernel
theorem dX8_readSign_17 : decode cX8_readSign 17 = .ok (.aload_n 0, 1) := by decide +kernel
theorem dX8_readSign_18 : decode cX8_readSign 18 = .ok (.dup, 1) := by decide +kernel
theorem dX8_readSign_19 : decode cX8_readSign 19 = .ok (.getfield 35, 3) := by decide +kernel
theorem dX8_readSign_22 : decode cX8_readSign 22 = .ok (.iconst 1, 1) := by decide +kernel
theorem dX8_readSign_23 : decode cX8_readSign 23 = .ok (.iadd, 1) := by decide +kernel
theorem dX8_readSign_24 : decode cX8_readSign 24 = .ok (.putfield 35, 3) := by decide +kernel
theorem dX8_readSign_27 : decode cX8_readSign 27 = .ok (.iconst 1, 1) := by decide +kernel
theorem dX8_readSign_28 : decode cX8_readSign 28 = .ok (.ireturn, 1) := by decide +kernel
theorem dX8_next_0 : decode cX8_next 0 = .ok (.aload_n 0, 1) := by decide +kernel
theorem dX8_next_1 : decode cX8_next 1 = .ok (.getfield 35, 3) := by decide +kernel
theorem dX8_next_4 : decode cX8_next 4 = .ok (.aload_n 0, 1) := by decide +kernel
theorem dX8_next_5 : decode cX8_next 5 = .ok (.getfield 31, 3) := by decide +kernel
theorem dX8_next_8 : decode cX8_next 8 = .ok (.if_icmp .ge 30, 3) := by decide +kernel
theorem dX8_next_11 : decode cX8_next 11 = .ok (.aload_n 0, 1) := by decide +kernel
theorem dX8_next_12 : decode cX8_next 12 = .ok (.getfield 9, 3) := by decide +kernel
theorem dX8_next_15 : decode cX8_next 15 = .ok (.aload_n 0, 1) := by decide +kernel
theorem dX8_next_16 : decode cX8_next 16 = .ok (.getfield 35, 3) := by decide +kernel
theorem dX8_next_19 : decode cX8_next 19 = .ok (.caload, 1) := by decide +kernel
theorem dX8_next_20 : decode cX8_next 20 = .ok (.bipush 32, 2) := by decide +kernel
theorem dX8_next_22 : decode cX8_next 22 = .ok (.if_icmp .ne 16, 3) := by decide +kernel
theorem dX8_next_25 : decode cX8_next 25 = .ok (.aload_n 0, 1) := by decide +kernel
theorem dX8_next_26 : decode cX8_next 26 = .ok (.dup, 1) := by decide +kernel
theorem dX8_next_27 : decode cX8_next 27 = .ok (.getfield 35, 3) := by decide +kernel
theorem dX8_next_30 : decode cX8_next 30 = .ok (.iconst 1, 1) := by decide +kernel
theorem dX8_next_31 : decode cX8_next 31 = .ok (.iadd, 1) := by decide +kernel
theorem dX8_next_32 : decode cX8_next 32 = .ok (.putfield 35, 3) := by decide +kernel
theorem dX8_next_35 : decode cX8_next 35 = .ok (.goto (-35), 3) := by decide +kernel
theorem dX8_next_38 : decode cX8_next 38 = .ok (.aload_n 0, 1) := by decide +kernel
theorem dX8_next_39 : decode cX8_next 39 = .ok (.getfield 35, 3) := by decide +kernel
theorem dX8_next_42 : decode cX8_next 42 = .ok (.aload_n 0, 1) := by decide +kernel
theorem dX8_next_43 : decode cX8_next 43 = .ok (.getfield 31, 3) := by decide +kernel
theorem dX8_next_46 : decode cX8_next 46 = .ok (.if_icmp .ge 15, 3) := by decide +kernel
theorem dX8_next_49 : decode cX8_next 49 = .ok (.aload_n 0, 1) := by decide +kernel
theorem dX8_next_50 : decode cX8_next 50 = .ok (.getfield 9, 3) := by decide +kernel
theorem dX8_next_53 : decode cX8_next 53 = .ok (.aload_n 0, 1) := by decide +kernel
theorem dX8_next_54 : decode cX8_next 54 = .ok (.getfield 35, 3) := by decide +kernel
theorem dX8_next_57 : decode cX8_next 57 = .ok (.caload, 1) := by decide +kernel
theorem dX8_next_58 : decode cX8_next 58 = .ok (.goto 4, 3) := by decide +kernel
theorem dX8_next_61 : decode cX8_next 61 = .ok (.iconst 0, 1) := by decide +kernel
theorem dX8_next_62 : decode cX8_next 62 = .ok (.ireturn, 1) := by decide +kernel
theorem dX8_failAt_0 : decode cX8_failAt 0 = .ok (.aload_n 0, 1) := by decide +kernel
theorem dX8_failAt_1 : decode cX8_failAt 1 = .ok (.iload_n 1, 1) := by decide +kernel
theorem dX8_failAt_2 : decode cX8_failAt 2 = .ok (.putfield 93, 3) := by decide +kernel
theorem dX8_failAt_5 : decode cX8_failAt 5 = .ok (.iconst 0, 1) := by decide +kernel
theorem dX8_failAt_6 : decode cX8_failAt 6 = .ok (.ireturn, 1) := by decide +kernel
theorem dX8_isDigit_0 : decode cX8_isDigit 0 = .ok (.iload_n 0, 1) := by decide +kernel
theorem dX8_isDigit_1 : decode cX8_isDigit 1 = .ok (.bipush 48, 2) := by decide +kernel
theorem dX8_isDigit_3 : decode cX8_isDigit 3 = .ok (.if_icmp .lt 13, 3) := by decide +kernel
theorem dX8_isDigit_6 : decode cX8_isDigit 6 = .ok (.iload_n 0, 1) := by decide +kernel
theorem dX8_isDigit_7 : decode cX8_isDigit 7 = .ok (.bipush 57, 2) := by decide +kernel
theorem dX8_isDigit_9 : decode cX8_isDigit 9 = .ok (.if_icmp .gt 7, 3) := by decide +kernel
theorem dX8_isDigit_12 : decode cX8_isDigit 12 = .ok (.iconst 1, 1) := by decide +kernel
theorem dX8_isDigit_13 : decode cX8_isDigit 13 = .ok (.goto 4, 3) := by decide +kernel
theorem dX8_isDigit_16 : decode cX8_isDigit 16 = .ok (.iconst 0, 1) := by decide +kernel
theorem dX8_isDigit_17 : decode cX8_isDigit 17 = .ok (.ireturn, 1) := by decide +kernel
theorem dX8_kindOf_0 : decode cX8_kindOf 0 = .ok (.iload_n 0, 1) := by decide +kernel
theorem dX8_kindOf_1 : decode cX8_kindOf 1 = .ok (.lookupswitch 61 #[(98, 55), (103, 57), (104, 53), (112, 51), (119, 59)], 51) := by decide +kernel
theorem dX8_kindOf_52 : decode cX8_kindOf 52 = .ok (.iconst 0, 1) := by decide +kernel
theorem dX8_kindOf_53 : decode cX8_kindOf 53 = .ok (.ireturn, 1) := by decide +kernel
theorem dX8_kindOf_54 : decode cX8_kindOf 54 = .ok (.iconst 1, 1) := by decide +kernel
theorem dX8_kindOf_55 : decode cX8_kindOf 55 = .ok (.ireturn, 1) := by decide +kernel
theorem dX8_kindOf_56 : decode cX8_kindOf 56 = .ok (.iconst 2, 1) := by decide +kernel
theorem dX8_kindOf_57 : decode cX8_kindOf 57 = .ok (.ireturn, 1) := by decide +kernel
theorem dX8_kindOf_58 : decode cX8_kindOf 58 = .ok (.iconst 3, 1) := by decide +kernel
theorem dX8_kindOf_59 : decode cX8_kindOf 59 = .ok (.ireturn, 1) := by decide +kernel
theorem dX8_kindOf_60 : decode cX8_kindOf 60 = .ok (.iconst 4, 1) := by decide +kernel
theorem dX8_kindOf_61 : decode cX8_kindOf 61 = .ok (.ireturn, 1) := by decide +kernel
theorem dX8_kindOf_62 : decode cX8_kindOf 62 = .ok (.iconst (-1), 1) := by decide +kernel
theorem dX8_kindOf_63 : decode cX8_kindOf 63 = .ok (.ireturn, 1) := by decide +kernel
theorem dX9_init_0 : decode cX9_init 0 = .ok (.aload_n 0, 1) := by decide +kernel
theorem dX9_init_1 : decode cX9_init 1 = .ok (.invokespecial 1, 3) := by decide +kernel
theorem dX9_init_4 : decode cX9_init 4 = .ok (.aload_n 0, 1) := by decide +kernel
theorem dX9_init_5 : decode cX9_init 5 = .ok (.new 7, 3) := by decide +kernel
theorem dX9_init_8 : decode cX9_init 8 = .ok (.dup, 1) := by decide +kernel
theorem dX9_init_9 : decode cX9_init 9 = .ok (.invokespecial 9, 3) := by decide +kernel
theorem dX9_init_12 : decode cX9_init 12 = .ok (.putfield 10, 3) := by decide +kernel
theorem dX9_init_15 : decode cX9_init 15 = .ok (.aload_n 0, 1) := by decide +kernel
theorem dX9_init_16 : decode cX9_init 16 = .ok (.new 7, 3) := by decide +kernel
theorem dX9_init_19 : decode cX9_init 19 = .ok (.dup, 1) := by decide +kernel
theorem dX9_init_20 : decode cX9_init 20 = .ok (.invokespecial 9, 3) := by decide +kernel
theorem dX9_init_23 : decode cX9_init 23 = .ok (.putfield 16, 3) := by decide +kernel
theorem dX9_init_26 : decode cX9_init 26 = .ok (.aload_n 0, 1) := by decide +kernel
theorem dX9_init_27 : decode cX9_init 27 = .ok (.new 19, 3) := by decide +kernel
theorem dX9_init_30 : decode cX9_init 30 = .ok (.dup, 1) := by decide +kernel
theorem dX9_init_31 : decode cX9_init 31 = .ok (.invokespecial 21, 3) := by decide +kernel
theorem dX9_init_34 : decode cX9_init 34 = .ok (.putfield 22, 3) := by decide +kernel
theorem dX9_init_37 : decode cX9_init 37 = .ok (.aload_n 0, 1) := by decide +kernel
theorem dX9_init_38 : decode cX9_init 38 = .ok (.new 26, 3) := by decide +kernel
theorem dX9_init_41 : decode cX9_init 41 = .ok (.dup, 1) := by decide +kernel
theorem dX9_init_42 : decode cX9_init 42 = .ok (.invokespecial 28, 3) := by decide +kernel
theorem dX9_init_45 : decode cX9_init 45 = .ok (.putfield 29, 3) := by decide +kernel
theorem dX9_init_48 : decode cX9_init 48 = .ok (.aload_n 0, 1) := by decide +kernel
theorem dX9_init_49 : decode cX9_init 49 = .ok (.iconst 4, 1) := by decide +kernel
theorem dX9_init_50 : decode cX9_init 50 = .ok (.anewarray 33, 3) := by decide +kernel
theorem dX9_init_53 : decode cX9_init 53 = .ok (.putfield 35, 3) := by decide +kernel
theorem dX9_init_56 : decode cX9_init 56 = .ok (.iconst 0, 1) := by decide +kernel
theorem dX9_init_57 : decode cX9_init 57 = .ok (.istore_n 1, 1) := by decide +kernel
theorem dX9_init_58 : decode cX9_init 58 = .ok (.iload_n 1, 1) := by decide +kernel
theorem dX9_init_59 : decode cX9_init 59 = .ok (.iconst 4, 1) := by decide +kernel
theorem dX9_init_60 : decode cX9_init 60 = .ok (.if_icmp .ge 22, 3) := by decide +kernel
theorem dX9_init_63 : decode cX9_init 63 = .ok (.aload_n 0, 1) := by decide +kernel
theorem dX9_init_64 : decode cX9_init 64 = .ok (.getfield 35, 3) := by decide +kernel
theorem dX9_init_67 : decode cX9_init 67 = .ok (.iload_n 1, 1) := by decide +kernel
theorem dX9_init_68 : decode cX9_init 68 = .ok (.new 33, 3) := by decide +kernel
theorem dX9_init_71 : decode cX9_init 71 = .ok (.dup, 1) := by decide +kernel
theorem dX9_init_72 : decode cX9_init 72 = .ok (.invokespecial 39, 3) := by decide +kernel
theorem dX9_init_75 : decode cX9_init 75 = .ok (.aastore, 1) := by decide +kernel
theorem dX9_init_76 : decode cX9_init 76 = .ok (.iinc 1 1, 3) := by decide +kernel
theorem dX9_init_79 : decode cX9_init 79 = .ok (.goto (-21), 3) := by decide +kernel
theorem dX9_init_82 : decode cX9_init 82 = .ok (.return_, 1) := by decide +kernel
theorem dX9_builder_0 : decode cX9_builder 0 = .ok (.iload_n 1, 1) := by decide +kernel
theorem dX9_builder_1 : decode cX9_builder 1 = .ok (.iconst 0, 1) := by decide +kernel
theorem dX9_builder_2 : decode cX9_builder 2 = .ok (.iconst 4, 1) := by decide +kernel
theorem dX9_builder_3 : decode cX9_builder 3 = .ok (.invokestatic 40, 3) := by decide +kernel
theorem dX9_builder_6 : decode cX9_builder 6 = .ok (.ifCond .eq 23, 3) := by decide +kernel
theorem dX9_builder_9 : decode cX9_builder 9 = .ok (.iload_n 2, 1) := by decide +kernel
theorem dX9_builder_10 : decode cX9_builder 10 = .ok (.iconst 1, 1) := by decide +kernel
theorem dX9_builder_11 : decode cX9_builder 11 = .ok (.bipush 9, 2) := by decide +kernel
theorem dX9_builder_13 : decode cX9_builder 13 = .ok (.invokestatic 40, 3) := by decide +kernel
theorem dX9_builder_16 : decode cX9_builder 16 = .ok (.ifCond .eq 13, 3) := by decide +kernel
theorem dX9_builder_19 : decode cX9_builder 19 = .ok (.iload_n 3, 1) := by decide +kernel
theorem dX9_builder_20 : decode cX9_builder 20 = .ok (.iconst 0, 1) := by decide +kernel
theorem dX9_builder_21 : decode cX9_builder 21 = .ok (.bipush 9, 2) := by decide +kernel
theorem dX9_builder_23 : decode cX9_builder 23 = .ok (.invokestatic 40, 3) := by decide +kernel
theorem dX9_builder_26 : decode cX9_builder 26 = .ok (.ifCond .ne 5, 3) := by decide +kernel
theorem dX9_builder_29 : decode cX9_builder 29 = .ok (.iconst (-1), 1) := by decide +kernel
theorem dX9_builder_30 : decode cX9_builder 30 = .ok (.ireturn, 1) := by decide +kernel
theorem dX9_builder_31 : decode cX9_builder 31 = .ok (.aload_n 0, 1) := by decide +kernel
theorem dX9_builder_32 : decode cX9_builder 32 = .ok (.getfield 10, 3) := by decide +kernel
theorem dX9_builder_35 : decode cX9_builder 35 = .ok (.getfield 44, 3) := by decide +kernel
theorem dX9_builder_38 : decode cX9_builder 38 = .ok (.iconst 4, 1) := by decide +kernel
theorem dX9_builder_39 : decode cX9_builder 39 = .ok (.if_icmp .lt 6, 3) := by decide +kernel
theorem dX9_builder_42 : decode cX9_builder 42 = .ok (.bipush (-3), 2) := by decide +kernel
theorem dX9_builder_44 : decode cX9_builder 44 = .ok (.ireturn, 1) := by decide +kernel
theorem dX9_builder_45 : decode cX9_builder 45 = .ok (.aload_n 0, 1) := by decide +kernel
theorem dX9_builder_46 : decode cX9_builder 46 = .ok (.getfield 10, 3) := by decide +kernel
theorem dX9_builder_49 : decode cX9_builder 49 = .ok (.iload_n 1, 1) := by decide +kernel
theorem dX9_builder_50 : decode cX9_builder 50 = .ok (.iload_n 2, 1) := by decide +kernel
theorem dX9_builder_51 : decode cX9_builder 51 = .ok (.iload_n 3, 1) := by decide +kernel
theorem dX9_builder_52 : decode cX9_builder 52 = .ok (.invokevirtual 48, 3) := by decide +kernel
theorem dX9_builder_55 : decode cX9_builder 55 = .ok (.aload_n 0, 1) := by decide +kernel
theorem dX9_builder_56 : decode cX9_builder 56 = .ok (.getfield 10, 3) := by decide +kernel
theorem dX9_builder_59 : decode cX9_builder 59 = .ok (.iconst 0, 1) := by decide +kernel
theorem dX9_builder_60 : decode cX9_builder 60 = .ok (.putfield 52, 3) := by decide +kernel
theorem dX9_builder_63 : decode cX9_builder 63 = .ok (.aload_n 0, 1) := by decide +kernel
theorem dX9_builder_64 : decode cX9_builder 64 = .ok (.getfield 10, 3) := by decide +kernel
theorem dX9_builder_67 : decode cX9_builder 67 = .ok (.getfield 44, 3) := by decide +kernel
theorem dX9_builder_70 : decode cX9_builder 70 = .ok (.iconst 1, 1) := by decide +kernel
theorem dX9_builder_71 : decode cX9_builder 71 = .ok (.isub, 1) := by decide +kernel
theorem dX9_builder_72 : decode cX9_builder 72 = .ok (.ireturn, 1) := by decide +kernel
theorem dX9_of_0 : decode cX9_of 0 = .ok (.iload_n 1, 1) := by decide +kernel
theorem dX9_of_1 : decode cX9_of 1 = .ok (.iconst 0, 1) := by decide +kernel
theorem dX9_of_2 : decode cX9_of 2 = .ok (.aload_n 0, 1) := by decide +kernel
theorem dX9_of_3 : decode cX9_of 3 = .ok (.getfield 10, 3) := by decide +kernel
theorem dX9_of_6 : decode cX9_of 6 = .ok (.getfield 44, 3) := by decide +kernel
theorem dX9_of_9 : decode cX9_of 9 = .ok (.iconst 1, 1) := by decide +kernel
theorem dX9_of_10 : decode cX9_of 10 = .ok (.isub, 1) := by decide +kernel
theorem dX9_of_11 : decode cX9_of 11 = .ok (.invokestatic 40, 3) := by decide +kernel
theorem dX9_of_14 : decode cX9_of 14 = .ok (.ifCond .ne 5, 3) := by decide +kernel
theorem dX9_of_17 : decode cX9_of 17 = .ok (.iconst (-1), 1) := by decide +kernel
theorem dX9_of_18 : decode cX9_of 18 = .ok (.ireturn, 1) := by decide +kernel
theorem dX9_of_19 : decode cX9_of 19 = .ok (.aload_n 0, 1) := by decide +kernel
theorem dX9_of_20 : decode cX9_of 20 = .ok (.getfield 10, 3) := by decide +kernel
theorem dX9_of_23 : decode cX9_of 23 = .ok (.getfield 55, 3) := by decide +kernel
theorem dX9_of_26 : decode cX9_of 26 = .ok (.iload_n 1, 1) := by decide +kernel
theorem dX9_of_27 : decode cX9_of 27 = .ok (.aaload, 1) := by decide +kernel
theorem dX9_of_28 : decode cX9_of 28 = .ok (.astore_n 3, 1) := by decide +kernel
theorem dX9_of_29 : decode cX9_of 29 = .ok (.aload_n 3, 1) := by decide +kernel
theorem dX9_of_30 : decode cX9_of 30 = .ok (.ifnonnull 5, 3) := by decide +kernel
theorem dX9_of_33 : decode cX9_of 33 = .ok (.iconst (-1), 1) := by decide +kernel
theorem dX9_of_34 : decode cX9_of 34 = .ok (.ireturn, 1) := by decide +kernel
theorem dX9_of_35 : decode cX9_of 35 = .ok (.iload_n 2, 1) := by decide +kernel
theorem dX9_of_36 : decode cX9_of 36 = .ok (.tableswitch 114 0 6 #[44, 49, 54, 59, 72, 86, 100], 44) := by decide +kernel
theorem dX9_of_80 : decode cX9_of 80 = .ok (.aload_n 3, 1) := by decide +kernel
theorem dX9_of_81 : decode cX9_of 81 = .ok (.invokevirtual 59, 3) := by decide +kernel
theorem dX9_of_84 : decode cX9_of 84 = .ok (.ireturn, 1) := by decide +kernel
theorem dX9_of_85 : decode cX9_of 85 = .ok (.aload_n 3, 1) := by decide +kernel
theorem dX9_of_86 : decode cX9_of 86 = .ok (.getfield 65, 3) := by decide +kernel
theorem dX9_of_89 : decode cX9_of 89 = .ok (.ireturn, 1) := by decide +kernel
theorem dX9_of_90 : decode cX9_of 90 = .ok (.aload_n 3, 1) := by decide +kernel
theorem dX9_of_91 : decode cX9_of 91 = .ok (.getfield 68, 3) := by decide +kernel
theorem dX9_of_94 : decode cX9_of 94 = .ok (.ireturn, 1) := by decide +kernel
theorem dX9_of_95 : decode cX9_of 95 = .ok (.aload_n 3, 1) := by decide +kernel
theorem dX9_of_96 : decode cX9_of 96 = .ok (.aload_n 0, 1) := by decide +kernel
theorem dX9_of_97 : decode cX9_of 97 = .ok (.getfield 10, 3) := by decide +kernel
theorem dX9_of_100 : decode cX9_of 100 = .ok (.getfield 71, 3) := by decide +kernel
theorem dX9_of_103 : decode cX9_of 103 = .ok (.iconst 0, 1) := by decide +kernel
theorem dX9_of_104 : decode cX9_of 104 = .ok (.invokevirtual 74, 3) := by decide +kernel
theorem dX9_of_107 : decode cX9_of 107 = .ok (.ireturn, 1) := by decide +kernel
theorem dX9_of_108 : decode cX9_of 108 = .ok (.aload_n 3, 1) := by decide +kernel
theorem dX9_of_109 : decode cX9_of 109 = .ok (.iconst 0, 1) := by decide +kernel
theorem dX9_of_110 : decode cX9_of 110 = .ok (.aload_n 0, 1) := by decide +kernel
theorem dX9_of_111 : decode cX9_of 111 = .ok (.getfield 10, 3) := by decide +kernel
theorem dX9_of_114 : decode cX9_of 114 = .ok (.getfield 71, 3) := by decide +kernel
theorem dX9_of_117 : decode cX9_of 117 = .ok (.iconst 0, 1) := by decide +kernel
theorem dX9_of_118 : decode cX9_of 118 = .ok (.invokevirtual 78, 3) := by decide +kernel
theorem dX9_of_121 : decode cX9_of 121 = .ok (.ireturn, 1) := by decide +kernel
theorem dX9_of_122 : decode cX9_of 122 = .ok (.aload_n 3, 1) := by decide +kernel
theorem dX9_of_123 : decode cX9_of 123 = .ok (.iconst 1, 1) := by decide +kernel
theorem dX9_of_124 : decode cX9_of 124 = .ok (.aload_n 0, 1) := by decide +kernel
theorem dX9_of_125 : decode cX9_of 125 = .ok (.getfield 10, 3) := by decide +kernel
theorem dX9_of_128 : decode cX9_of 128 = .ok (.getfield 71, 3) := by decide +kernel
theorem dX9_of_131 : decode cX9_of 131 = .ok (.iconst 0, 1) := by decide +kernel
theorem dX9_of_132 : decode cX9_of 132 = .ok (.invokevirtual 78, 3) := by decide +kernel
theorem dX9_of_135 : decode cX9_of 135 = .ok (.ireturn, 1) := by decide +kernel
theorem dX9_of_136 : decode cX9_of 136 = .ok (.aload_n 3, 1) := by decide +kernel
theorem dX9_of_137 : decode cX9_of 137 = .ok (.iconst 2, 1) := by decide +kernel
theorem dX9_of_138 : decode cX9_of 138 = .ok (.aload_n 0, 1) := by decide +kernel
theorem dX9_of_139 : decode cX9_of 139 = .ok (.getfield 10, 3) := by decide +kernel
theorem dX9_of_142 : decode cX9_of 142 = .ok (.getfield 71, 3) := by decide +kernel
theorem dX9_of_145 : decode cX9_of 145 = .ok (.iconst 0, 1) := by decide +kernel
theorem dX9_of_146 : decode cX9_of 146 = .ok (.invokevirtual 78, 3) := by decide +kernel
theorem dX9_of_149 : decode cX9_of 149 = .ok (.ireturn, 1) := by decide +kernel
theorem dX9_of_150 : decode cX9_of 150 = .ok (.iconst (-1), 1) := by decide +kernel
theorem dX9_of_151 : decode cX9_of 151 = .ok (.ireturn, 1) := by decide +kernel
theorem dX9_wall_0 : decode cX9_wall 0 = .ok (.iload_n 1, 1) := by decide +kernel
theorem dX9_wall_1 : decode cX9_wall 1 = .ok (.tableswitch 55 0 3 #[31, 37, 43, 49], 31) := by decide +kernel
theorem dX9_wall_32 : decode cX9_wall 32 = .ok (.aload_n 0, 1) := by decide +kernel
theorem dX9_wall_33 : decode cX9_wall 33 = .ok (.iload_n 2, 1) := by decide +kernel
theorem dX9_wall_34 : decode cX9_wall 34 = .ok (.invokevirtual 82, 3) := by decide +kernel
theorem dX9_wall_37 : decode cX9_wall 37 = .ok (.ireturn, 1) := by decide +kernel
theorem dX9_wall_38 : decode cX9_wall 38 = .ok (.aload_n 0, 1) := by decide +kernel
theorem dX9_wall_39 : decode cX9_wall 39 = .ok (.iload_n 2, 1) := by decide +kernel
theorem dX9_wall_40 : decode cX9_wall 40 = .ok (.invokevirtual 86, 3) := by decide +kernel
theorem dX9_wall_43 : decode cX9_wall 43 = .ok (.ireturn, 1) := by decide +kernel
theorem dX9_wall_44 : decode cX9_wall 44 = .ok (.aload_n 0, 1) := by decide +kernel
theorem dX9_wall_45 : decode cX9_wall 45 = .ok (.iload_n 2, 1) := by decide +kernel
theorem dX9_wall_46 : decode cX9_wall 46 = .ok (.invokevirtual 89, 3) := by decide +kernel
theorem dX9_wall_49 : decode cX9_wall 49 = .ok (.ireturn, 1) := by decide +kernel
theorem dX9_wall_50 : decode cX9_wall 50 = .ok (.aload_n 0, 1) := by decide +kernel
theorem dX9_wall_51 : decode cX9_wall 51 = .ok (.iload_n 2, 1) := by decide +kernel
theorem dX9_wall_52 : decode cX9_wall 52 = .ok (.invokevirtual 92, 3) := by decide +kernel
theorem dX9_wall_55 : decode cX9_wall 55 = .ok (.ireturn, 1) := by decide +kernel
theorem dX9_wall_56 : decode cX9_wall 56 = .ok (.iconst (-1), 1) := by decide +kernel
theorem dX9_wall_57 : decode cX9_wall 57 = .ok (.ireturn, 1) := by decide +kernel
theorem dX9_changeStones_0 : decode cX9_changeStones 0 = .ok (.iload_n 1, 1) := by decide +kernel
theorem dX9_changeStones_1 : decode cX9_changeStones 1 = .ok (.iconst 1, 1) := by decide +kernel
theorem dX9_changeStones_2 : decode cX9_changeStones 2 = .ok (.sipush 200, 3) := by decide +kernel
theorem dX9_changeStones_5 : decode cX9_changeStones 5 = .ok (.invokestatic 40, 3) := by decide +kernel
theorem dX9_changeStones_8 : decode cX9_changeStones 8 = .ok (.ifCond .ne 5, 3) := by decide +kernel
theorem dX9_changeStones_11 : decode cX9_changeStones 11 = .ok (.iconst (-1), 1) := by decide +kernel
theorem dX9_changeStones_12 : decode cX9_changeStones 12 = .ok (.ireturn, 1) := by decide +kernel
theorem dX9_changeStones_13 : decode cX9_changeStones 13 = .ok (.iload_n 1, 1) := by decide +kernel
theorem dX9_changeStones_14 : decode cX9_changeStones 14 = .ok (.aload_n 0, 1) := by decide +kernel
theorem dX9_changeStones_15 : decode cX9_changeStones 15 = .ok (.getfield 10, 3) := by decide +kernel
theorem dX9_changeStones_18 : decode cX9_changeStones 18 = .ok (.getfield 71, 3) := by decide +kernel
theorem dX9_changeStones_21 : decode cX9_changeStones 21 = .ok (.if_icmp .ge 6, 3) := by decide +kernel
theorem dX9_changeStones_24 : decode cX9_changeStones 24 = .ok (.bipush (-2), 2) := by decide +kernel
theorem dX9_changeStones_26 : decode cX9_changeStones 26 = .ok (.ireturn, 1) := by decide +kernel
theorem dX9_changeStones_27 : decode cX9_changeStones 27 = .ok (.aload_n 0, 1) := by decide +kernel
theorem dX9_changeStones_28 : decode cX9_changeStones 28 = .ok (.getfield 10, 3) := by decide +kernel
theorem dX9_changeStones_31 : decode cX9_changeStones 31 = .ok (.getfield 95, 3) := by decide +kernel
theorem dX9_changeStones_34 : decode cX9_changeStones 34 = .ok (.istore_n 2, 1) := by decide +kernel
theorem dX9_changeStones_35 : decode cX9_changeStones 35 = .ok (.aload_n 0, 1) := by decide +kernel
theorem dX9_changeStones_36 : decode cX9_changeStones 36 = .ok (.getfield 10, 3) := by decide +kernel
theorem dX9_changeStones_39 : decode cX9_changeStones 39 = .ok (.iload_n 1, 1) := by decide +kernel
theorem dX9_changeStones_40 : decode cX9_changeStones 40 = .ok (.putfield 95, 3) := by decide +kernel
theorem dX9_changeStones_43 : decode cX9_changeStones 43 = .ok (.iload_n 2, 1) := by decide +kernel
theorem dX9_changeStones_44 : decode cX9_changeStones 44 = .ok (.ireturn, 1) := by decide +kernel
theorem dX9_changeDays_0 : decode cX9_changeDays 0 = .ok (.iload_n 1, 1) := by decide +kernel
theorem dX9_changeDays_1 : decode cX9_changeDays 1 = .ok (.iconst 1, 1) := by decide +kernel
theorem dX9_changeDays_2 : decode cX9_changeDays 2 = .ok (.bipush 40, 2) := by decide +kernel
theorem dX9_changeDays_4 : decode cX9_changeDays 4 = .ok (.invokestatic 40, 3) := by decide +kernel
theorem dX9_changeDays_7 : decode cX9_changeDays 7 = .ok (.ifCond .ne 5, 3) := by decide +kernel
theorem dX9_changeDays_10 : decode cX9_changeDays 10 = .ok (.iconst (-1), 1) := by decide +kernel
theorem dX9_changeDays_11 : decode cX9_changeDays 11 = .ok (.ireturn, 1) := by decide +kernel
theorem dX9_changeDays_12 : decode cX9_changeDays 12 = .ok (.iload_n 1, 1) := by decide +kernel
theorem dX9_changeDays_13 : decode cX9_changeDays 13 = .ok (.aload_n 0, 1) := by decide +kernel
theorem dX9_changeDays_14 : decode cX9_changeDays 14 = .ok (.getfield 10, 3) := by decide +kernel
theorem dX9_changeDays_17 : decode cX9_changeDays 17 = .ok (.getfield 98, 3) := by decide +kernel
theorem dX9_changeDays_20 : decode cX9_changeDays 20 = .ok (.if_icmp .ge 6, 3) := by decide +kernel
theorem dX9_changeDays_23 : decode cX9_changeDays 23 = .ok (.bipush (-2), 2) := by decide +kernel
theorem dX9_changeDays_25 : decode cX9_changeDays 25 = .ok (.ireturn, 1) := by decide +kernel
theorem dX9_changeDays_26 : decode cX9_changeDays 26 = .ok (.aload_n 0, 1) := by decide +kernel
theorem dX9_changeDays_27 : decode cX9_changeDays 27 = .ok (.getfield 10, 3) := by decide +kernel
theorem dX9_changeDays_30 : decode cX9_changeDays 30 = .ok (.getfield 101, 3) := by decide +kernel
theorem dX9_changeDays_33 : decode cX9_changeDays 33 = .ok (.istore_n 2, 1) := by decide +kernel
theorem dX9_changeDays_34 : decode cX9_changeDays 34 = .ok (.aload_n 0, 1) := by decide +kernel
theorem dX9_changeDays_35 : decode cX9_changeDays 35 = .ok (.getfield 10, 3) := by decide +kernel
theorem dX9_changeDays_38 : decode cX9_changeDays 38 = .ok (.iload_n 1, 1) := by decide +kernel
theorem dX9_changeDays_39 : decode cX9_changeDays 39 = .ok (.putfield 101, 3) := by decide +kernel
theorem dX9_changeDays_42 : decode cX9_changeDays 42 = .ok (.iload_n 2, 1) := by decide +kernel
theorem dX9_changeDays_43 : decode cX9_changeDays 43 = .ok (.ireturn, 1) := by decide +kernel
theorem dX9_changeFrost_0 : decode cX9_changeFrost 0 = .ok (.iload_n 1, 1) := by decide +kernel
theorem dX9_changeFrost_1 : decode cX9_changeFrost 1 = .ok (.iconst 0, 1) := by decide +kernel
theorem dX9_changeFrost_2 : decode cX9_changeFrost 2 = .ok (.bipush 10, 2) := by decide +kernel
theorem dX9_changeFrost_4 : decode cX9_changeFrost 4 = .ok (.invokestatic 40, 3) := by decide +kernel
theorem dX9_changeFrost_7 : decode cX9_changeFrost 7 = .ok (.ifCond .ne 5, 3) := by decide +kernel
theorem dX9_changeFrost_10 : decode cX9_changeFrost 10 = .ok (.iconst (-1), 1) := by decide +kernel
theorem dX9_changeFrost_11 : decode cX9_changeFrost 11 = .ok (.ireturn, 1) := by decide +kernel
theorem dX9_changeFrost_12 : decode cX9_changeFrost 12 = .ok (.iload_n 1, 1) := by decide +kernel
theorem dX9_changeFrost_13 : decode cX9_changeFrost 13 = .ok (.aload_n 0, 1) := by decide +kernel
theorem dX9_changeFrost_14 : decode cX9_changeFrost 14 = .ok (.getfield 10, 3) := by decide +kernel
theorem dX9_changeFrost_17 : decode cX9_changeFrost 17 = .ok (.getfield 104, 3) := by decide +kernel
theorem dX9_changeFrost_20 : decode cX9_changeFrost 20 = .ok (.iadd, 1) := by decide +kernel
theorem dX9_changeFrost_21 : decode cX9_changeFrost 21 = .ok (.bipush 10, 2) := by decide +kernel
theorem dX9_changeFrost_23 : decode cX9_changeFrost 23 = .ok (.if_icmp .le 6, 3) := by decide +kernel
theorem dX9_changeFrost_26 : decode cX9_changeFrost 26 = .ok (.bipush (-2), 2) := by decide +kernel
theorem dX9_changeFrost_28 : decode cX9_changeFrost 28 = .ok (.ireturn, 1) := by decide +kernel
theorem dX9_changeFrost_29 : decode cX9_changeFrost 29 = .ok (.aload_n 0, 1) := by decide +kernel
theorem dX9_changeFrost_30 : decode cX9_changeFrost 30 = .ok (.getfield 10, 3) := by decide +kernel
theorem dX9_changeFrost_33 : decode cX9_changeFrost 33 = .ok (.getfield 107, 3) := by decide +kernel
theorem dX9_changeFrost_36 : decode cX9_changeFrost 36 = .ok (.istore_n 2, 1) := by decide +kernel
theorem dX9_changeFrost_37 : decode cX9_changeFrost 37 = .ok (.aload_n 0, 1) := by decide +kernel
theorem dX9_changeFrost_38 : decode cX9_changeFrost 38 = .ok (.getfield 10, 3) := by decide +kernel
theorem dX9_changeFrost_41 : decode cX9_changeFrost 41 = .ok (.iload_n 1, 1) := by decide +kernel
theorem dX9_changeFrost_42 : decode cX9_changeFrost 42 = .ok (.putfield 107, 3) := by decide +kernel
theorem dX9_changeFrost_45 : decode cX9_changeFrost 45 = .ok (.iload_n 2, 1) := by decide +kernel
theorem dX9_changeFrost_46 : decode cX9_changeFrost 46 = .ok (.ireturn, 1) := by decide +kernel
theorem dX9_changeThaw_0 : decode cX9_changeThaw 0 = .ok (.iload_n 1, 1) := by decide +kernel
theorem dX9_changeThaw_1 : decode cX9_changeThaw 1 = .ok (.iconst 0, 1) := by decide +kernel
theorem dX9_changeThaw_2 : decode cX9_changeThaw 2 = .ok (.bipush 10, 2) := by decide +kernel
theorem dX9_changeThaw_4 : decode cX9_changeThaw 4 = .ok (.invokestatic 40, 3) := by decide +kernel
theorem dX9_changeThaw_7 : decode cX9_changeThaw 7 = .ok (.ifCond .ne 5, 3) := by decide +kernel
theorem dX9_changeThaw_10 : decode cX9_changeThaw 10 = .ok (.iconst (-1), 1) := by decide +kernel
theorem dX9_changeThaw_11 : decode cX9_changeThaw 11 = .ok (.ireturn, 1) := by decide +kernel
theorem dX9_changeThaw_12 : decode cX9_changeThaw 12 = .ok (.aload_n 0, 1) := by decide +kernel
theorem dX9_changeThaw_13 : decode cX9_changeThaw 13 = .ok (.getfield 10, 3) := by decide +kernel
theorem dX9_changeThaw_16 : decode cX9_changeThaw 16 = .ok (.getfield 107, 3) := by decide +kernel
theorem dX9_changeThaw_19 : decode cX9_changeThaw 19 = .ok (.iload_n 1, 1) := by decide +kernel
theorem dX9_changeThaw_20 : decode cX9_changeThaw 20 = .ok (.iadd, 1) := by decide +kernel
theorem dX9_changeThaw_21 : decode cX9_changeThaw 21 = .ok (.bipush 10, 2) := by decide +kernel
theorem dX9_changeThaw_23 : decode cX9_changeThaw 23 = .ok (.if_icmp .le 6, 3) := by decide +kernel
theorem dX9_changeThaw_26 : decode cX9_changeThaw 26 = .ok (.bipush (-2), 2) := by decide +kernel
theorem dX9_changeThaw_28 : decode cX9_changeThaw 28 = .ok (.ireturn, 1) := by decide +kernel
theorem dX9_changeThaw_29 : decode cX9_changeThaw 29 = .ok (.aload_n 0, 1) := by decide +kernel
theorem dX9_changeThaw_30 : decode cX9_changeThaw 30 = .ok (.getfield 10, 3) := by decide +kernel
theorem dX9_changeThaw_33 : decode cX9_changeThaw 33 = .ok (.getfield 104, 3) := by decide +kernel
theorem dX9_changeThaw_36 : decode cX9_changeThaw 36 = .ok (.istore_n 2, 1) := by decide +kernel
theorem dX9_changeThaw_37 : decode cX9_changeThaw 37 = .ok (.aload_n 0, 1) := by decide +kernel
theorem dX9_changeThaw_38 : decode cX9_changeThaw 38 = .ok (.getfield 10, 3) := by decide +kernel
theorem dX9_changeThaw_41 : decode cX9_changeThaw 41 = .ok (.iload_n 1, 1) := by decide +kernel
theorem dX9_changeThaw_42 : decode cX9_changeThaw 42 = .ok (.putfield 104, 3) := by decide +kernel
theorem dX9_changeThaw_45 : decode cX9_changeThaw 45 = .ok (.iload_n 2, 1) := by decide +kernel
theorem dX9_changeThaw_46 : decode cX9_changeThaw 46 = .ok (.ireturn, 1) := by decide +kernel
theorem dX9_hindrance_0 : decode cX9_hindrance 0 = .ok (.iload_n 1, 1) := by decide +kernel
theorem dX9_hindrance_1 : decode cX9_hindrance 1 = .ok (.iconst 1, 1) := by decide +kernel
theorem dX9_hindrance_2 : decode cX9_hindrance 2 = .ok (.bipush 9, 2) := by decide +kernel
theorem dX9_hindrance_4 : decode cX9_hindrance 4 = .ok (.invokestatic 40, 3) := by decide +kernel
theorem dX9_hindrance_7 : decode cX9_hindrance 7 = .ok (.ifCond .eq 18, 3) := by decide +kernel
theorem dX9_hindrance_10 : decode cX9_hindrance 10 = .ok (.iload_n 2, 1) := by decide +kernel
theorem dX9_hindrance_11 : decode cX9_hindrance 11 = .ok (.bipush (-4), 2) := by decide +kernel
theorem dX9_hindrance_13 : decode cX9_hindrance 13 = .ok (.if_icmp .eq 14, 3) := by decide +kernel
theorem dX9_hindrance_16 : decode cX9_hindrance 16 = .ok (.iload_n 2, 1) := by decide +kernel
theorem dX9_hindrance_17 : decode cX9_hindrance 17 = .ok (.iconst 0, 1) := by decide +kernel
theorem dX9_hindrance_18 : decode cX9_hindrance 18 = .ok (.iconst 3, 1) := by decide +kernel
theorem dX9_hindrance_19 : decode cX9_hindrance 19 = .ok (.invokestatic 40, 3) := by decide +kernel
theorem dX9_hindrance_22 : decode cX9_hindrance 22 = .ok (.ifCond .ne 5, 3) := by decide +kernel
theorem dX9_hindrance_25 : decode cX9_hindrance 25 = .ok (.iconst (-1), 1) := by decide +kernel
theorem dX9_hindrance_26 : decode cX9_hindrance 26 = .ok (.ireturn, 1) := by decide +kernel
theorem dX9_hindrance_27 : decode cX9_hindrance 27 = .ok (.aload_n 0, 1) := by decide +kernel
theorem dX9_hindrance_28 : decode cX9_hindrance 28 = .ok (.getfield 10, 3) := by decide +kernel
theorem dX9_hindrance_31 : decode cX9_hindrance 31 = .ok (.getfield 110, 3) := by decide +kernel
theorem dX9_hindrance_34 : decode cX9_hindrance 34 = .ok (.bipush 6, 2) := by decide +kernel
theorem dX9_hindrance_36 : decode cX9_hindrance 36 = .ok (.if_icmp .lt 6, 3) := by decide +kernel
theorem dX9_hindrance_39 : decode cX9_hindrance 39 = .ok (.bipush (-3), 2) := by decide +kernel
theorem dX9_hindrance_41 : decode cX9_hindrance 41 = .ok (.ireturn, 1) := by decide +kernel
theorem dX9_hindrance_42 : decode cX9_hindrance 42 = .ok (.aload_n 0, 1) := by decide +kernel
theorem dX9_hindrance_43 : decode cX9_hindrance 43 = .ok (.getfield 10, 3) := by decide +kernel
theorem dX9_hindrance_46 : decode cX9_hindrance 46 = .ok (.iload_n 1, 1) := by decide +kernel
theorem dX9_hindrance_47 : decode cX9_hindrance 47 = .ok (.iload_n 2, 1) := by decide +kernel
theorem dX9_hindrance_48 : decode cX9_hindrance 48 = .ok (.invokevirtual 113, 3) := by decide +kernel
theorem dX9_hindrance_51 : decode cX9_hindrance 51 = .ok (.aload_n 0, 1) := by decide +kernel
theorem dX9_hindrance_52 : decode cX9_hindrance 52 = .ok (.getfield 10, 3) := by decide +kernel
theorem dX9_hindrance_55 : decode cX9_hindrance 55 = .ok (.iconst 0, 1) := by decide +kernel
theorem dX9_hindrance_56 : decode cX9_hindrance 56 = .ok (.putfield 52, 3) := by decide +kernel
theorem dX9_hindrance_59 : decode cX9_hindrance 59 = .ok (.aload_n 0, 1) := by decide +kernel
theorem dX9_hindrance_60 : decode cX9_hindrance 60 = .ok (.getfield 10, 3) := by decide +kernel
theorem dX9_hindrance_63 : decode cX9_hindrance 63 = .ok (.getfield 110, 3) := by decide +kernel
theorem dX9_hindrance_66 : decode cX9_hindrance 66 = .ok (.iconst 1, 1) := by decide +kernel
theorem dX9_hindrance_67 : decode cX9_hindrance 67 = .ok (.isub, 1) := by decide +kernel
theorem dX9_hindrance_68 : decode cX9_hindrance 68 = .ok (.ireturn, 1) := by decide +kernel
theorem dX9_oath_0 : decode cX9_oath 0 = .ok (.iload_n 1, 1) := by decide +kernel
theorem dX9_oath_1 : decode cX9_oath 1 = .ok (.iconst 0, 1) := by decide +kernel
theorem dX9_oath_2 : decode cX9_oath 2 = .ok (.iconst 3, 1) := by decide +kernel
theorem dX9_oath_3 : decode cX9_oath 3 = .ok (.invokestatic 40, 3) := by decide +kernel
theorem dX9_oath_6 : decode cX9_oath 6 = .ok (.ifCond .eq 12, 3) := by decide +kernel
theorem dX9_oath_9 : decode cX9_oath 9 = .ok (.iload_n 2, 1) := by decide +kernel
theorem dX9_oath_10 : decode cX9_oath 10 = .ok (.iconst 0, 1) := by decide +kernel
theorem dX9_oath_11 : decode cX9_oath 11 = .ok (.iconst 1, 1) := by decide +kernel
theorem dX9_oath_12 : decode cX9_oath 12 = .ok (.invokestatic 40, 3) := by decide +kernel
theorem dX9_oath_15 : decode cX9_oath 15 = .ok (.ifCond .ne 5, 3) := by decide +kernel
theorem dX9_oath_18 : decode cX9_oath 18 = .ok (.iconst (-1), 1) := by decide +kernel
theorem dX9_oath_19 : decode cX9_oath 19 = .ok (.ireturn, 1) := by decide +kernel
theorem dX9_oath_20 : decode cX9_oath 20 = .ok (.aload_n 0, 1) := by decide +kernel
theorem dX9_oath_21 : decode cX9_oath 21 = .ok (.getfield 10, 3) := by decide +kernel
theorem dX9_oath_24 : decode cX9_oath 24 = .ok (.getfield 117, 3) := by decide +kernel
theorem dX9_oath_27 : decode cX9_oath 27 = .ok (.iload_n 1, 1) := by decide +kernel
theorem dX9_oath_28 : decode cX9_oath 28 = .ok (.ishr, 1) := by decide +kernel
theorem dX9_oath_29 : decode cX9_oath 29 = .ok (.iconst 1, 1) := by decide +kernel
theorem dX9_oath_30 : decode cX9_oath 30 = .ok (.iand, 1) := by decide +kernel
theorem dX9_oath_31 : decode cX9_oath 31 = .ok (.istore_n 3, 1) := by decide +kernel
theorem dX9_oath_32 : decode cX9_oath 32 = .ok (.aload_n 0, 1) := by decide +kernel
theorem dX9_oath_33 : decode cX9_oath 33 = .ok (.getfield 10, 3) := by decide +kernel
theorem dX9_oath_36 : decode cX9_oath 36 = .ok (.aload_n 0, 1) := by decide +kernel
theorem dX9_oath_37 : decode cX9_oath 37 = .ok (.getfield 10, 3) := by decide +kernel
theorem dX9_oath_40 : decode cX9_oath 40 = .ok (.getfield 117, 3) := by decide +kernel
theorem dX9_oath_43 : decode cX9_oath 43 = .ok (.iconst 1, 1) := by decide +kernel
theorem dX9_oath_44 : decode cX9_oath 44 = .ok (.iload_n 1, 1) := by decide +kernel
theorem dX9_oath_45 : decode cX9_oath 45 = .ok (.ishl, 1) := by decide +kernel
theorem dX9_oath_46 : decode cX9_oath 46 = .ok (.iconst (-1), 1) := by decide +kernel
theorem dX9_oath_47 : decode cX9_oath 47 = .ok (.ixor, 1) := by decide +kernel
theorem dX9_oath_48 : decode cX9_oath 48 = .ok (.iand, 1) := by decide +kernel
theorem dX9_oath_49 : decode cX9_oath 49 = .ok (.iload_n 2, 1) := by decide +kernel
theorem dX9_oath_50 : decode cX9_oath 50 = .ok (.iload_n 1, 1) := by decide +kernel
theorem dX9_oath_51 : decode cX9_oath 51 = .ok (.ishl, 1) := by decide +kernel
theorem dX9_oath_52 : decode cX9_oath 52 = .ok (.ior, 1) := by decide +kernel
theorem dX9_oath_53 : decode cX9_oath 53 = .ok (.putfield 117, 3) := by decide +kernel
theorem dX9_oath_56 : decode cX9_oath 56 = .ok (.iload_n 3, 1) := by decide +kernel
theorem dX9_oath_57 : decode cX9_oath 57 = .ok (.ireturn, 1) := by decide +kernel
theorem dX9_type_0 : decode cX9_type 0 = .ok (.iload_n 1, 1) := by decide +kernel
theorem dX9_type_1 : decode cX9_type 1 = .ok (.bipush 32, 2) := by decide +kernel
theorem dX9_type_3 : decode cX9_type 3 = .ok (.bipush 126, 2) := by decide +kernel
theorem dX9_type_5 : decode cX9_type 5 = .ok (.invokestatic 40, 3) := by decide +kernel
theorem dX9_type_8 : decode cX9_type 8 = .ok (.ifCond .ne 5, 3) := by decide +kernel
theorem dX9_type_11 : decode cX9_type 11 = .ok (.iconst (-1), 1) := by decide +kernel
theorem dX9_type_12 : decode cX9_type 12 = .ok (.ireturn, 1) := by decide +kernel
theorem dX9_type_13 : decode cX9_type 13 = .ok (.aload_n 0, 1) := by decide +kernel
theorem dX9_type_14 : decode cX9_type 14 = .ok (.getfield 22, 3) := by decide +kernel
theorem dX9_type_17 : decode cX9_type 17 = .ok (.getfield 120, 3) := by decide +kernel
theorem dX9_type_20 : decode cX9_type 20 = .ok (.bipush 60, 2) := by decide +kernel
theorem dX9_type_22 : decode cX9_type 22 = .ok (.if_icmp .lt 6, 3) := by decide +kernel
theorem dX9_type_25 : decode cX9_type 25 = .ok (.bipush (-3), 2) := by decide +kernel
theorem dX9_type_27 : decode cX9_type 27 = .ok (.ireturn, 1) := by decide +kernel
theorem dX9_type_28 : decode cX9_type 28 = .ok (.aload_n 0, 1) := by decide +kernel
theorem dX9_type_29 : decode cX9_type 29 = .ok (.getfield 22, 3) := by decide +kernel
theorem dX9_type_32 : decode cX9_type 32 = .ok (.iload_n 1, 1) := by decide +kernel
theorem dX9_type_33 : decode cX9_type 33 = .ok (.i2c, 1) := by decide +kernel
theorem dX9_type_34 : decode cX9_type 34 = .ok (.invokevirtual 123, 3) := by decide +kernel
theorem dX9_type_37 : decode cX9_type 37 = .ok (.aload_n 0, 1) := by decide +kernel
theorem dX9_type_38 : decode cX9_type 38 = .ok (.getfield 22, 3) := by decide +kernel
theorem dX9_type_41 : decode cX9_type 41 = .ok (.getfield 120, 3) := by decide +kernel
theorem dX9_type_44 : decode cX9_type 44 = .ok (.ireturn, 1) := by decide +kernel
theorem dX9_bargain_0 : decode cX9_bargain 0 = .ok (.aload_n 0, 1) := by decide +kernel
theorem dX9_bargain_1 : decode cX9_bargain 1 = .ok (.getfield 22, 3) := by decide +kernel
theorem dX9_bargain_4 : decode cX9_bargain 4 = .ok (.invokevirtual 127, 3) := by decide +kernel
theorem dX9_bargain_7 : decode cX9_bargain 7 = .ok (.istore_n 1, 1) := by decide +kernel
theorem dX9_bargain_8 : decode cX9_bargain 8 = .ok (.aload_n 0, 1) := by decide +kernel
theorem dX9_bargain_9 : decode cX9_bargain 9 = .ok (.getfield 22, 3) := by decide +kernel
theorem dX9_bargain_12 : decode cX9_bargain 12 = .ok (.iconst 0, 1) := by decide +kernel
theorem dX9_bargain_13 : decode cX9_bargain 13 = .ok (.putfield 120, 3) := by decide +kernel
theorem dX9_bargain_16 : decode cX9_bargain 16 = .ok (.iload_n 1, 1) := by decide +kernel
theorem dX9_bargain_17 : decode cX9_bargain 17 = .ok (.ifCond .ne 14, 3) := by decide +kernel
theorem dX9_bargain_20 : decode cX9_bargain 20 = .ok (.bipush (-20), 2) := by decide +kernel
theorem dX9_bargain_22 : decode cX9_bargain 22 = .ok (.aload_n 0, 1) := by decide +kernel
theorem dX9_bargain_23 : decode cX9_bargain 23 = .ok (.getfield 22, 3) := by decide +kernel
theorem dX9_bargain_26 : decode cX9_bargain 26 = .ok (.getfield 131, 3) := by decide +kernel
theorem dX9_bargain_29 : decode cX9_bargain 29 = .ok (.isub, 1) := by decide +kernel
theorem dX9_bargain_30 : decode cX9_bargain 30 = .ok (.ireturn, 1) := by decide +kernel
theorem dX9_bargain_31 : decode cX9_bargain 31 = .ok (.aload_n 0, 1) := by decide +kernel
theorem dX9_bargain_32 : decode cX9_bargain 32 = .ok (.getfield 10, 3) := by decide +kernel
theorem dX9_bargain_35 : decode cX9_bargain 35 = .ok (.aload_n 0, 1) := by decide +kernel
theorem dX9_bargain_36 : decode cX9_bargain 36 = .ok (.getfield 22, 3) := by decide +kernel
theorem dX9_bargain_39 : decode cX9_bargain 39 = .ok (.invokevirtual 134, 3) := by decide +kernel
theorem dX9_bargain_42 : decode cX9_bargain 42 = .ok (.aload_n 0, 1) := by decide +kernel
theorem dX9_bargain_43 : decode cX9_bargain 43 = .ok (.getfield 10, 3) := by decide +kernel
theorem dX9_bargain_46 : decode cX9_bargain 46 = .ok (.getfield 44, 3) := by decide +kernel
theorem dX9_bargain_49 : decode cX9_bargain 49 = .ok (.ireturn, 1) := by decide +kernel
theorem dX9_count_0 : decode cX9_count 0 = .ok (.iload_n 1, 1) := by decide +kernel
theorem dX9_count_1 : decode cX9_count 1 = .ok (.tableswitch 171 0 12 #[67, 75, 83, 91, 99, 107, 115, 123, 131, 139, 147, 155, 163], 67) := by decide +kernel
theorem dX9_count_68 : decode cX9_count 68 = .ok (.aload_n 0, 1) := by decide +kernel
theorem dX9_count_69 : decode cX9_count 69 = .ok (.getfield 10, 3) := by decide +kernel
theorem dX9_count_72 : decode cX9_count 72 = .ok (.getfield 44, 3) := by decide +kernel
theorem dX9_count_75 : decode cX9_count 75 = .ok (.ireturn, 1) := by decide +kernel
theorem dX9_count_76 : decode cX9_count 76 = .ok (.aload_n 0, 1) := by decide +kernel
theorem dX9_count_77 : decode cX9_count 77 = .ok (.getfield 10, 3) := by decide +kernel
theorem dX9_count_80 : decode cX9_count 80 = .ok (.getfield 110, 3) := by decide +kernel
theorem dX9_count_83 : decode cX9_count 83 = .ok (.ireturn, 1) := by decide +kernel
theorem dX9_count_84 : decode cX9_count 84 = .ok (.aload_n 0, 1) := by decide +kernel
theorem dX9_count_85 : decode cX9_count 85 = .ok (.getfield 10, 3) := by decide +kernel
theorem dX9_count_88 : decode cX9_count 88 = .ok (.getfield 95, 3) := by decide +kernel
theorem dX9_count_91 : decode cX9_count 91 = .ok (.ireturn, 1) := by decide +kernel
theorem dX9_count_92 : decode cX9_count 92 = .ok (.aload_n 0, 1) := by decide +kernel
theorem dX9_count_93 : decode cX9_count 93 = .ok (.getfield 10, 3) := by decide +kernel
theorem dX9_count_96 : decode cX9_count 96 = .ok (.getfield 101, 3) := by decide +kernel
theorem dX9_count_99 : decode cX9_count 99 = .ok (.ireturn, 1) := by decide +kernel
theorem dX9_count_100 : decode cX9_count 100 = .ok (.aload_n 0, 1) := by decide +kernel
theorem dX9_count_101 : decode cX9_count 101 = .ok (.getfield 10, 3) := by decide +kernel
theorem dX9_count_104 : decode cX9_count 104 = .ok (.getfield 107, 3) := by decide +kernel
theorem dX9_count_107 : decode cX9_count 107 = .ok (.ireturn, 1) := by decide +kernel
theorem dX9_count_108 : decode cX9_count 108 = .ok (.aload_n 0, 1) := by decide +kernel
theorem dX9_count_109 : decode cX9_count 109 = .ok (.getfield 10, 3) := by decide +kernel
theorem dX9_count_112 : decode cX9_count 112 = .ok (.getfield 104, 3) := by decide +kernel
theorem dX9_count_115 : decode cX9_count 115 = .ok (.ireturn, 1) := by decide +kernel
theorem dX9_count_116 : decode cX9_count 116 = .ok (.aload_n 0, 1) := by decide +kernel
theorem dX9_count_117 : decode cX9_count 117 = .ok (.getfield 10, 3) := by decide +kernel
theorem dX9_count_120 : decode cX9_count 120 = .ok (.getfield 98, 3) := by decide +kernel
theorem dX9_count_123 : decode cX9_count 123 = .ok (.ireturn, 1) := by decide +kernel
theorem dX9_count_124 : decode cX9_count 124 = .ok (.aload_n 0, 1) := by decide +kernel
theorem dX9_count_125 : decode cX9_count 125 = .ok (.getfield 10, 3) := by decide +kernel
theorem dX9_count_128 : decode cX9_count 128 = .ok (.getfield 71, 3) := by decide +kernel
theorem dX9_count_131 : decode cX9_count 131 = .ok (.ireturn, 1) := by decide +kernel
theorem dX9_count_132 : decode cX9_count 132 = .ok (.aload_n 0, 1) := by decide +kernel
theorem dX9_count_133 : decode cX9_count 133 = .ok (.getfield 10, 3) := by decide +kernel
theorem dX9_count_136 : decode cX9_count 136 = .ok (.getfield 138, 3) := by decide +kernel
theorem dX9_count_139 : decode cX9_count 139 = .ok (.ireturn, 1) := by decide +kernel
theorem dX9_count_140 : decode cX9_count 140 = .ok (.aload_n 0, 1) := by decide +kernel
theorem dX9_count_141 : decode cX9_count 141 = .ok (.getfield 10, 3) := by decide +kernel
theorem dX9_count_144 : decode cX9_count 144 = .ok (.invokevirtual 141, 3) := by decide +kernel
theorem dX9_count_147 : decode cX9_count 147 = .ok (.ireturn, 1) := by decide +kernel
theorem dX9_count_148 : decode cX9_count 148 = .ok (.aload_n 0, 1) := by decide +kernel
theorem dX9_count_149 : decode cX9_count 149 = .ok (.getfield 10, 3) := by decide +kernel
theorem dX9_count_152 : decode cX9_count 152 = .ok (.getfield 144, 3) := by decide +kernel
theorem dX9_count_155 : decode cX9_count 155 = .ok (.ireturn, 1) := by decide +kernel
theorem dX9_count_156 : decode cX9_count 156 = .ok (.aload_n 0, 1) := by decide +kernel
theorem dX9_count_157 : decode cX9_count 157 = .ok (.getfield 10, 3) := by decide +kernel
theorem dX9_count_160 : decode cX9_count 160 = .ok (.getfield 117, 3) := by decide +kernel
theorem dX9_count_163 : decode cX9_count 163 = .ok (.ireturn, 1) := by decide +kernel
theorem dX9_count_164 : decode cX9_count 164 = .ok (.aload_n 0, 1) := by decide +kernel
theorem dX9_count_165 : decode cX9_count 165 = .ok (.getfield 10, 3) := by decide +kernel
theorem dX9_count_168 : decode cX9_count 168 = .ok (.getfield 52, 3) := by decide +kernel
theorem dX9_count_171 : decode cX9_count 171 = .ok (.ireturn, 1) := by decide +kernel
theorem dX9_count_172 : decode cX9_count 172 = .ok (.iconst (-1), 1) := by decide +kernel
theorem dX9_count_173 : decode cX9_count 173 = .ok (.ireturn, 1) := by decide +kernel
theorem dX9_day_0 : decode cX9_day 0 = .ok (.iload_n 1, 1) := by decide +kernel
theorem dX9_day_1 : decode cX9_day 1 = .ok (.iconst 0, 1) := by decide +kernel
theorem dX9_day_2 : decode cX9_day 2 = .ok (.iconst 2, 1) := by decide +kernel
theorem dX9_day_3 : decode cX9_day 3 = .ok (.invokestatic 40, 3) := by decide +kernel
theorem dX9_day_6 : decode cX9_day 6 = .ok (.ifCond .ne 5, 3) := by decide +kernel
theorem dX9_day_9 : decode cX9_day 9 = .ok (.iconst (-1), 1) := by decide +kernel
theorem dX9_day_10 : decode cX9_day 10 = .ok (.ireturn, 1) := by decide +kernel
theorem dX9_day_11 : decode cX9_day 11 = .ok (.aload_n 0, 1) := by decide +kernel
theorem dX9_day_12 : decode cX9_day 12 = .ok (.getfield 10, 3) := by decide +kernel
theorem dX9_day_15 : decode cX9_day 15 = .ok (.invokevirtual 147, 3) := by decide +kernel
theorem dX9_day_18 : decode cX9_day 18 = .ok (.ifCond .eq 6, 3) := by decide +kernel
theorem dX9_day_21 : decode cX9_day 21 = .ok (.bipush (-3), 2) := by decide +kernel
theorem dX9_day_23 : decode cX9_day 23 = .ok (.ireturn, 1) := by decide +kernel
theorem dX9_day_24 : decode cX9_day 24 = .ok (.aload_n 0, 1) := by decide +kernel
theorem dX9_day_25 : decode cX9_day 25 = .ok (.getfield 10, 3) := by decide +kernel
theorem dX9_day_28 : decode cX9_day 28 = .ok (.invokevirtual 150, 3) := by decide +kernel
theorem dX9_day_31 : decode cX9_day 31 = .ok (.aload_n 0, 1) := by decide +kernel
theorem dX9_day_32 : decode cX9_day 32 = .ok (.getfield 10, 3) := by decide +kernel
theorem dX9_day_35 : decode cX9_day 35 = .ok (.iload_n 1, 1) := by decide +kernel
theorem dX9_day_36 : decode cX9_day 36 = .ok (.invokevirtual 153, 3) := by decide +kernel
theorem dX9_day_39 : decode cX9_day 39 = .ok (.ireturn, 1) := by decide +kernel
theorem dX9_use_0 : decode cX9_use 0 = .ok (.iload_n 1, 1) := by decide +kernel
theorem dX9_use_1 : decode cX9_use 1 = .ok (.iconst 0, 1) := by decide +kernel
theorem dX9_use_2 : decode cX9_use 2 = .ok (.aload_n 0, 1) := by decide +kernel
theorem dX9_use_3 : decode cX9_use 3 = .ok (.getfield 10, 3) := by decide +kernel
theorem dX9_use_6 : decode cX9_use 6 = .ok (.getfield 110, 3) := by decide +kernel
theorem dX9_use_9 : decode cX9_use 9 = .ok (.iconst 1, 1) := by decide +kernel
theorem dX9_use_10 : decode cX9_use 10 = .ok (.isub, 1) := by decide +kernel
theorem dX9_use_11 : decode cX9_use 11 = .ok (.invokestatic 40, 3) := by decide +kernel
theorem dX9_use_14 : decode cX9_use 14 = .ok (.ifCond .ne 5, 3) := by decide +kernel
theorem dX9_use_17 : decode cX9_use 17 = .ok (.iconst (-1), 1) := by decide +kernel
theorem dX9_use_18 : decode cX9_use 18 = .ok (.ireturn, 1) := by decide +kernel
theorem dX9_use_19 : decode cX9_use 19 = .ok (.aload_n 0, 1) := by decide +kernel
theorem dX9_use_20 : decode cX9_use 20 = .ok (.getfield 10, 3) := by decide +kernel
theorem dX9_use_23 : decode cX9_use 23 = .ok (.iload_n 1, 1) := by decide +kernel
theorem dX9_use_24 : decode cX9_use 24 = .ok (.invokevirtual 156, 3) := by decide +kernel
theorem dX9_use_27 : decode cX9_use 27 = .ok (.ifCond .eq 6, 3) := by decide +kernel
theorem dX9_use_30 : decode cX9_use 30 = .ok (.bipush (-2), 2) := by decide +kernel
theorem dX9_use_32 : decode cX9_use 32 = .ok (.ireturn, 1) := by decide +kernel
theorem dX9_use_33 : decode cX9_use 33 = .ok (.aload_n 0, 1) := by decide +kernel
theorem dX9_use_34 : decode cX9_use 34 = .ok (.getfield 10, 3) := by decide +kernel
theorem dX9_use_37 : decode cX9_use 37 = .ok (.invokevirtual 147, 3) := by decide +kernel
theorem dX9_use_40 : decode cX9_use 40 = .ok (.ifCond .eq 6, 3) := by decide +kernel
theorem dX9_use_43 : decode cX9_use 43 = .ok (.bipush (-3), 2) := by decide +kernel
theorem dX9_use_45 : decode cX9_use 45 = .ok (.ireturn, 1) := by decide +kernel
theorem dX9_use_46 : decode cX9_use 46 = .ok (.aload_n 0, 1) := by decide +kernel
theorem dX9_use_47 : decode cX9_use 47 = .ok (.getfield 10, 3) := by decide +kernel
theorem dX9_use_50 : decode cX9_use 50 = .ok (.invokevirtual 150, 3) := by decide +kernel
theorem dX9_use_53 : decode cX9_use 53 = .ok (.aload_n 0, 1) := by decide +kernel
theorem dX9_use_54 : decode cX9_use 54 = .ok (.getfield 10, 3) := by decide +kernel
theorem dX9_use_57 : decode cX9_use 57 = .ok (.iload_n 1, 1) := by decide +kernel
theorem dX9_use_58 : decode cX9_use 58 = .ok (.invokevirtual 160, 3) := by decide +kernel
theorem dX9_use_61 : decode cX9_use 61 = .ok (.aload_n 0, 1) := by decide +kernel
theorem dX9_use_62 : decode cX9_use 62 = .ok (.getfield 10, 3) := by decide +kernel
theorem dX9_use_65 : decode cX9_use 65 = .ok (.invokevirtual 141, 3) := by decide +kernel
theorem dX9_use_68 : decode cX9_use 68 = .ok (.ireturn, 1) := by decide +kernel
theorem dX9_drift_0 : decode cX9_drift 0 = .ok (.iload_n 1, 1) := by decide +kernel
theorem dX9_drift_1 : decode cX9_drift 1 = .ok (.iconst 1, 1) := by decide +kernel
theorem dX9_drift_2 : decode cX9_drift 2 = .ok (.bipush 40, 2) := by decide +kernel
theorem dX9_drift_4 : decode cX9_drift 4 = .ok (.invokestatic 40, 3) := by decide +kernel
theorem dX9_drift_7 : decode cX9_drift 7 = .ok (.ifCond .ne 5, 3) := by decide +kernel
theorem dX9_drift_10 : decode cX9_drift 10 = .ok (.iconst (-1), 1) := by decide +kernel
theorem dX9_drift_11 : decode cX9_drift 11 = .ok (.ireturn, 1) := by decide +kernel
theorem dX9_drift_12 : decode cX9_drift 12 = .ok (.aload_n 0, 1) := by decide +kernel
theorem dX9_drift_13 : decode cX9_drift 13 = .ok (.getfield 10, 3) := by decide +kernel
theorem dX9_drift_16 : decode cX9_drift 16 = .ok (.invokevirtual 147, 3) := by decide +kernel
theorem dX9_drift_19 : decode cX9_drift 19 = .ok (.ifCond .eq 6, 3) := by decide +kernel
theorem dX9_drift_22 : decode cX9_drift 22 = .ok (.bipush (-3), 2) := by decide +kernel
theorem dX9_drift_24 : decode cX9_drift 24 = .ok (.ireturn, 1) := by decide +kernel
theorem dX9_drift_25 : decode cX9_drift 25 = .ok (.iconst 0, 1) := by decide +kernel
theorem dX9_drift_26 : decode cX9_drift 26 = .ok (.istore_n 2, 1) := by decide +kernel
theorem dX9_drift_27 : decode cX9_drift 27 = .ok (.iconst 0, 1) := by decide +kernel
theorem dX9_drift_28 : decode cX9_drift 28 = .ok (.istore_n 3, 1) := by decide +kernel
theorem dX9_drift_29 : decode cX9_drift 29 = .ok (.iload_n 3, 1) := by decide +kernel
theorem dX9_drift_30 : decode cX9_drift 30 = .ok (.iload_n 1, 1) := by decide +kernel
theorem dX9_drift_31 : decode cX9_drift 31 = .ok (.if_icmp .ge 43, 3) := by decide +kernel
theorem dX9_drift_34 : decode cX9_drift 34 = .ok (.aload_n 0, 1) := by decide +kernel
theorem dX9_drift_35 : decode cX9_drift 35 = .ok (.getfield 10, 3) := by decide +kernel
theorem dX9_drift_38 : decode cX9_drift 38 = .ok (.invokevirtual 147, 3) := by decide +kernel
theorem dX9_drift_41 : decode cX9_drift 41 = .ok (.ifCond .ne 33, 3) := by decide +kernel
theorem dX9_drift_44 : decode cX9_drift 44 = .ok (.aload_n 0, 1) := by decide +kernel
theorem dX9_drift_45 : decode cX9_drift 45 = .ok (.getfield 10, 3) := by decide +kernel
theorem dX9_drift_48 : decode cX9_drift 48 = .ok (.invokevirtual 150, 3) := by decide +kernel
theorem dX9_drift_51 : decode cX9_drift 51 = .ok (.iload_n 2, 1) := by decide +kernel
theorem dX9_drift_52 : decode cX9_drift 52 = .ok (.aload_n 0, 1) := by decide +kernel
theorem dX9_drift_53 : decode cX9_drift 53 = .ok (.getfield 10, 3) := by decide +kernel
theorem dX9_drift_56 : decode cX9_drift 56 = .ok (.aload_n 0, 1) := by decide +kernel
theorem dX9_drift_57 : decode cX9_drift 57 = .ok (.getfield 10, 3) := by decide +kernel
theorem dX9_drift_60 : decode cX9_drift 60 = .ok (.invokevirtual 164, 3) := by decide +kernel
theorem dX9_drift_63 : decode cX9_drift 63 = .ok (.invokevirtual 153, 3) := by decide +kernel
theorem dX9_drift_66 : decode cX9_drift 66 = .ok (.iadd, 1) := by decide +kernel
theorem dX9_drift_67 : decode cX9_drift 67 = .ok (.istore_n 2, 1) := by decide +kernel
theorem dX9_drift_68 : decode cX9_drift 68 = .ok (.iinc 3 1, 3) := by decide +kernel
theorem dX9_drift_71 : decode cX9_drift 71 = .ok (.goto (-42), 3) := by decide +kernel
theorem dX9_drift_74 : decode cX9_drift 74 = .ok (.iload_n 2, 1) := by decide +kernel
theorem dX9_drift_75 : decode cX9_drift 75 = .ok (.ireturn, 1) := by decide +kernel
theorem dX9_undo_0 : decode cX9_undo 0 = .ok (.aload_n 0, 1) := by decide +kernel
theorem dX9_undo_1 : decode cX9_undo 1 = .ok (.getfield 10, 3) := by decide +kernel
theorem dX9_undo_4 : decode cX9_undo 4 = .ok (.getfield 52, 3) := by decide +kernel
theorem dX9_undo_7 : decode cX9_undo 7 = .ok (.ifCond .gt 6, 3) := by decide +kernel
theorem dX9_undo_10 : decode cX9_undo 10 = .ok (.bipush (-4), 2) := by decide +kernel
theorem dX9_undo_12 : decode cX9_undo 12 = .ok (.ireturn, 1) := by decide +kernel
theorem dX9_undo_13 : decode cX9_undo 13 = .ok (.aload_n 0, 1) := by decide +kernel
theorem dX9_undo_14 : decode cX9_undo 14 = .ok (.getfield 10, 3) := by decide +kernel
theorem dX9_undo_17 : decode cX9_undo 17 = .ok (.invokevirtual 167, 3) := by decide +kernel
theorem dX9_undo_20 : decode cX9_undo 20 = .ok (.aload_n 0, 1) := by decide +kernel
theorem dX9_undo_21 : decode cX9_undo 21 = .ok (.getfield 10, 3) := by decide +kernel
theorem dX9_undo_24 : decode cX9_undo 24 = .ok (.getfield 52, 3) := by decide +kernel
theorem dX9_undo_27 : decode cX9_undo 27 = .ok (.ireturn, 1) := by decide +kernel
theorem dX9_seed_0 : decode cX9_seed 0 = .ok (.iload_n 1, 1) := by decide +kernel
theorem dX9_seed_1 : decode cX9_seed 1 = .ok (.ifCond .ge 5, 3) := by decide +kernel
theorem dX9_seed_4 : decode cX9_seed 4 = .ok (.iconst (-1), 1) := by decide +kernel
theorem dX9_seed_5 : decode cX9_seed 5 = .ok (.ireturn, 1) := by decide +kernel
theorem dX9_seed_6 : decode cX9_seed 6 = .ok (.aload_n 0, 1) := by decide +kernel
theorem dX9_seed_7 : decode cX9_seed 7 = .ok (.getfield 10, 3) := by decide +kernel
theorem dX9_seed_10 : decode cX9_seed 10 = .ok (.getfield 170, 3) := by decide +kernel
theorem dX9_seed_13 : decode cX9_seed 13 = .ok (.istore_n 2, 1) := by decide +kernel
theorem dX9_seed_14 : decode cX9_seed 14 = .ok (.aload_n 0, 1) := by decide +kernel
theorem dX9_seed_15 : decode cX9_seed 15 = .ok (.getfield 10, 3) := by decide +kernel
theorem dX9_seed_18 : decode cX9_seed 18 = .ok (.iload_n 1, 1) := by decide +kernel
theorem dX9_seed_19 : decode cX9_seed 19 = .ok (.putfield 170, 3) := by decide +kernel
theorem dX9_seed_22 : decode cX9_seed 22 = .ok (.iload_n 2, 1) := by decide +kernel
theorem dX9_seed_23 : decode cX9_seed 23 = .ok (.ireturn, 1) := by decide +kernel
theorem dX9_odds_0 : decode cX9_odds 0 = .ok (.aload_n 0, 1) := by decide +kernel
theorem dX9_odds_1 : decode cX9_odds 1 = .ok (.getfield 29, 3) := by decide +kernel
theorem dX9_odds_4 : decode cX9_odds 4 = .ok (.aload_n 0, 1) := by decide +kernel
theorem dX9_odds_5 : decode cX9_odds 5 = .ok (.getfield 10, 3) := by decide +kernel
theorem dX9_odds_8 : decode cX9_odds 8 = .ok (.iconst (-1), 1) := by decide +kernel
theorem dX9_odds_9 : decode cX9_odds 9 = .ok (.iconst 0, 1) := by decide +kernel
theorem dX9_odds_10 : decode cX9_odds 10 = .ok (.invokevirtual 173, 3) := by decide +kernel
theorem dX9_odds_13 : decode cX9_odds 13 = .ok (.ireturn, 1) := by decide +kernel
theorem dX9_oddsAt_0 : decode cX9_oddsAt 0 = .ok (.iload_n 1, 1) := by decide +kernel
theorem dX9_oddsAt_1 : decode cX9_oddsAt 1 = .ok (.iconst 0, 1) := by decide +kernel
theorem dX9_oddsAt_2 : decode cX9_oddsAt 2 = .ok (.aload_n 0, 1) := by decide +kernel
theorem dX9_oddsAt_3 : decode cX9_oddsAt 3 = .ok (.getfield 10, 3) := by decide +kernel
theorem dX9_oddsAt_6 : decode cX9_oddsAt 6 = .ok (.getfield 101, 3) := by decide +kernel
theorem dX9_oddsAt_9 : decode cX9_oddsAt 9 = .ok (.invokestatic 40, 3) := by decide +kernel
theorem dX9_oddsAt_12 : decode cX9_oddsAt 12 = .ok (.ifCond .eq 18, 3) := by decide +kernel
theorem dX9_oddsAt_15 : decode cX9_oddsAt 15 = .ok (.iload_n 2, 1) := by decide +kernel
theorem dX9_oddsAt_16 : decode cX9_oddsAt 16 = .ok (.iconst 0, 1) := by decide +kernel
theorem dX9_oddsAt_17 : decode cX9_oddsAt 17 = .ok (.aload_n 0, 1) := by decide +kernel
theorem dX9_oddsAt_18 : decode cX9_oddsAt 18 = .ok (.getfield 10, 3) := by decide +kernel
theorem dX9_oddsAt_21 : decode cX9_oddsAt 21 = .ok (.getfield 95, 3) := by decide +kernel
theorem dX9_oddsAt_24 : decode cX9_oddsAt 24 = .ok (.invokestatic 40, 3) := by decide +kernel
theorem dX9_oddsAt_27 : decode cX9_oddsAt 27 = .ok (.ifCond .ne 5, 3) := by decide +kernel
theorem dX9_oddsAt_30 : decode cX9_oddsAt 30 = .ok (.iconst (-1), 1) := by decide +kernel
theorem dX9_oddsAt_31 : decode cX9_oddsAt 31 = .ok (.ireturn, 1) := by decide +kernel
theorem dX9_oddsAt_32 : decode cX9_oddsAt 32 = .ok (.aload_n 0, 1) := by decide +kernel
theorem dX9_oddsAt_33 : decode cX9_oddsAt 33 = .ok (.getfield 29, 3) := by decide +kernel
theorem dX9_oddsAt_36 : decode cX9_oddsAt 36 = .ok (.aload_n 0, 1) := by decide +kernel
theorem dX9_oddsAt_37 : decode cX9_oddsAt 37 = .ok (.getfield 10, 3) := by decide +kernel
theorem dX9_oddsAt_40 : decode cX9_oddsAt 40 = .ok (.iload_n 1, 1) := by decide +kernel
theorem dX9_oddsAt_41 : decode cX9_oddsAt 41 = .ok (.iload_n 2, 1) := by decide +kernel
theorem dX9_oddsAt_42 : decode cX9_oddsAt 42 = .ok (.invokevirtual 177, 3) := by decide +kernel
theorem dX9_oddsAt_45 : decode cX9_oddsAt 45 = .ok (.ireturn, 1) := by decide +kernel
theorem dX9_sure_0 : decode cX9_sure 0 = .ok (.iload_n 1, 1) := by decide +kernel
theorem dX9_sure_1 : decode cX9_sure 1 = .ok (.iconst 0, 1) := by decide +kernel
theorem dX9_sure_2 : decode cX9_sure 2 = .ok (.ldc 180, 2) := by decide +kernel
theorem dX9_sure_4 : decode cX9_sure 4 = .ok (.invokestatic 40, 3) := by decide +kernel
theorem dX9_sure_7 : decode cX9_sure 7 = .ok (.ifCond .ne 5, 3) := by decide +kernel
theorem dX9_sure_10 : decode cX9_sure 10 = .ok (.iconst (-1), 1) := by decide +kernel
theorem dX9_sure_11 : decode cX9_sure 11 = .ok (.ireturn, 1) := by decide +kernel
theorem dX9_sure_12 : decode cX9_sure 12 = .ok (.aload_n 0, 1) := by decide +kernel
theorem dX9_sure_13 : decode cX9_sure 13 = .ok (.getfield 29, 3) := by decide +kernel
theorem dX9_sure_16 : decode cX9_sure 16 = .ok (.aload_n 0, 1) := by decide +kernel
theorem dX9_sure_17 : decode cX9_sure 17 = .ok (.getfield 10, 3) := by decide +kernel
theorem dX9_sure_20 : decode cX9_sure 20 = .ok (.iload_n 1, 1) := by decide +kernel
theorem dX9_sure_21 : decode cX9_sure 21 = .ok (.invokevirtual 181, 3) := by decide +kernel
theorem dX9_sure_24 : decode cX9_sure 24 = .ok (.ireturn, 1) := by decide +kernel
theorem dX9_pace_0 : decode cX9_pace 0 = .ok (.iload_n 1, 1) := by decide +kernel
theorem dX9_pace_1 : decode cX9_pace 1 = .ok (.iconst 0, 1) := by decide +kernel
theorem dX9_pace_2 : decode cX9_pace 2 = .ok (.aload_n 0, 1) := by decide +kernel
theorem dX9_pace_3 : decode cX9_pace 3 = .ok (.getfield 10, 3) := by decide +kernel
theorem dX9_pace_6 : decode cX9_pace 6 = .ok (.getfield 44, 3) := by decide +kernel
theorem dX9_pace_9 : decode cX9_pace 9 = .ok (.iconst 1, 1) := by decide +kernel
theorem dX9_pace_10 : decode cX9_pace 10 = .ok (.isub, 1) := by decide +kernel
theorem dX9_pace_11 : decode cX9_pace 11 = .ok (.invokestatic 40, 3) := by decide +kernel
theorem dX9_pace_14 : decode cX9_pace 14 = .ok (.ifCond .eq 13, 3) := by decide +kernel
theorem dX9_pace_17 : decode cX9_pace 17 = .ok (.iload_n 2, 1) := by decide +kernel
theorem dX9_pace_18 : decode cX9_pace 18 = .ok (.iconst 0, 1) := by decide +kernel
theorem dX9_pace_19 : decode cX9_pace 19 = .ok (.ldc 180, 2) := by decide +kernel
theorem dX9_pace_21 : decode cX9_pace 21 = .ok (.invokestatic 40, 3) := by decide +kernel
theorem dX9_pace_24 : decode cX9_pace 24 = .ok (.ifCond .ne 5, 3) := by decide +kernel
theorem dX9_pace_27 : decode cX9_pace 27 = .ok (.iconst (-1), 1) := by decide +kernel
theorem dX9_pace_28 : decode cX9_pace 28 = .ok (.ireturn, 1) := by decide +kernel
theorem dX9_pace_29 : decode cX9_pace 29 = .ok (.iconst 0, 1) := by decide +kernel
theorem dX9_pace_30 : decode cX9_pace 30 = .ok (.istore_n 3, 1) := by decide +kernel
theorem dX9_pace_31 : decode cX9_pace 31 = .ok (.bipush 16, 2) := by decide +kernel
theorem dX9_pace_33 : decode cX9_pace 33 = .ok (.istore 4, 2) := by decide +kernel
theorem dX9_pace_35 : decode cX9_pace 35 = .ok (.iload 4, 2) := by decide +kernel
theorem dX9_pace_37 : decode cX9_pace 37 = .ok (.ifCond .le 50, 3) := by decide +kernel
theorem dX9_pace_40 : decode cX9_pace 40 = .ok (.iload_n 3, 1) := by decide +kernel
theorem dX9_pace_41 : decode cX9_pace 41 = .ok (.iload 4, 2) := by decide +kernel
theorem dX9_pace_43 : decode cX9_pace 43 = .ok (.iadd, 1) := by decide +kernel
theorem dX9_pace_44 : decode cX9_pace 44 = .ok (.iconst 1, 1) := by decide +kernel
theorem dX9_pace_45 : decode cX9_pace 45 = .ok (.isub, 1) := by decide +kernel
theorem dX9_pace_46 : decode cX9_pace 46 = .ok (.istore 5, 2) := by decide +kernel
theorem dX9_pace_48 : decode cX9_pace 48 = .ok (.iload 5, 2) := by decide +kernel
theorem dX9_pace_50 : decode cX9_pace 50 = .ok (.bipush 20, 2) := by decide +kernel
theorem dX9_pace_52 : decode cX9_pace 52 = .ok (.if_icmp .gt 26, 3) := by decide +kernel
theorem dX9_pace_55 : decode cX9_pace 55 = .ok (.aload_n 0, 1) := by decide +kernel
theorem dX9_pace_56 : decode cX9_pace 56 = .ok (.getfield 29, 3) := by decide +kernel
theorem dX9_pace_59 : decode cX9_pace 59 = .ok (.aload_n 0, 1) := by decide +kernel
theorem dX9_pace_60 : decode cX9_pace 60 = .ok (.getfield 10, 3) := by decide +kernel
theorem dX9_pace_63 : decode cX9_pace 63 = .ok (.iload_n 1, 1) := by decide +kernel
theorem dX9_pace_64 : decode cX9_pace 64 = .ok (.iload 5, 2) := by decide +kernel
theorem dX9_pace_66 : decode cX9_pace 66 = .ok (.invokevirtual 173, 3) := by decide +kernel
theorem dX9_pace_69 : decode cX9_pace 69 = .ok (.iload_n 2, 1) := by decide +kernel
theorem dX9_pace_70 : decode cX9_pace 70 = .ok (.if_icmp .ge 8, 3) := by decide +kernel
theorem dX9_pace_73 : decode cX9_pace 73 = .ok (.iload_n 3, 1) := by decide +kernel
theorem dX9_pace_74 : decode cX9_pace 74 = .ok (.iload 4, 2) := by decide +kernel
theorem dX9_pace_76 : decode cX9_pace 76 = .ok (.iadd, 1) := by decide +kernel
theorem dX9_pace_77 : decode cX9_pace 77 = .ok (.istore_n 3, 1) := by decide +kernel
theorem dX9_pace_78 : decode cX9_pace 78 = .ok (.iload 4, 2) := by decide +kernel
theorem dX9_pace_80 : decode cX9_pace 80 = .ok (.iconst 2, 1) := by decide +kernel
theorem dX9_pace_81 : decode cX9_pace 81 = .ok (.idiv, 1) := by decide +kernel
theorem dX9_pace_82 : decode cX9_pace 82 = .ok (.istore 4, 2) := by decide +kernel
theorem dX9_pace_84 : decode cX9_pace 84 = .ok (.goto (-49), 3) := by decide +kernel
theorem dX9_pace_87 : decode cX9_pace 87 = .ok (.iload_n 3, 1) := by decide +kernel
theorem dX9_pace_88 : decode cX9_pace 88 = .ok (.bipush 20, 2) := by decide +kernel
theorem dX9_pace_90 : decode cX9_pace 90 = .ok (.if_icmp .gt 7, 3) := by decide +kernel
theorem dX9_pace_93 : decode cX9_pace 93 = .ok (.iload_n 3, 1) := by decide +kernel
theorem dX9_pace_94 : decode cX9_pace 94 = .ok (.goto 5, 3) := by decide +kernel
theorem dX9_pace_97 : decode cX9_pace 97 = .ok (.bipush (-4), 2) := by decide +kernel
theorem dX9_pace_99 : decode cX9_pace 99 = .ok (.ireturn, 1) := by decide +kernel
theorem dX9_plan_0 : decode cX9_plan 0 = .ok (.iload_n 1, 1) := by decide +kernel
theorem dX9_plan_1 : decode cX9_plan 1 = .ok (.iconst 0, 1) := by decide +kernel
theorem dX9_plan_2 : decode cX9_plan 2 = .ok (.ldc 180, 2) := by decide +kernel
theorem dX9_plan_4 : decode cX9_plan 4 = .ok (.invokestatic 40, 3) := by decide +kernel
theorem dX9_plan_7 : decode cX9_plan 7 = .ok (.ifCond .eq 12, 3) := by decide +kernel
theorem dX9_plan_10 : decode cX9_plan 10 = .ok (.iload_n 2, 1) := by decide +kernel
theorem dX9_plan_11 : decode cX9_plan 11 = .ok (.iconst 0, 1) := by decide +kernel
theorem dX9_plan_12 : decode cX9_plan 12 = .ok (.iconst 1, 1) := by decide +kernel
theorem dX9_plan_13 : decode cX9_plan 13 = .ok (.invokestatic 40, 3) := by decide +kernel
theorem dX9_plan_16 : decode cX9_plan 16 = .ok (.ifCond .ne 5, 3) := by decide +kernel
theorem dX9_plan_19 : decode cX9_plan 19 = .ok (.iconst (-1), 1) := by decide +kernel
theorem dX9_plan_20 : decode cX9_plan 20 = .ok (.ireturn, 1) := by decide +kernel
theorem dX9_plan_21 : decode cX9_plan 21 = .ok (.aload_n 0, 1) := by decide +kernel
theorem dX9_plan_22 : decode cX9_plan 22 = .ok (.getfield 29, 3) := by decide +kernel
theorem dX9_plan_25 : decode cX9_plan 25 = .ok (.aload_n 0, 1) := by decide +kernel
theorem dX9_plan_26 : decode cX9_plan 26 = .ok (.getfield 10, 3) := by decide +kernel
theorem dX9_plan_29 : decode cX9_plan 29 = .ok (.iload_n 1, 1) := by decide +kernel
theorem dX9_plan_30 : decode cX9_plan 30 = .ok (.invokevirtual 185, 3) := by decide +kernel
theorem dX9_plan_33 : decode cX9_plan 33 = .ok (.istore_n 3, 1) := by decide +kernel
theorem dX9_plan_34 : decode cX9_plan 34 = .ok (.iload_n 3, 1) := by decide +kernel
theorem dX9_plan_35 : decode cX9_plan 35 = .ok (.ifCond .ge 6, 3) := by decide +kernel
theorem dX9_plan_38 : decode cX9_plan 38 = .ok (.bipush (-4), 2) := by decide +kernel
theorem dX9_plan_40 : decode cX9_plan 40 = .ok (.ireturn, 1) := by decide +kernel
theorem dX9_plan_41 : decode cX9_plan 41 = .ok (.iload_n 2, 1) := by decide +kernel
theorem dX9_plan_42 : decode cX9_plan 42 = .ok (.ifCond .ne 10, 3) := by decide +kernel
theorem dX9_plan_45 : decode cX9_plan 45 = .ok (.iload_n 3, 1) := by decide +kernel
theorem dX9_plan_46 : decode cX9_plan 46 = .ok (.invokestatic 188, 3) := by decide +kernel
theorem dX9_plan_49 : decode cX9_plan 49 = .ok (.goto 4, 3) := by decide +kernel
theorem dX9_plan_52 : decode cX9_plan 52 = .ok (.iload_n 3, 1) := by decide +kernel
theorem dX9_plan_53 : decode cX9_plan 53 = .ok (.ireturn, 1) := by decide +kernel
theorem dX9_best_0 : decode cX9_best 0 = .ok (.iload_n 1, 1) := by decide +kernel
theorem dX9_best_1 : decode cX9_best 1 = .ok (.iconst 0, 1) := by decide +kernel
theorem dX9_best_2 : decode cX9_best 2 = .ok (.aload_n 0, 1) := by decide +kernel
theorem dX9_best_3 : decode cX9_best 3 = .ok (.getfield 10, 3) := by decide +kernel
theorem dX9_best_6 : decode cX9_best 6 = .ok (.getfield 110, 3) := by decide +kernel
theorem dX9_best_9 : decode cX9_best 9 = .ok (.iconst 1, 1) := by decide +kernel
theorem dX9_best_10 : decode cX9_best 10 = .ok (.isub, 1) := by decide +kernel
theorem dX9_best_11 : decode cX9_best 11 = .ok (.invokestatic 40, 3) := by decide +kernel
theorem dX9_best_14 : decode cX9_best 14 = .ok (.ifCond .eq 12, 3) := by decide +kernel
theorem dX9_best_17 : decode cX9_best 17 = .ok (.iload_n 2, 1) := by decide +kernel
theorem dX9_best_18 : decode cX9_best 18 = .ok (.iconst 0, 1) := by decide +kernel
theorem dX9_best_19 : decode cX9_best 19 = .ok (.iconst 1, 1) := by decide +kernel
theorem dX9_best_20 : decode cX9_best 20 = .ok (.invokestatic 40, 3) := by decide +kernel
theorem dX9_best_23 : decode cX9_best 23 = .ok (.ifCond .ne 5, 3) := by decide +kernel
theorem dX9_best_26 : decode cX9_best 26 = .ok (.iconst (-1), 1) := by decide +kernel
theorem dX9_best_27 : decode cX9_best 27 = .ok (.ireturn, 1) := by decide +kernel
theorem dX9_best_28 : decode cX9_best 28 = .ok (.aload_n 0, 1) := by decide +kernel
theorem dX9_best_29 : decode cX9_best 29 = .ok (.getfield 10, 3) := by decide +kernel
theorem dX9_best_32 : decode cX9_best 32 = .ok (.iload_n 1, 1) := by decide +kernel
theorem dX9_best_33 : decode cX9_best 33 = .ok (.invokevirtual 156, 3) := by decide +kernel
theorem dX9_best_36 : decode cX9_best 36 = .ok (.ifCond .eq 6, 3) := by decide +kernel
theorem dX9_best_39 : decode cX9_best 39 = .ok (.bipush (-2), 2) := by decide +kernel
theorem dX9_best_41 : decode cX9_best 41 = .ok (.ireturn, 1) := by decide +kernel
theorem dX9_best_42 : decode cX9_best 42 = .ok (.aload_n 0, 1) := by decide +kernel
theorem dX9_best_43 : decode cX9_best 43 = .ok (.getfield 10, 3) := by decide +kernel
theorem dX9_best_46 : decode cX9_best 46 = .ok (.invokevirtual 147, 3) := by decide +kernel
theorem dX9_best_49 : decode cX9_best 49 = .ok (.ifCond .eq 6, 3) := by decide +kernel
theorem dX9_best_52 : decode cX9_best 52 = .ok (.bipush (-4), 2) := by decide +kernel
theorem dX9_best_54 : decode cX9_best 54 = .ok (.ireturn, 1) := by decide +kernel
theorem dX9_best_55 : decode cX9_best 55 = .ok (.aload_n 0, 1) := by decide +kernel
theorem dX9_best_56 : decode cX9_best 56 = .ok (.getfield 29, 3) := by decide +kernel
theorem dX9_best_59 : decode cX9_best 59 = .ok (.aload_n 0, 1) := by decide +kernel
theorem dX9_best_60 : decode cX9_best 60 = .ok (.getfield 10, 3) := by decide +kernel
theorem dX9_best_63 : decode cX9_best 63 = .ok (.aload_n 0, 1) := by decide +kernel
theorem dX9_best_64 : decode cX9_best 64 = .ok (.getfield 10, 3) := by decide +kernel
theorem dX9_best_67 : decode cX9_best 67 = .ok (.iconst 1, 1) := by decide +kernel
theorem dX9_best_68 : decode cX9_best 68 = .ok (.iload_n 1, 1) := by decide +kernel
theorem dX9_best_69 : decode cX9_best 69 = .ok (.ishl, 1) := by decide +kernel
theorem dX9_best_70 : decode cX9_best 70 = .ok (.invokevirtual 193, 3) := by decide +kernel
theorem dX9_best_73 : decode cX9_best 73 = .ok (.invokevirtual 196, 3) := by decide +kernel
theorem dX9_best_76 : decode cX9_best 76 = .ok (.iload_n 2, 1) := by decide +kernel
theorem dX9_best_77 : decode cX9_best 77 = .ok (.ifCond .ne 13, 3) := by decide +kernel
theorem dX9_best_80 : decode cX9_best 80 = .ok (.aload_n 0, 1) := by decide +kernel
theorem dX9_best_81 : decode cX9_best 81 = .ok (.getfield 29, 3) := by decide +kernel
theorem dX9_best_84 : decode cX9_best 84 = .ok (.getfield 200, 3) := by decide +kernel
theorem dX9_best_87 : decode cX9_best 87 = .ok (.goto 10, 3) := by decide +kernel
theorem dX9_best_90 : decode cX9_best 90 = .ok (.aload_n 0, 1) := by decide +kernel
theorem dX9_best_91 : decode cX9_best 91 = .ok (.getfield 29, 3) := by decide +kernel
theorem dX9_best_94 : decode cX9_best 94 = .ok (.getfield 203, 3) := by decide +kernel
theorem dX9_best_97 : decode cX9_best 97 = .ok (.ireturn, 1) := by decide +kernel
theorem dX9_soonest_0 : decode cX9_soonest 0 = .ok (.iload_n 1, 1) := by decide +kernel
theorem dX9_soonest_1 : decode cX9_soonest 1 = .ok (.iconst 0, 1) := by decide +kernel
theorem dX9_soonest_2 : decode cX9_soonest 2 = .ok (.iconst 2, 1) := by decide +kernel
theorem dX9_soonest_3 : decode cX9_soonest 3 = .ok (.invokestatic 40, 3) := by decide +kernel
theorem dX9_soonest_6 : decode cX9_soonest 6 = .ok (.ifCond .ne 5, 3) := by decide +kernel
theorem dX9_soonest_9 : decode cX9_soonest 9 = .ok (.iconst (-1), 1) := by decide +kernel
theorem dX9_soonest_10 : decode cX9_soonest 10 = .ok (.ireturn, 1) := by decide +kernel
theorem dX9_soonest_11 : decode cX9_soonest 11 = .ok (.aload_n 0, 1) := by decide +kernel
theorem dX9_soonest_12 : decode cX9_soonest 12 = .ok (.getfield 10, 3) := by decide +kernel
theorem dX9_soonest_15 : decode cX9_soonest 15 = .ok (.getfield 71, 3) := by decide +kernel
theorem dX9_soonest_18 : decode cX9_soonest 18 = .ok (.istore_n 2, 1) := by decide +kernel
theorem dX9_soonest_19 : decode cX9_soonest 19 = .ok (.iconst 0, 1) := by decide +kernel
theorem dX9_soonest_20 : decode cX9_soonest 20 = .ok (.istore_n 3, 1) := by decide +kernel
theorem dX9_soonest_21 : decode cX9_soonest 21 = .ok (.iload_n 3, 1) := by decide +kernel
theorem dX9_soonest_22 : decode cX9_soonest 22 = .ok (.bipush 99, 2) := by decide +kernel
theorem dX9_soonest_24 : decode cX9_soonest 24 = .ok (.if_icmp .gt 47, 3) := by decide +kernel
theorem dX9_soonest_27 : decode cX9_soonest 27 = .ok (.iload_n 2, 1) := by decide +kernel
theorem dX9_soonest_28 : decode cX9_soonest 28 = .ok (.aload_n 0, 1) := by decide +kernel
theorem dX9_soonest_29 : decode cX9_soonest 29 = .ok (.getfield 10, 3) := by decide +kernel
theorem dX9_soonest_32 : decode cX9_soonest 32 = .ok (.getfield 95, 3) := by decide +kernel
theorem dX9_soonest_35 : decode cX9_soonest 35 = .ok (.if_icmp .lt 5, 3) := by decide +kernel
theorem dX9_soonest_38 : decode cX9_soonest 38 = .ok (.iload_n 3, 1) := by decide +kernel
theorem dX9_soonest_39 : decode cX9_soonest 39 = .ok (.ireturn, 1) := by decide +kernel
theorem dX9_soonest_40 : decode cX9_soonest 40 = .ok (.aload_n 0, 1) := by decide +kernel
theorem dX9_soonest_41 : decode cX9_soonest 41 = .ok (.getfield 10, 3) := by decide +kernel
theorem dX9_soonest_44 : decode cX9_soonest 44 = .ok (.iload_n 1, 1) := by decide +kernel
theorem dX9_soonest_45 : decode cX9_soonest 45 = .ok (.iload_n 2, 1) := by decide +kernel
theorem dX9_soonest_46 : decode cX9_soonest 46 = .ok (.iload_n 3, 1) := by decide +kernel
theorem dX9_soonest_47 : decode cX9_soonest 47 = .ok (.ifCond .ne 13, 3) := by decide +kernel
theorem dX9_soonest_50 : decode cX9_soonest 50 = .ok (.aload_n 0, 1) := by decide +kernel
theorem dX9_soonest_51 : decode cX9_soonest 51 = .ok (.getfield 10, 3) := by decide +kernel
theorem dX9_soonest_54 : decode cX9_soonest 54 = .ok (.invokevirtual 141, 3) := by decide +kernel
theorem dX9_soonest_57 : decode cX9_soonest 57 = .ok (.goto 4, 3) := by decide +kernel
theorem dX9_soonest_60 : decode cX9_soonest 60 = .ok (.iconst 0, 1) := by decide +kernel
theorem dX9_soonest_61 : decode cX9_soonest 61 = .ok (.invokevirtual 206, 3) := by decide +kernel
theorem dX9_soonest_64 : decode cX9_soonest 64 = .ok (.istore_n 2, 1) := by decide +kernel
theorem dX9_soonest_65 : decode cX9_soonest 65 = .ok (.iinc 3 1, 3) := by decide +kernel
theorem dX9_soonest_68 : decode cX9_soonest 68 = .ok (.goto (-47), 3) := by decide +kernel
theorem dX9_soonest_71 : decode cX9_soonest 71 = .ok (.bipush (-4), 2) := by decide +kernel
theorem dX9_soonest_73 : decode cX9_soonest 73 = .ok (.ireturn, 1) := by decide +kernel
theorem dX9_mean_0 : decode cX9_mean 0 = .ok (.iload_n 1, 1) := by decide +kernel
theorem dX9_mean_1 : decode cX9_mean 1 = .ok (.iconst 0, 1) := by decide +kernel
theorem dX9_mean_2 : decode cX9_mean 2 = .ok (.bipush 6, 2) := by decide +kernel
theorem dX9_mean_4 : decode cX9_mean 4 = .ok (.invokestatic 40, 3) := by decide +kernel
theorem dX9_mean_7 : decode cX9_mean 7 = .ok (.ifCond .eq 31, 3) := by decide +kernel
theorem dX9_mean_10 : decode cX9_mean 10 = .ok (.iload_n 1, 1) := by decide +kernel
theorem dX9_mean_11 : decode cX9_mean 11 = .ok (.aload_n 0, 1) := by decide +kernel
theorem dX9_mean_12 : decode cX9_mean 12 = .ok (.getfield 10, 3) := by decide +kernel
theorem dX9_mean_15 : decode cX9_mean 15 = .ok (.getfield 101, 3) := by decide +kernel
theorem dX9_mean_18 : decode cX9_mean 18 = .ok (.aload_n 0, 1) := by decide +kernel
theorem dX9_mean_19 : decode cX9_mean 19 = .ok (.getfield 10, 3) := by decide +kernel
theorem dX9_mean_22 : decode cX9_mean 22 = .ok (.getfield 98, 3) := by decide +kernel
theorem dX9_mean_25 : decode cX9_mean 25 = .ok (.isub, 1) := by decide +kernel
theorem dX9_mean_26 : decode cX9_mean 26 = .ok (.if_icmp .gt 12, 3) := by decide +kernel
theorem dX9_mean_29 : decode cX9_mean 29 = .ok (.iload_n 2, 1) := by decide +kernel
theorem dX9_mean_30 : decode cX9_mean 30 = .ok (.iconst 0, 1) := by decide +kernel
theorem dX9_mean_31 : decode cX9_mean 31 = .ok (.iconst 1, 1) := by decide +kernel
theorem dX9_mean_32 : decode cX9_mean 32 = .ok (.invokestatic 40, 3) := by decide +kernel
theorem dX9_mean_35 : decode cX9_mean 35 = .ok (.ifCond .ne 5, 3) := by decide +kernel
theorem dX9_mean_38 : decode cX9_mean 38 = .ok (.iconst (-1), 1) := by decide +kernel
theorem dX9_mean_39 : decode cX9_mean 39 = .ok (.ireturn, 1) := by decide +kernel
theorem dX9_mean_40 : decode cX9_mean 40 = .ok (.aload_n 0, 1) := by decide +kernel
theorem dX9_mean_41 : decode cX9_mean 41 = .ok (.getfield 29, 3) := by decide +kernel
theorem dX9_mean_44 : decode cX9_mean 44 = .ok (.aload_n 0, 1) := by decide +kernel
theorem dX9_mean_45 : decode cX9_mean 45 = .ok (.getfield 10, 3) := by decide +kernel
theorem dX9_mean_48 : decode cX9_mean 48 = .ok (.iload_n 1, 1) := by decide +kernel
theorem dX9_mean_49 : decode cX9_mean 49 = .ok (.invokevirtual 209, 3) := by decide +kernel
theorem dX9_mean_52 : decode cX9_mean 52 = .ok (.istore_n 3, 1) := by decide +kernel
theorem dX9_mean_53 : decode cX9_mean 53 = .ok (.iconst 1, 1) := by decide +kernel
theorem dX9_mean_54 : decode cX9_mean 54 = .ok (.istore 4, 2) := by decide +kernel
theorem dX9_mean_56 : decode cX9_mean 56 = .ok (.iconst 0, 1) := by decide +kernel
theorem dX9_mean_57 : decode cX9_mean 57 = .ok (.istore 5, 2) := by decide +kernel
theorem dX9_mean_59 : decode cX9_mean 59 = .ok (.iload 5, 2) := by decide +kernel
theorem dX9_mean_61 : decode cX9_mean 61 = .ok (.iload_n 1, 1) := by decide +kernel
theorem dX9_mean_62 : decode cX9_mean 62 = .ok (.if_icmp .ge 16, 3) := by decide +kernel
theorem dX9_mean_65 : decode cX9_mean 65 = .ok (.iload 4, 2) := by decide +kernel
theorem dX9_mean_67 : decode cX9_mean 67 = .ok (.bipush 10, 2) := by decide +kernel
theorem dX9_mean_69 : decode cX9_mean 69 = .ok (.imul, 1) := by decide +kernel
theorem dX9_mean_70 : decode cX9_mean 70 = .ok (.istore 4, 2) := by decide +kernel
theorem dX9_mean_72 : decode cX9_mean 72 = .ok (.iinc 5 1, 3) := by decide +kernel
theorem dX9_mean_75 : decode cX9_mean 75 = .ok (.goto (-16), 3) := by decide +kernel
theorem dX9_mean_78 : decode cX9_mean 78 = .ok (.iload_n 3, 1) := by decide +kernel
theorem dX9_mean_79 : decode cX9_mean 79 = .ok (.iload 4, 2) := by decide +kernel
theorem dX9_mean_81 : decode cX9_mean 81 = .ok (.invokestatic 212, 3) := by decide +kernel
theorem dX9_mean_84 : decode cX9_mean 84 = .ok (.istore 5, 2) := by decide +kernel
theorem dX9_mean_86 : decode cX9_mean 86 = .ok (.iload 5, 2) := by decide +kernel
theorem dX9_mean_88 : decode cX9_mean 88 = .ok (.ifCond .gt 5, 3) := by decide +kernel
theorem dX9_mean_91 : decode cX9_mean 91 = .ok (.iconst (-1), 1) := by decide +kernel
theorem dX9_mean_92 : decode cX9_mean 92 = .ok (.ireturn, 1) := by decide +kernel
theorem dX9_mean_93 : decode cX9_mean 93 = .ok (.iload_n 2, 1) := by decide +kernel
theorem dX9_mean_94 : decode cX9_mean 94 = .ok (.ifCond .ne 7, 3) := by decide +kernel
theorem dX9_mean_97 : decode cX9_mean 97 = .ok (.iload_n 3, 1) := by decide +kernel
theorem dX9_mean_98 : decode cX9_mean 98 = .ok (.goto 5, 3) := by decide +kernel
theorem dX9_mean_101 : decode cX9_mean 101 = .ok (.iload 4, 2) := by decide +kernel
theorem dX9_mean_103 : decode cX9_mean 103 = .ok (.iload 5, 2) := by decide +kernel
theorem dX9_mean_105 : decode cX9_mean 105 = .ok (.idiv, 1) := by decide +kernel
theorem dX9_mean_106 : decode cX9_mean 106 = .ok (.ireturn, 1) := by decide +kernel
theorem dX9_image_0 : decode cX9_image 0 = .ok (.aload_n 0, 1) := by decide +kernel
theorem dX9_image_1 : decode cX9_image 1 = .ok (.getfield 16, 3) := by decide +kernel
theorem dX9_image_4 : decode cX9_image 4 = .ok (.aload_n 0, 1) := by decide +kernel
theorem dX9_image_5 : decode cX9_image 5 = .ok (.getfield 10, 3) := by decide +kernel
theorem dX9_image_8 : decode cX9_image 8 = .ok (.invokevirtual 215, 3) := by decide +kernel
theorem dX9_image_11 : decode cX9_image 11 = .ok (.aload_n 0, 1) := by decide +kernel
theorem dX9_image_12 : decode cX9_image 12 = .ok (.iconst 1, 1) := by decide +kernel
theorem dX9_image_13 : decode cX9_image 13 = .ok (.putfield 219, 3) := by decide +kernel
theorem dX9_image_16 : decode cX9_image 16 = .ok (.iconst 1, 1) := by decide +kernel
theorem dX9_image_17 : decode cX9_image 17 = .ok (.ireturn, 1) := by decide +kernel
theorem dX9_restore_0 : decode cX9_restore 0 = .ok (.aload_n 0, 1) := by decide +kernel
theorem dX9_restore_1 : decode cX9_restore 1 = .ok (.getfield 219, 3) := by decide +kernel
theorem dX9_restore_4 : decode cX9_restore 4 = .ok (.ifCond .ne 6, 3) := by decide +kernel
theorem dX9_restore_7 : decode cX9_restore 7 = .ok (.bipush (-4), 2) := by decide +kernel
theorem dX9_restore_9 : decode cX9_restore 9 = .ok (.ireturn, 1) := by decide +kernel
theorem dX9_restore_10 : decode cX9_restore 10 = .ok (.aload_n 0, 1) := by decide +kernel
theorem dX9_restore_11 : decode cX9_restore 11 = .ok (.getfield 10, 3) := by decide +kernel
theorem dX9_restore_14 : decode cX9_restore 14 = .ok (.aload_n 0, 1) := by decide +kernel
theorem dX9_restore_15 : decode cX9_restore 15 = .ok (.getfield 16, 3) := by decide +kernel
theorem dX9_restore_18 : decode cX9_restore 18 = .ok (.invokevirtual 215, 3) := by decide +kernel
theorem dX9_restore_21 : decode cX9_restore 21 = .ok (.iconst 1, 1) := by decide +kernel
theorem dX9_restore_22 : decode cX9_restore 22 = .ok (.ireturn, 1) := by decide +kernel
theorem dX9_weather_0 : decode cX9_weather 0 = .ok (.iload_n 1, 1) := by decide +kernel
theorem dX9_weather_1 : decode cX9_weather 1 = .ok (.invokestatic 223, 3) := by decide +kernel
theorem dX9_weather_4 : decode cX9_weather 4 = .ok (.ifCond .eq 34, 3) := by decide +kernel
theorem dX9_weather_7 : decode cX9_weather 7 = .ok (.iload_n 2, 1) := by decide +kernel
theorem dX9_weather_8 : decode cX9_weather 8 = .ok (.invokestatic 226, 3) := by decide +kernel
theorem dX9_weather_11 : decode cX9_weather 11 = .ok (.ifCond .eq 27, 3) := by decide +kernel
theorem dX9_weather_14 : decode cX9_weather 14 = .ok (.iload 4, 2) := by decide +kernel
theorem dX9_weather_16 : decode cX9_weather 16 = .ok (.iconst 1, 1) := by decide +kernel
theorem dX9_weather_17 : decode cX9_weather 17 = .ok (.bipush 8, 2) := by decide +kernel
theorem dX9_weather_19 : decode cX9_weather 19 = .ok (.invokestatic 40, 3) := by decide +kernel
theorem dX9_weather_22 : decode cX9_weather 22 = .ok (.ifCond .eq 16, 3) := by decide +kernel
theorem dX9_weather_25 : decode cX9_weather 25 = .ok (.iload 5, 2) := by decide +kernel
theorem dX9_weather_27 : decode cX9_weather 27 = .ok (.iconst (-1), 1) := by decide +kernel
theorem dX9_weather_28 : decode cX9_weather 28 = .ok (.iload 4, 2) := by decide +kernel
theorem dX9_weather_30 : decode cX9_weather 30 = .ok (.iconst 1, 1) := by decide +kernel
theorem dX9_weather_31 : decode cX9_weather 31 = .ok (.isub, 1) := by decide +kernel
theorem dX9_weather_32 : decode cX9_weather 32 = .ok (.invokestatic 40, 3) := by decide +kernel
theorem dX9_weather_35 : decode cX9_weather 35 = .ok (.ifCond .ne 5, 3) := by decide +kernel
theorem dX9_weather_38 : decode cX9_weather 38 = .ok (.iconst (-1), 1) := by decide +kernel
theorem dX9_weather_39 : decode cX9_weather 39 = .ok (.ireturn, 1) := by decide +kernel
theorem dX9_weather_40 : decode cX9_weather 40 = .ok (.aload_n 0, 1) := by decide +kernel
theorem dX9_weather_41 : decode cX9_weather 41 = .ok (.getfield 35, 3) := by decide +kernel
theorem dX9_weather_44 : decode cX9_weather 44 = .ok (.iload_n 1, 1) := by decide +kernel
theorem dX9_weather_45 : decode cX9_weather 45 = .ok (.aaload, 1) := by decide +kernel
theorem dX9_weather_46 : decode cX9_weather 46 = .ok (.iload_n 2, 1) := by decide +kernel
theorem dX9_weather_47 : decode cX9_weather 47 = .ok (.iload_n 3, 1) := by decide +kernel
theorem dX9_weather_48 : decode cX9_weather 48 = .ok (.iload 4, 2) := by decide +kernel
theorem dX9_weather_50 : decode cX9_weather 50 = .ok (.invokevirtual 229, 3) := by decide +kernel
theorem dX9_weather_53 : decode cX9_weather 53 = .ok (.istore 6, 2) := by decide +kernel
theorem dX9_weather_55 : decode cX9_weather 55 = .ok (.iload 6, 2) := by decide +kernel
theorem dX9_weather_57 : decode cX9_weather 57 = .ok (.ifCond .eq 6, 3) := by decide +kernel
theorem dX9_weather_60 : decode cX9_weather 60 = .ok (.iload 6, 2) := by decide +kernel
theorem dX9_weather_62 : decode cX9_weather 62 = .ok (.ireturn, 1) := by decide +kernel
theorem dX9_weather_63 : decode cX9_weather 63 = .ok (.iload 4, 2) := by decide +kernel
theorem dX9_weather_65 : decode cX9_weather 65 = .ok (.aload_n 0, 1) := by decide +kernel
theorem dX9_weather_66 : decode cX9_weather 66 = .ok (.getfield 10, 3) := by decide +kernel
theorem dX9_weather_69 : decode cX9_weather 69 = .ok (.getfield 101, 3) := by decide +kernel
theorem dX9_weather_72 : decode cX9_weather 72 = .ok (.aload_n 0, 1) := by decide +kernel
theorem dX9_weather_73 : decode cX9_weather 73 = .ok (.getfield 10, 3) := by decide +kernel
theorem dX9_weather_76 : decode cX9_weather 76 = .ok (.getfield 98, 3) := by decide +kernel
theorem dX9_weather_79 : decode cX9_weather 79 = .ok (.isub, 1) := by decide +kernel
theorem dX9_weather_80 : decode cX9_weather 80 = .ok (.if_icmp .le 6, 3) := by decide +kernel
theorem dX9_weather_83 : decode cX9_weather 83 = .ok (.bipush (-2), 2) := by decide +kernel
theorem dX9_weather_85 : decode cX9_weather 85 = .ok (.ireturn, 1) := by decide +kernel
theorem dX9_weather_86 : decode cX9_weather 86 = .ok (.aload_n 0, 1) := by decide +kernel
theorem dX9_weather_87 : decode cX9_weather 87 = .ok (.aload_n 0, 1) := by decide +kernel
theorem dX9_weather_88 : decode cX9_weather 88 = .ok (.getfield 35, 3) := by decide +kernel
theorem dX9_weather_91 : decode cX9_weather 91 = .ok (.iload_n 1, 1) := by decide +kernel
theorem dX9_weather_92 : decode cX9_weather 92 = .ok (.aaload, 1) := by decide +kernel
theorem dX9_weather_93 : decode cX9_weather 93 = .ok (.getfield 232, 3) := by decide +kernel
theorem dX9_weather_96 : decode cX9_weather 96 = .ok (.iload_n 3, 1) := by decide +kernel
theorem dX9_weather_97 : decode cX9_weather 97 = .ok (.iload 4, 2) := by decide +kernel
theorem dX9_weather_99 : decode cX9_weather 99 = .ok (.iload 5, 2) := by decide +kernel
theorem dX9_weather_101 : decode cX9_weather 101 = .ok (.invokevirtual 236, 3) := by decide +kernel
theorem dX9_weather_104 : decode cX9_weather 104 = .ok (.ireturn, 1) := by decide +kernel
theorem dX9_weatherOf_0 : decode cX9_weatherOf 0 = .ok (.aload_n 0, 1) := by decide +kernel
theorem dX9_weatherOf_1 : decode cX9_weatherOf 1 = .ok (.getfield 10, 3) := by decide +kernel
theorem dX9_weatherOf_4 : decode cX9_weatherOf 4 = .ok (.getfield 71, 3) := by decide +kernel
theorem dX9_weatherOf_7 : decode cX9_weatherOf 7 = .ok (.istore 5, 2) := by decide +kernel
theorem dX9_weatherOf_9 : decode cX9_weatherOf 9 = .ok (.iconst 1, 1) := by decide +kernel
theorem dX9_weatherOf_10 : decode cX9_weatherOf 10 = .ok (.istore 6, 2) := by decide +kernel
theorem dX9_weatherOf_12 : decode cX9_weatherOf 12 = .ok (.iconst 0, 1) := by decide +kernel
theorem dX9_weatherOf_13 : decode cX9_weatherOf 13 = .ok (.istore 7, 2) := by decide +kernel
theorem dX9_weatherOf_15 : decode cX9_weatherOf 15 = .ok (.iconst 0, 1) := by decide +kernel
theorem dX9_weatherOf_16 : decode cX9_weatherOf 16 = .ok (.istore 8, 2) := by decide +kernel
theorem dX9_weatherOf_18 : decode cX9_weatherOf 18 = .ok (.iload 8, 2) := by decide +kernel
theorem dX9_weatherOf_20 : decode cX9_weatherOf 20 = .ok (.iload_n 3, 1) := by decide +kernel
theorem dX9_weatherOf_21 : decode cX9_weatherOf 21 = .ok (.if_icmp .ge 76, 3) := by decide +kernel
theorem dX9_weatherOf_24 : decode cX9_weatherOf 24 = .ok (.aload_n 0, 1) := by decide +kernel
theorem dX9_weatherOf_25 : decode cX9_weatherOf 25 = .ok (.iload 5, 2) := by decide +kernel
theorem dX9_weatherOf_27 : decode cX9_weatherOf 27 = .ok (.aload_n 1, 1) := by decide +kernel
theorem dX9_weatherOf_28 : decode cX9_weatherOf 28 = .ok (.iload_n 2, 1) := by decide +kernel
theorem dX9_weatherOf_29 : decode cX9_weatherOf 29 = .ok (.iload 8, 2) := by decide +kernel
theorem dX9_weatherOf_31 : decode cX9_weatherOf 31 = .ok (.iadd, 1) := by decide +kernel
theorem dX9_weatherOf_32 : decode cX9_weatherOf 32 = .ok (.laload, 1) := by decide +kernel
theorem dX9_weatherOf_33 : decode cX9_weatherOf 33 = .ok (.iload 8, 2) := by decide +kernel
theorem dX9_weatherOf_35 : decode cX9_weatherOf 35 = .ok (.ifCond .ne 13, 3) := by decide +kernel
theorem dX9_weatherOf_38 : decode cX9_weatherOf 38 = .ok (.aload_n 0, 1) := by decide +kernel
theorem dX9_weatherOf_39 : decode cX9_weatherOf 39 = .ok (.getfield 10, 3) := by decide +kernel
theorem dX9_weatherOf_42 : decode cX9_weatherOf 42 = .ok (.invokevirtual 141, 3) := by decide +kernel
theorem dX9_weatherOf_45 : decode cX9_weatherOf 45 = .ok (.goto 4, 3) := by decide +kernel
theorem dX9_weatherOf_48 : decode cX9_weatherOf 48 = .ok (.iconst 0, 1) := by decide +kernel
theorem dX9_weatherOf_49 : decode cX9_weatherOf 49 = .ok (.invokevirtual 240, 3) := by decide +kernel
theorem dX9_weatherOf_52 : decode cX9_weatherOf 52 = .ok (.istore 9, 2) := by decide +kernel
theorem dX9_weatherOf_54 : decode cX9_weatherOf 54 = .ok (.iload 9, 2) := by decide +kernel
theorem dX9_weatherOf_56 : decode cX9_weatherOf 56 = .ok (.ifCond .ne 5, 3) := by decide +kernel
theorem dX9_weatherOf_59 : decode cX9_weatherOf 59 = .ok (.iconst 0, 1) := by decide +kernel
theorem dX9_weatherOf_60 : decode cX9_weatherOf 60 = .ok (.ireturn, 1) := by decide +kernel
theorem dX9_weatherOf_61 : decode cX9_weatherOf 61 = .ok (.iload 6, 2) := by decide +kernel
theorem dX9_weatherOf_63 : decode cX9_weatherOf 63 = .ok (.iload 9, 2) := by decide +kernel
theorem dX9_weatherOf_65 : decode cX9_weatherOf 65 = .ok (.invokestatic 188, 3) := by decide +kernel
theorem dX9_weatherOf_68 : decode cX9_weatherOf 68 = .ok (.imul, 1) := by decide +kernel
theorem dX9_weatherOf_69 : decode cX9_weatherOf 69 = .ok (.istore 6, 2) := by decide +kernel
theorem dX9_weatherOf_71 : decode cX9_weatherOf 71 = .ok (.iload 8, 2) := by decide +kernel
theorem dX9_weatherOf_73 : decode cX9_weatherOf 73 = .ok (.iload 4, 2) := by decide +kernel
theorem dX9_weatherOf_75 : decode cX9_weatherOf 75 = .ok (.if_icmp .ne 7, 3) := by decide +kernel
theorem dX9_weatherOf_78 : decode cX9_weatherOf 78 = .ok (.iload 9, 2) := by decide +kernel
theorem dX9_weatherOf_80 : decode cX9_weatherOf 80 = .ok (.istore 7, 2) := by decide +kernel
theorem dX9_weatherOf_82 : decode cX9_weatherOf 82 = .ok (.aload_n 1, 1) := by decide +kernel
theorem dX9_weatherOf_83 : decode cX9_weatherOf 83 = .ok (.iload_n 2, 1) := by decide +kernel
theorem dX9_weatherOf_84 : decode cX9_weatherOf 84 = .ok (.iload 8, 2) := by decide +kernel
theorem dX9_weatherOf_86 : decode cX9_weatherOf 86 = .ok (.iadd, 1) := by decide +kernel
theorem dX9_weatherOf_87 : decode cX9_weatherOf 87 = .ok (.laload, 1) := by decide +kernel
theorem dX9_weatherOf_88 : decode cX9_weatherOf 88 = .ok (.l2i, 1) := by decide +kernel
theorem dX9_weatherOf_89 : decode cX9_weatherOf 89 = .ok (.istore 5, 2) := by decide +kernel
theorem dX9_weatherOf_91 : decode cX9_weatherOf 91 = .ok (.iinc 8 1, 3) := by decide +kernel
theorem dX9_weatherOf_94 : decode cX9_weatherOf 94 = .ok (.goto (-76), 3) := by decide +kernel
theorem dX9_weatherOf_97 : decode cX9_weatherOf 97 = .ok (.iload 4, 2) := by decide +kernel
theorem dX9_weatherOf_99 : decode cX9_weatherOf 99 = .ok (.ifCond .ge 8, 3) := by decide +kernel
theorem dX9_weatherOf_102 : decode cX9_weatherOf 102 = .ok (.iload 6, 2) := by decide +kernel
theorem dX9_weatherOf_104 : decode cX9_weatherOf 104 = .ok (.goto 5, 3) := by decide +kernel
theorem dX9_weatherOf_107 : decode cX9_weatherOf 107 = .ok (.iload 7, 2) := by decide +kernel
theorem dX9_weatherOf_109 : decode cX9_weatherOf 109 = .ok (.ireturn, 1) := by decide +kernel
theorem dX9_fittingWeathers_0 : decode cX9_fittingWeathers 0 = .ok (.iconst 0, 1) := by decide +kernel
theorem dX9_fittingWeathers_1 : decode cX9_fittingWeathers 1 = .ok (.istore 5, 2) := by decide +kernel
theorem dX9_fittingWeathers_3 : decode cX9_fittingWeathers 3 = .ok (.iconst 0, 1) := by decide +kernel
theorem dX9_fittingWeathers_4 : decode cX9_fittingWeathers 4 = .ok (.istore 6, 2) := by decide +kernel
theorem dX9_fittingWeathers_6 : decode cX9_fittingWeathers 6 = .ok (.iload 6, 2) := by decide +kernel
theorem dX9_fittingWeathers_8 : decode cX9_fittingWeathers 8 = .ok (.iconst 3, 1) := by decide +kernel
theorem dX9_fittingWeathers_9 : decode cX9_fittingWeathers 9 = .ok (.if_icmp .ge 36, 3) := by decide +kernel
theorem dX9_fittingWeathers_12 : decode cX9_fittingWeathers 12 = .ok (.aload_n 0, 1) := by decide +kernel
theorem dX9_fittingWeathers_13 : decode cX9_fittingWeathers 13 = .ok (.getfield 10, 3) := by decide +kernel
theorem dX9_fittingWeathers_16 : decode cX9_fittingWeathers 16 = .ok (.iload 6, 2) := by decide +kernel
theorem dX9_fittingWeathers_18 : decode cX9_fittingWeathers 18 = .ok (.iload_n 1, 1) := by decide +kernel
theorem dX9_fittingWeathers_19 : decode cX9_fittingWeathers 19 = .ok (.iload 4, 2) := by decide +kernel
theorem dX9_fittingWeathers_21 : decode cX9_fittingWeathers 21 = .ok (.invokevirtual 206, 3) := by decide +kernel
theorem dX9_fittingWeathers_24 : decode cX9_fittingWeathers 24 = .ok (.i2l, 1) := by decide +kernel
theorem dX9_fittingWeathers_25 : decode cX9_fittingWeathers 25 = .ok (.lload_n 2, 1) := by decide +kernel
theorem dX9_fittingWeathers_26 : decode cX9_fittingWeathers 26 = .ok (.lcmp, 1) := by decide +kernel
theorem dX9_fittingWeathers_27 : decode cX9_fittingWeathers 27 = .ok (.ifCond .ne 12, 3) := by decide +kernel
theorem dX9_fittingWeathers_30 : decode cX9_fittingWeathers 30 = .ok (.iload 5, 2) := by decide +kernel
theorem dX9_fittingWeathers_32 : decode cX9_fittingWeathers 32 = .ok (.iconst 1, 1) := by decide +kernel
theorem dX9_fittingWeathers_33 : decode cX9_fittingWeathers 33 = .ok (.iload 6, 2) := by decide +kernel
theorem dX9_fittingWeathers_35 : decode cX9_fittingWeathers 35 = .ok (.ishl, 1) := by decide +kernel
theorem dX9_fittingWeathers_36 : decode cX9_fittingWeathers 36 = .ok (.ior, 1) := by decide +kernel
theorem dX9_fittingWeathers_37 : decode cX9_fittingWeathers 37 = .ok (.istore 5, 2) := by decide +kernel
theorem dX9_fittingWeathers_39 : decode cX9_fittingWeathers 39 = .ok (.iinc 6 1, 3) := by decide +kernel
theorem dX9_fittingWeathers_42 : decode cX9_fittingWeathers 42 = .ok (.goto (-36), 3) := by decide +kernel
theorem dX9_fittingWeathers_45 : decode cX9_fittingWeathers 45 = .ok (.iload 5, 2) := by decide +kernel
theorem dX9_fittingWeathers_47 : decode cX9_fittingWeathers 47 = .ok (.ireturn, 1) := by decide +kernel
theorem dX9_film_0 : decode cX9_film 0 = .ok (.iload_n 1, 1) := by decide +kernel
theorem dX9_film_1 : decode cX9_film 1 = .ok (.iconst 0, 1) := by decide +kernel
theorem dX9_film_2 : decode cX9_film 2 = .ok (.iconst 2, 1) := by decide +kernel
theorem dX9_film_3 : decode cX9_film 3 = .ok (.invokestatic 40, 3) := by decide +kernel
theorem dX9_film_6 : decode cX9_film 6 = .ok (.ifCond .eq 28, 3) := by decide +kernel
theorem dX9_film_9 : decode cX9_film 9 = .ok (.iload_n 2, 1) := by decide +kernel
theorem dX9_film_10 : decode cX9_film 10 = .ok (.iconst 1, 1) := by decide +kernel
theorem dX9_film_11 : decode cX9_film 11 = .ok (.bipush 24, 2) := by decide +kernel
theorem dX9_film_13 : decode cX9_film 13 = .ok (.invokestatic 40, 3) := by decide +kernel
theorem dX9_film_16 : decode cX9_film 16 = .ok (.ifCond .eq 18, 3) := by decide +kernel
theorem dX9_film_19 : decode cX9_film 19 = .ok (.iload_n 3, 1) := by decide +kernel
theorem dX9_film_20 : decode cX9_film 20 = .ok (.invokestatic 223, 3) := by decide +kernel
theorem dX9_film_23 : decode cX9_film 23 = .ok (.ifCond .eq 11, 3) := by decide +kernel
theorem dX9_film_26 : decode cX9_film 26 = .ok (.iload 4, 2) := by decide +kernel
theorem dX9_film_28 : decode cX9_film 28 = .ok (.invokestatic 226, 3) := by decide +kernel
theorem dX9_film_31 : decode cX9_film 31 = .ok (.ifCond .ne 5, 3) := by decide +kernel
theorem dX9_film_34 : decode cX9_film 34 = .ok (.iconst (-1), 1) := by decide +kernel
theorem dX9_film_35 : decode cX9_film 35 = .ok (.ireturn, 1) := by decide +kernel
theorem dX9_film_36 : decode cX9_film 36 = .ok (.aload_n 0, 1) := by decide +kernel
theorem dX9_film_37 : decode cX9_film 37 = .ok (.getfield 35, 3) := by decide +kernel
theorem dX9_film_40 : decode cX9_film 40 = .ok (.iload_n 3, 1) := by decide +kernel
theorem dX9_film_41 : decode cX9_film 41 = .ok (.aaload, 1) := by decide +kernel
theorem dX9_film_42 : decode cX9_film 42 = .ok (.iload 4, 2) := by decide +kernel
theorem dX9_film_44 : decode cX9_film 44 = .ok (.iload 5, 2) := by decide +kernel
theorem dX9_film_46 : decode cX9_film 46 = .ok (.iload_n 2, 1) := by decide +kernel
theorem dX9_film_47 : decode cX9_film 47 = .ok (.invokevirtual 229, 3) := by decide +kernel
theorem dX9_film_50 : decode cX9_film 50 = .ok (.istore 6, 2) := by decide +kernel
theorem dX9_film_52 : decode cX9_film 52 = .ok (.iload 6, 2) := by decide +kernel
theorem dX9_film_54 : decode cX9_film 54 = .ok (.ifCond .eq 6, 3) := by decide +kernel
theorem dX9_film_57 : decode cX9_film 57 = .ok (.iload 6, 2) := by decide +kernel
theorem dX9_film_59 : decode cX9_film 59 = .ok (.ireturn, 1) := by decide +kernel
theorem dX9_film_60 : decode cX9_film 60 = .ok (.aload_n 0, 1) := by decide +kernel
theorem dX9_film_61 : decode cX9_film 61 = .ok (.getfield 10, 3) := by decide +kernel
theorem dX9_film_64 : decode cX9_film 64 = .ok (.getfield 71, 3) := by decide +kernel
theorem dX9_film_67 : decode cX9_film 67 = .ok (.istore 7, 2) := by decide +kernel
theorem dX9_film_69 : decode cX9_film 69 = .ok (.iconst 0, 1) := by decide +kernel
theorem dX9_film_70 : decode cX9_film 70 = .ok (.istore 8, 2) := by decide +kernel
theorem dX9_film_72 : decode cX9_film 72 = .ok (.iload 8, 2) := by decide +kernel
theorem dX9_film_74 : decode cX9_film 74 = .ok (.iload_n 2, 1) := by decide +kernel
theorem dX9_film_75 : decode cX9_film 75 = .ok (.if_icmp .ge 54, 3) := by decide +kernel
theorem dX9_film_78 : decode cX9_film 78 = .ok (.aload_n 0, 1) := by decide +kernel
theorem dX9_film_79 : decode cX9_film 79 = .ok (.getfield 10, 3) := by decide +kernel
theorem dX9_film_82 : decode cX9_film 82 = .ok (.iload_n 1, 1) := by decide +kernel
theorem dX9_film_83 : decode cX9_film 83 = .ok (.iload 7, 2) := by decide +kernel
theorem dX9_film_85 : decode cX9_film 85 = .ok (.iload 8, 2) := by decide +kernel
theorem dX9_film_87 : decode cX9_film 87 = .ok (.ifCond .ne 13, 3) := by decide +kernel
theorem dX9_film_90 : decode cX9_film 90 = .ok (.aload_n 0, 1) := by decide +kernel
theorem dX9_film_91 : decode cX9_film 91 = .ok (.getfield 10, 3) := by decide +kernel
theorem dX9_film_94 : decode cX9_film 94 = .ok (.invokevirtual 141, 3) := by decide +kernel
theorem dX9_film_97 : decode cX9_film 97 = .ok (.goto 4, 3) := by decide +kernel
theorem dX9_film_100 : decode cX9_film 100 = .ok (.iconst 0, 1) := by decide +kernel
theorem dX9_film_101 : decode cX9_film 101 = .ok (.invokevirtual 206, 3) := by decide +kernel
theorem dX9_film_104 : decode cX9_film 104 = .ok (.istore 7, 2) := by decide +kernel
theorem dX9_film_106 : decode cX9_film 106 = .ok (.aload_n 0, 1) := by decide +kernel
theorem dX9_film_107 : decode cX9_film 107 = .ok (.getfield 35, 3) := by decide +kernel
theorem dX9_film_110 : decode cX9_film 110 = .ok (.iload_n 3, 1) := by decide +kernel
theorem dX9_film_111 : decode cX9_film 111 = .ok (.aaload, 1) := by decide +kernel
theorem dX9_film_112 : decode cX9_film 112 = .ok (.iload 5, 2) := by decide +kernel
theorem dX9_film_114 : decode cX9_film 114 = .ok (.iload 8, 2) := by decide +kernel
theorem dX9_film_116 : decode cX9_film 116 = .ok (.iadd, 1) := by decide +kernel
theorem dX9_film_117 : decode cX9_film 117 = .ok (.iload 7, 2) := by decide +kernel
theorem dX9_film_119 : decode cX9_film 119 = .ok (.i2l, 1) := by decide +kernel
theorem dX9_film_120 : decode cX9_film 120 = .ok (.invokevirtual 244, 3) := by decide +kernel
theorem dX9_film_123 : decode cX9_film 123 = .ok (.iinc 8 1, 3) := by decide +kernel
theorem dX9_film_126 : decode cX9_film 126 = .ok (.goto (-54), 3) := by decide +kernel
theorem dX9_film_129 : decode cX9_film 129 = .ok (.iload_n 2, 1) := by decide +kernel
theorem dX9_film_130 : decode cX9_film 130 = .ok (.ireturn, 1) := by decide +kernel
theorem dX9_sheet_0 : decode cX9_sheet 0 = .ok (.iload_n 1, 1) := by decide +kernel
theorem dX9_sheet_1 : decode cX9_sheet 1 = .ok (.invokestatic 223, 3) := by decide +kernel
theorem dX9_sheet_4 : decode cX9_sheet 4 = .ok (.ifCond .eq 16, 3) := by decide +kernel
theorem dX9_sheet_7 : decode cX9_sheet 7 = .ok (.iload_n 2, 1) := by decide +kernel
theorem dX9_sheet_8 : decode cX9_sheet 8 = .ok (.invokestatic 226, 3) := by decide +kernel
theorem dX9_sheet_11 : decode cX9_sheet 11 = .ok (.ifCond .eq 9, 3) := by decide +kernel
theorem dX9_sheet_14 : decode cX9_sheet 14 = .ok (.iload_n 3, 1) := by decide +kernel
theorem dX9_sheet_15 : decode cX9_sheet 15 = .ok (.bipush 24, 2) := by decide +kernel
theorem dX9_sheet_17 : decode cX9_sheet 17 = .ok (.if_icmp .le 5, 3) := by decide +kernel
theorem dX9_sheet_20 : decode cX9_sheet 20 = .ok (.iconst (-1), 1) := by decide +kernel
theorem dX9_sheet_21 : decode cX9_sheet 21 = .ok (.ireturn, 1) := by decide +kernel
theorem dX9_sheet_22 : decode cX9_sheet 22 = .ok (.iload_n 3, 1) := by decide +kernel
theorem dX9_sheet_23 : decode cX9_sheet 23 = .ok (.ifCond .ge 6, 3) := by decide +kernel
theorem dX9_sheet_26 : decode cX9_sheet 26 = .ok (.bipush (-14), 2) := by decide +kernel
theorem dX9_sheet_28 : decode cX9_sheet 28 = .ok (.ireturn, 1) := by decide +kernel
theorem dX9_sheet_29 : decode cX9_sheet 29 = .ok (.aload_n 0, 1) := by decide +kernel
theorem dX9_sheet_30 : decode cX9_sheet 30 = .ok (.getfield 35, 3) := by decide +kernel
theorem dX9_sheet_33 : decode cX9_sheet 33 = .ok (.iload_n 1, 1) := by decide +kernel
theorem dX9_sheet_34 : decode cX9_sheet 34 = .ok (.aaload, 1) := by decide +kernel
theorem dX9_sheet_35 : decode cX9_sheet 35 = .ok (.iload_n 2, 1) := by decide +kernel
theorem dX9_sheet_36 : decode cX9_sheet 36 = .ok (.iload_n 3, 1) := by decide +kernel
theorem dX9_sheet_37 : decode cX9_sheet 37 = .ok (.invokevirtual 248, 3) := by decide +kernel
theorem dX9_sheet_40 : decode cX9_sheet 40 = .ok (.iload_n 3, 1) := by decide +kernel
theorem dX9_sheet_41 : decode cX9_sheet 41 = .ok (.ireturn, 1) := by decide +kernel
theorem dX9_drop_0 : decode cX9_drop 0 = .ok (.iload_n 1, 1) := by decide +kernel
theorem dX9_drop_1 : decode cX9_drop 1 = .ok (.invokestatic 223, 3) := by decide +kernel
theorem dX9_drop_4 : decode cX9_drop 4 = .ok (.ifCond .ne 5, 3) := by decide +kernel
theorem dX9_drop_7 : decode cX9_drop 7 = .ok (.iconst (-1), 1) := by decide +kernel
theorem dX9_drop_8 : decode cX9_drop 8 = .ok (.ireturn, 1) := by decide +kernel
theorem dX9_drop_9 : decode cX9_drop 9 = .ok (.aload_n 0, 1) := by decide +kernel
theorem dX9_drop_10 : decode cX9_drop 10 = .ok (.getfield 35, 3) := by decide +kernel
theorem dX9_drop_13 : decode cX9_drop 13 = .ok (.iload_n 1, 1) := by decide +kernel
theorem dX9_drop_14 : decode cX9_drop 14 = .ok (.aaload, 1) := by decide +kernel
theorem dX9_drop_15 : decode cX9_drop 15 = .ok (.getfield 251, 3) := by decide +kernel
theorem dX9_drop_18 : decode cX9_drop 18 = .ok (.ifCond .ne 6, 3) := by decide +kernel
theorem dX9_drop_21 : decode cX9_drop 21 = .ok (.bipush (-11), 2) := by decide +kernel
theorem dX9_drop_23 : decode cX9_drop 23 = .ok (.ireturn, 1) := by decide +kernel
theorem dX9_drop_24 : decode cX9_drop 24 = .ok (.aload_n 0, 1) := by decide +kernel
theorem dX9_drop_25 : decode cX9_drop 25 = .ok (.getfield 35, 3) := by decide +kernel
theorem dX9_drop_28 : decode cX9_drop 28 = .ok (.iload_n 1, 1) := by decide +kernel
theorem dX9_drop_29 : decode cX9_drop 29 = .ok (.aaload, 1) := by decide +kernel
theorem dX9_drop_30 : decode cX9_drop 30 = .ok (.iconst 0, 1) := by decide +kernel
theorem dX9_drop_31 : decode cX9_drop 31 = .ok (.putfield 251, 3) := by decide +kernel
theorem dX9_drop_34 : decode cX9_drop 34 = .ok (.aload_n 0, 1) := by decide +kernel
theorem dX9_drop_35 : decode cX9_drop 35 = .ok (.getfield 35, 3) := by decide +kernel
theorem dX9_drop_38 : decode cX9_drop 38 = .ok (.iload_n 1, 1) := by decide +kernel
theorem dX9_drop_39 : decode cX9_drop 39 = .ok (.aaload, 1) := by decide +kernel
theorem dX9_drop_40 : decode cX9_drop 40 = .ok (.getfield 254, 3) := by decide +kernel
theorem dX9_drop_43 : decode cX9_drop 43 = .ok (.ireturn, 1) := by decide +kernel
theorem dX9_item_0 : decode cX9_item 0 = .ok (.iload_n 1, 1) := by decide +kernel
theorem dX9_item_1 : decode cX9_item 1 = .ok (.invokestatic 223, 3) := by decide +kernel
theorem dX9_item_4 : decode cX9_item 4 = .ok (.ifCond .eq 10, 3) := by decide +kernel
theorem dX9_item_7 : decode cX9_item 7 = .ok (.iload_n 2, 1) := by decide +kernel
theorem dX9_item_8 : decode cX9_item 8 = .ok (.invokestatic 226, 3) := by decide +kernel
theorem dX9_item_11 : decode cX9_item 11 = .ok (.ifCond .ne 5, 3) := by decide +kernel
theorem dX9_item_14 : decode cX9_item 14 = .ok (.iconst (-1), 1) := by decide +kernel
theorem dX9_item_15 : decode cX9_item 15 = .ok (.ireturn, 1) := by decide +kernel
theorem dX9_item_16 : decode cX9_item 16 = .ok (.aload_n 0, 1) := by decide +kernel
theorem dX9_item_17 : decode cX9_item 17 = .ok (.getfield 35, 3) := by decide +kernel
theorem dX9_item_20 : decode cX9_item 20 = .ok (.iload_n 1, 1) := by decide +kernel
theorem dX9_item_21 : decode cX9_item 21 = .ok (.aaload, 1) := by decide +kernel
theorem dX9_item_22 : decode cX9_item 22 = .ok (.iload_n 2, 1) := by decide +kernel
theorem dX9_item_23 : decode cX9_item 23 = .ok (.iload_n 3, 1) := by decide +kernel
theorem dX9_item_24 : decode cX9_item 24 = .ok (.iconst 1, 1) := by decide +kernel
theorem dX9_item_25 : decode cX9_item 25 = .ok (.invokevirtual 229, 3) := by decide +kernel
theorem dX9_item_28 : decode cX9_item 28 = .ok (.istore 6, 2) := by decide +kernel
theorem dX9_item_30 : decode cX9_item 30 = .ok (.iload 6, 2) := by decide +kernel
theorem dX9_item_32 : decode cX9_item 32 = .ok (.ifCond .eq 6, 3) := by decide +kernel
theorem dX9_item_35 : decode cX9_item 35 = .ok (.iload 6, 2) := by decide +kernel
theorem dX9_item_37 : decode cX9_item 37 = .ok (.ireturn, 1) := by decide +kernel
theorem dX9_item_38 : decode cX9_item 38 = .ok (.aload_n 0, 1) := by decide +kernel
theorem dX9_item_39 : decode cX9_item 39 = .ok (.getfield 35, 3) := by decide +kernel
theorem dX9_item_42 : decode cX9_item 42 = .ok (.iload_n 1, 1) := by decide +kernel
theorem dX9_item_43 : decode cX9_item 43 = .ok (.aaload, 1) := by decide +kernel
theorem dX9_item_44 : decode cX9_item 44 = .ok (.iload_n 3, 1) := by decide +kernel
theorem dX9_item_45 : decode cX9_item 45 = .ok (.lload 4, 2) := by decide +kernel
theorem dX9_item_47 : decode cX9_item 47 = .ok (.invokevirtual 244, 3) := by decide +kernel
theorem dX9_item_50 : decode cX9_item 50 = .ok (.iconst 1, 1) := by decide +kernel
theorem dX9_item_51 : decode cX9_item 51 = .ok (.ireturn, 1) := by decide +kernel
theorem dX9_copy_0 : decode cX9_copy 0 = .ok (.iload_n 1, 1) := by decide +kernel
theorem dX9_copy_1 : decode cX9_copy 1 = .ok (.invokestatic 223, 3) := by decide +kernel
theorem dX9_copy_4 : decode cX9_copy 4 = .ok (.ifCond .eq 10, 3) := by decide +kernel
theorem dX9_copy_7 : decode cX9_copy 7 = .ok (.iload_n 3, 1) := by decide +kernel
theorem dX9_copy_8 : decode cX9_copy 8 = .ok (.invokestatic 223, 3) := by decide +kernel
theorem dX9_copy_11 : decode cX9_copy 11 = .ok (.ifCond .ne 5, 3) := by decide +kernel
theorem dX9_copy_14 : decode cX9_copy 14 = .ok (.iconst (-1), 1) := by decide +kernel
theorem dX9_copy_15 : decode cX9_copy 15 = .ok (.ireturn, 1) := by decide +kernel
theorem dX9_copy_16 : decode cX9_copy 16 = .ok (.aload_n 0, 1) := by decide +kernel
theorem dX9_copy_17 : decode cX9_copy 17 = .ok (.getfield 35, 3) := by decide +kernel
theorem dX9_copy_20 : decode cX9_copy 20 = .ok (.iload_n 1, 1) := by decide +kernel
theorem dX9_copy_21 : decode cX9_copy 21 = .ok (.aaload, 1) := by decide +kernel
theorem dX9_copy_22 : decode cX9_copy 22 = .ok (.astore 6, 2) := by decide +kernel
theorem dX9_copy_24 : decode cX9_copy 24 = .ok (.aload_n 0, 1) := by decide +kernel
theorem dX9_copy_25 : decode cX9_copy 25 = .ok (.getfield 35, 3) := by decide +kernel
theorem dX9_copy_28 : decode cX9_copy 28 = .ok (.iload_n 3, 1) := by decide +kernel
theorem dX9_copy_29 : decode cX9_copy 29 = .ok (.aaload, 1) := by decide +kernel
theorem dX9_copy_30 : decode cX9_copy 30 = .ok (.astore 7, 2) := by decide +kernel
theorem dX9_copy_32 : decode cX9_copy 32 = .ok (.aload 6, 2) := by decide +kernel
theorem dX9_copy_34 : decode cX9_copy 34 = .ok (.getfield 251, 3) := by decide +kernel
theorem dX9_copy_37 : decode cX9_copy 37 = .ok (.ifCond .eq 11, 3) := by decide +kernel
theorem dX9_copy_40 : decode cX9_copy 40 = .ok (.aload 7, 2) := by decide +kernel
theorem dX9_copy_42 : decode cX9_copy 42 = .ok (.getfield 251, 3) := by decide +kernel
theorem dX9_copy_45 : decode cX9_copy 45 = .ok (.ifCond .ne 6, 3) := by decide +kernel
theorem dX9_copy_48 : decode cX9_copy 48 = .ok (.bipush (-11), 2) := by decide +kernel
theorem dX9_copy_50 : decode cX9_copy 50 = .ok (.ireturn, 1) := by decide +kernel
theorem dX9_copy_51 : decode cX9_copy 51 = .ok (.aload 6, 2) := by decide +kernel
theorem dX9_copy_53 : decode cX9_copy 53 = .ok (.getfield 257, 3) := by decide +kernel
theorem dX9_copy_56 : decode cX9_copy 56 = .ok (.aload 7, 2) := by decide +kernel
theorem dX9_copy_58 : decode cX9_copy 58 = .ok (.getfield 257, 3) := by decide +kernel
theorem dX9_copy_61 : decode cX9_copy 61 = .ok (.if_icmp .eq 6, 3) := by decide +kernel
theorem dX9_copy_64 : decode cX9_copy 64 = .ok (.bipush (-12), 2) := by decide +kernel
theorem dX9_copy_66 : decode cX9_copy 66 = .ok (.ireturn, 1) := by decide +kernel
theorem dX9_copy_67 : decode cX9_copy 67 = .ok (.aload 6, 2) := by decide +kernel
theorem dX9_copy_69 : decode cX9_copy 69 = .ok (.iload_n 2, 1) := by decide +kernel
theorem dX9_copy_70 : decode cX9_copy 70 = .ok (.iload 5, 2) := by decide +kernel
theorem dX9_copy_72 : decode cX9_copy 72 = .ok (.invokevirtual 260, 3) := by decide +kernel
theorem dX9_copy_75 : decode cX9_copy 75 = .ok (.ifCond .eq 15, 3) := by decide +kernel
theorem dX9_copy_78 : decode cX9_copy 78 = .ok (.aload 7, 2) := by decide +kernel
theorem dX9_copy_80 : decode cX9_copy 80 = .ok (.iload 4, 2) := by decide +kernel
theorem dX9_copy_82 : decode cX9_copy 82 = .ok (.iload 5, 2) := by decide +kernel
theorem dX9_copy_84 : decode cX9_copy 84 = .ok (.invokevirtual 260, 3) := by decide +kernel
theorem dX9_copy_87 : decode cX9_copy 87 = .ok (.ifCond .ne 6, 3) := by decide +kernel
theorem dX9_copy_90 : decode cX9_copy 90 = .ok (.bipush (-13), 2) := by decide +kernel
theorem dX9_copy_92 : decode cX9_copy 92 = .ok (.ireturn, 1) := by decide +kernel
theorem dX9_copy_93 : decode cX9_copy 93 = .ok (.aload 6, 2) := by decide +kernel
theorem dX9_copy_95 : decode cX9_copy 95 = .ok (.getfield 232, 3) := by decide +kernel
theorem dX9_copy_98 : decode cX9_copy 98 = .ok (.iload_n 2, 1) := by decide +kernel
theorem dX9_copy_99 : decode cX9_copy 99 = .ok (.aload 7, 2) := by decide +kernel
theorem dX9_copy_101 : decode cX9_copy 101 = .ok (.getfield 232, 3) := by decide +kernel
theorem dX9_copy_104 : decode cX9_copy 104 = .ok (.iload 4, 2) := by decide +kernel
theorem dX9_copy_106 : decode cX9_copy 106 = .ok (.iload 5, 2) := by decide +kernel
theorem dX9_copy_108 : decode cX9_copy 108 = .ok (.invokestatic 264, 3) := by decide +kernel
theorem dX9_copy_111 : decode cX9_copy 111 = .ok (.iload 5, 2) := by decide +kernel
theorem dX9_copy_113 : decode cX9_copy 113 = .ok (.ireturn, 1) := by decide +kernel
theorem dX9_within_0 : decode cX9_within 0 = .ok (.iload_n 0, 1) := by decide +kernel
theorem dX9_within_1 : decode cX9_within 1 = .ok (.iload_n 1, 1) := by decide +kernel
theorem dX9_within_2 : decode cX9_within 2 = .ok (.if_icmp .lt 12, 3) := by decide +kernel
theorem dX9_within_5 : decode cX9_within 5 = .ok (.iload_n 0, 1) := by decide +kernel
theorem dX9_within_6 : decode cX9_within 6 = .ok (.iload_n 2, 1) := by decide +kernel
theorem dX9_within_7 : decode cX9_within 7 = .ok (.if_icmp .gt 7, 3) := by decide +kernel
theorem dX9_within_10 : decode cX9_within 10 = .ok (.iconst 1, 1) := by decide +kernel
theorem dX9_within_11 : decode cX9_within 11 = .ok (.goto 4, 3) := by decide +kernel
theorem dX9_within_14 : decode cX9_within 14 = .ok (.iconst 0, 1) := by decide +kernel
theorem dX9_within_15 : decode cX9_within 15 = .ok (.ireturn, 1) := by decide +kernel
theorem dX9_isSheet_0 : decode cX9_isSheet 0 = .ok (.iload_n 0, 1) := by decide +kernel
theorem dX9_isSheet_1 : decode cX9_isSheet 1 = .ok (.iconst 0, 1) := by decide +kernel
theorem dX9_isSheet_2 : decode cX9_isSheet 2 = .ok (.iconst 3, 1) := by decide +kernel
theorem dX9_isSheet_3 : decode cX9_isSheet 3 = .ok (.invokestatic 40, 3) := by decide +kernel
theorem dX9_isSheet_6 : decode cX9_isSheet 6 = .ok (.ireturn, 1) := by decide +kernel
theorem dX9_isLane_0 : decode cX9_isLane 0 = .ok (.iload_n 0, 1) := by decide +kernel
theorem dX9_isLane_1 : decode cX9_isLane 1 = .ok (.iconst 0, 1) := by decide +kernel
theorem dX9_isLane_2 : decode cX9_isLane 2 = .ok (.iconst 3, 1) := by decide +kernel
theorem dX9_isLane_3 : decode cX9_isLane 3 = .ok (.invokestatic 40, 3) := by decide +kernel
theorem dX9_isLane_6 : decode cX9_isLane 6 = .ok (.ireturn, 1) := by decide +kernel
theorem dX9_commonDivisor_0 : decode cX9_commonDivisor 0 = .ok (.iload_n 0, 1) := by decide +kernel
theorem dX9_commonDivisor_1 : decode cX9_commonDivisor 1 = .ok (.istore_n 2, 1) := by decide +kernel
theorem dX9_commonDivisor_2 : decode cX9_commonDivisor 2 = .ok (.iload_n 1, 1) := by decide +kernel
theorem dX9_commonDivisor_3 : decode cX9_commonDivisor 3 = .ok (.istore_n 3, 1) := by decide +kernel
theorem dX9_commonDivisor_4 : decode cX9_commonDivisor 4 = .ok (.iconst 0, 1) := by decide +kernel
theorem dX9_commonDivisor_5 : decode cX9_commonDivisor 5 = .ok (.istore 4, 2) := by decide +kernel
theorem dX9_commonDivisor_7 : decode cX9_commonDivisor 7 = .ok (.iload 4, 2) := by decide +kernel
theorem dX9_commonDivisor_9 : decode cX9_commonDivisor 9 = .ok (.bipush 100, 2) := by decide +kernel
theorem dX9_commonDivisor_11 : decode cX9_commonDivisor 11 = .ok (.if_icmp .ge 23, 3) := by decide +kernel
theorem dX9_commonDivisor_14 : decode cX9_commonDivisor 14 = .ok (.iload_n 3, 1) := by decide +kernel
theorem dX9_commonDivisor_15 : decode cX9_commonDivisor 15 = .ok (.ifCond .eq 19, 3) := by decide +kernel
theorem dX9_commonDivisor_18 : decode cX9_commonDivisor 18 = .ok (.iload_n 2, 1) := by decide +kernel
theorem dX9_commonDivisor_19 : decode cX9_commonDivisor 19 = .ok (.iload_n 3, 1) := by decide +kernel
theorem dX9_commonDivisor_20 : decode cX9_commonDivisor 20 = .ok (.irem, 1) := by decide +kernel
theorem dX9_commonDivisor_21 : decode cX9_commonDivisor 21 = .ok (.istore 5, 2) := by decide +kernel
theorem dX9_commonDivisor_23 : decode cX9_commonDivisor 23 = .ok (.iload_n 3, 1) := by decide +kernel
theorem dX9_commonDivisor_24 : decode cX9_commonDivisor 24 = .ok (.istore_n 2, 1) := by decide +kernel
theorem dX9_commonDivisor_25 : decode cX9_commonDivisor 25 = .ok (.iload 5, 2) := by decide +kernel
theorem dX9_commonDivisor_27 : decode cX9_commonDivisor 27 = .ok (.istore_n 3, 1) := by decide +kernel
theorem dX9_commonDivisor_28 : decode cX9_commonDivisor 28 = .ok (.iinc 4 1, 3) := by decide +kernel
theorem dX9_commonDivisor_31 : decode cX9_commonDivisor 31 = .ok (.goto (-24), 3) := by decide +kernel
theorem dX9_commonDivisor_34 : decode cX9_commonDivisor 34 = .ok (.iload_n 2, 1) := by decide +kernel
theorem dX9_commonDivisor_35 : decode cX9_commonDivisor 35 = .ok (.ireturn, 1) := by decide +kernel
theorem dJ6_bitCount_0f7a4_0 : decode cJ6_bitCount_0f7a4 0 = .ok (.iload_n 0, 1) := by decide +kernel
theorem dJ6_bitCount_0f7a4_1 : decode cJ6_bitCount_0f7a4 1 = .ok (.iload_n 0, 1) := by decide +kernel
theorem dJ6_bitCount_0f7a4_2 : decode cJ6_bitCount_0f7a4 2 = .ok (.iconst 1, 1) := by decide +kernel
theorem dJ6_bitCount_0f7a4_3 : decode cJ6_bitCount_0f7a4 3 = .ok (.iushr, 1) := by decide +kernel
theorem dJ6_bitCount_0f7a4_4 : decode cJ6_bitCount_0f7a4 4 = .ok (.ldc_w 265, 3) := by decide +kernel
theorem dJ6_bitCount_0f7a4_7 : decode cJ6_bitCount_0f7a4 7 = .ok (.iand, 1) := by decide +kernel
theorem dJ6_bitCount_0f7a4_8 : decode cJ6_bitCount_0f7a4 8 = .ok (.isub, 1) := by decide +kernel
theorem dJ6_bitCount_0f7a4_9 : decode cJ6_bitCount_0f7a4 9 = .ok (.istore_n 0, 1) := by decide +kernel
theorem dJ6_bitCount_0f7a4_10 : decode cJ6_bitCount_0f7a4 10 = .ok (.iload_n 0, 1) := by decide +kernel
theorem dJ6_bitCount_0f7a4_11 : decode cJ6_bitCount_0f7a4 11 = .ok (.ldc_w 266, 3) := by decide +kernel
theorem dJ6_bitCount_0f7a4_14 : decode cJ6_bitCount_0f7a4 14 = .ok (.iand, 1) := by decide +kernel
theorem dJ6_bitCount_0f7a4_15 : decode cJ6_bitCount_0f7a4 15 = .ok (.iload_n 0, 1) := by decide +kernel
theorem dJ6_bitCount_0f7a4_16 : decode cJ6_bitCount_0f7a4 16 = .ok (.iconst 2, 1) := by decide +kernel
theorem dJ6_bitCount_0f7a4_17 : decode cJ6_bitCount_0f7a4 17 = .ok (.iushr, 1) := by decide +kernel
theorem dJ6_bitCount_0f7a4_18 : decode cJ6_bitCount_0f7a4 18 = .ok (.ldc_w 266, 3) := by decide +kernel
theorem dJ6_bitCount_0f7a4_21 : decode cJ6_bitCount_0f7a4 21 = .ok (.iand, 1) := by decide +kernel
theorem dJ6_bitCount_0f7a4_22 : decode cJ6_bitCount_0f7a4 22 = .ok (.iadd, 1) := by decide +kernel
theorem dJ6_bitCount_0f7a4_23 : decode cJ6_bitCount_0f7a4 23 = .ok (.istore_n 0, 1) := by decide +kernel
theorem dJ6_bitCount_0f7a4_24 : decode cJ6_bitCount_0f7a4 24 = .ok (.iload_n 0, 1) := by decide +kernel
theorem dJ6_bitCount_0f7a4_25 : decode cJ6_bitCount_0f7a4 25 = .ok (.iload_n 0, 1) := by decide +kernel
theorem dJ6_bitCount_0f7a4_26 : decode cJ6_bitCount_0f7a4 26 = .ok (.iconst 4, 1) := by decide +kernel
theorem dJ6_bitCount_0f7a4_27 : decode cJ6_bitCount_0f7a4 27 = .ok (.iushr, 1) := by decide +kernel
theorem dJ6_bitCount_0f7a4_28 : decode cJ6_bitCount_0f7a4 28 = .ok (.iadd, 1) := by decide +kernel
theorem dJ6_bitCount_0f7a4_29 : decode cJ6_bitCount_0f7a4 29 = .ok (.ldc_w 267, 3) := by decide +kernel
theorem dJ6_bitCount_0f7a4_32 : decode cJ6_bitCount_0f7a4 32 = .ok (.iand, 1) := by decide +kernel
theorem dJ6_bitCount_0f7a4_33 : decode cJ6_bitCount_0f7a4 33 = .ok (.istore_n 0, 1) := by decide +kernel
theorem dJ6_bitCount_0f7a4_34 : decode cJ6_bitCount_0f7a4 34 = .ok (.iload_n 0, 1) := by decide +kernel
theorem dJ6_bitCount_0f7a4_35 : decode cJ6_bitCount_0f7a4 35 = .ok (.iload_n 0, 1) := by decide +kernel
theorem dJ6_bitCount_0f7a4_36 : decode cJ6_bitCount_0f7a4 36 = .ok (.bipush 8, 2) := by decide +kernel
theorem dJ6_bitCount_0f7a4_38 : decode cJ6_bitCount_0f7a4 38 = .ok (.iushr, 1) := by decide +kernel
theorem dJ6_bitCount_0f7a4_39 : decode cJ6_bitCount_0f7a4 39 = .ok (.iadd, 1) := by decide +kernel
theorem dJ6_bitCount_0f7a4_40 : decode cJ6_bitCount_0f7a4 40 = .ok (.istore_n 0, 1) := by decide +kernel
theorem dJ6_bitCount_0f7a4_41 : decode cJ6_bitCount_0f7a4 41 = .ok (.iload_n 0, 1) := by decide +kernel
theorem dJ6_bitCount_0f7a4_42 : decode cJ6_bitCount_0f7a4 42 = .ok (.iload_n 0, 1) := by decide +kernel
theorem dJ6_bitCount_0f7a4_43 : decode cJ6_bitCount_0f7a4 43 = .ok (.bipush 16, 2) := by decide +kernel
theorem dJ6_bitCount_0f7a4_45 : decode cJ6_bitCount_0f7a4 45 = .ok (.iushr, 1) := by decide +kernel
theorem dJ6_bitCount_0f7a4_46 : decode cJ6_bitCount_0f7a4 46 = .ok (.iadd, 1) := by decide +kernel
theorem dJ6_bitCount_0f7a4_47 : decode cJ6_bitCount_0f7a4 47 = .ok (.istore_n 0, 1) := by decide +kernel
theorem dJ6_bitCount_0f7a4_48 : decode cJ6_bitCount_0f7a4 48 = .ok (.iload_n 0, 1) := by decide +kernel
theorem dJ6_bitCount_0f7a4_49 : decode cJ6_bitCount_0f7a4 49 = .ok (.bipush 63, 2) := by decide +kernel
theorem dJ6_bitCount_0f7a4_51 : decode cJ6_bitCount_0f7a4 51 = .ok (.iand, 1) := by decide +kernel
theorem dJ6_bitCount_0f7a4_52 : decode cJ6_bitCount_0f7a4 52 = .ok (.ireturn, 1) := by decide +kernel
theorem dJ9_min_7cf53_0 : decode cJ9_min_7cf53 0 = .ok (.iload_n 0, 1) := by decide +kernel
theorem dJ9_min_7cf53_1 : decode cJ9_min_7cf53 1 = .ok (.iload_n 1, 1) := by decide +kernel
theorem dJ9_min_7cf53_2 : decode cJ9_min_7cf53 2 = .ok (.if_icmp .gt 7, 3) := by decide +kernel
theorem dJ9_min_7cf53_5 : decode cJ9_min_7cf53 5 = .ok (.iload_n 0, 1) := by decide +kernel
theorem dJ9_min_7cf53_6 : decode cJ9_min_7cf53 6 = .ok (.goto 4, 3) := by decide +kernel
theorem dJ9_min_7cf53_9 : decode cJ9_min_7cf53 9 = .ok (.iload_n 1, 1) := by decide +kernel
theorem dJ9_min_7cf53_10 : decode cJ9_min_7cf53 10 = .ok (.ireturn, 1) := by decide +kernel
theorem dL_law_0 : decode cL_law 0 = .ok (.new 7, 3) := by decide +kernel
theorem dL_law_3 : decode cL_law 3 = .ok (.dup, 1) := by decide +kernel
theorem dL_law_4 : decode cL_law 4 = .ok (.invokespecial 9, 3) := by decide +kernel
theorem dL_law_7 : decode cL_law 7 = .ok (.astore_n 1, 1) := by decide +kernel
theorem dL_law_8 : decode cL_law 8 = .ok (.new 10, 3) := by decide +kernel
theorem dL_law_11 : decode cL_law 11 = .ok (.dup, 1) := by decide +kernel
theorem dL_law_12 : decode cL_law 12 = .ok (.invokespecial 12, 3) := by decide +kernel
theorem dL_law_15 : decode cL_law 15 = .ok (.astore_n 2, 1) := by decide +kernel
theorem dL_law_16 : decode cL_law 16 = .ok (.iconst 0, 1) := by decide +kernel
theorem dL_law_17 : decode cL_law 17 = .ok (.istore_n 3, 1) := by decide +kernel
theorem dL_law_18 : decode cL_law 18 = .ok (.iload_n 3, 1) := by decide +kernel
theorem dL_law_19 : decode cL_law 19 = .ok (.aload_n 0, 1) := by decide +kernel
theorem dL_law_20 : decode cL_law 20 = .ok (.arraylength, 1) := by decide +kernel
theorem dL_law_21 : decode cL_law 21 = .ok (.bipush 6, 2) := by decide +kernel
theorem dL_law_23 : decode cL_law 23 = .ok (.isub, 1) := by decide +kernel
theorem dL_law_24 : decode cL_law 24 = .ok (.if_icmp .gt 1073, 3) := by decide +kernel
theorem dL_law_27 : decode cL_law 27 = .ok (.aload_n 0, 1) := by decide +kernel
theorem dL_law_28 : decode cL_law 28 = .ok (.iload_n 3, 1) := by decide +kernel
theorem dL_law_29 : decode cL_law 29 = .ok (.iaload, 1) := by decide +kernel
theorem dL_law_30 : decode cL_law 30 = .ok (.bipush 31, 2) := by decide +kernel
theorem dL_law_32 : decode cL_law 32 = .ok (.iand, 1) := by decide +kernel
theorem dL_law_33 : decode cL_law 33 = .ok (.tableswitch 1058 0 28 #[131, 174, 207, 240, 273, 306, 329, 342, 365, 388, 411, 434, 447, 470, 483, 516, 539, 572, 605, 638, 661, 694, 707, 720, 783, 846, 889, 912, 995], 131) := by decide +kernel
theorem dL_law_164 : decode cL_law 164 = .ok (.aload_n 1, 1) := by decide +kernel
theorem dL_law_165 : decode cL_law 165 = .ok (.aload_n 0, 1) := by decide +kernel
theorem dL_law_166 : decode cL_law 166 = .ok (.iload_n 3, 1) := by decide +kernel
theorem dL_law_167 : decode cL_law 167 = .ok (.iconst 1, 1) := by decide +kernel
theorem dL_law_168 : decode cL_law 168 = .ok (.iadd, 1) := by decide +kernel
theorem dL_law_169 : decode cL_law 169 = .ok (.iaload, 1) := by decide +kernel
theorem dL_law_170 : decode cL_law 170 = .ok (.aload_n 0, 1) := by decide +kernel
theorem dL_law_171 : decode cL_law 171 = .ok (.iload_n 3, 1) := by decide +kernel
theorem dL_law_172 : decode cL_law 172 = .ok (.iconst 2, 1) := by decide +kernel
theorem dL_law_173 : decode cL_law 173 = .ok (.iadd, 1) := by decide +kernel
theorem dL_law_174 : decode cL_law 174 = .ok (.iaload, 1) := by decide +kernel
theorem dL_law_175 : decode cL_law 175 = .ok (.aload_n 0, 1) := by decide +kernel
theorem dL_law_176 : decode cL_law 176 = .ok (.iload_n 3, 1) := by decide +kernel
theorem dL_law_177 : decode cL_law 177 = .ok (.iconst 3, 1) := by decide +kernel
theorem dL_law_178 : decode cL_law 178 = .ok (.iadd, 1) := by decide +kernel
theorem dL_law_179 : decode cL_law 179 = .ok (.iaload, 1) := by decide +kernel
theorem dL_law_180 : decode cL_law 180 = .ok (.invokevirtual 13, 3) := by decide +kernel
theorem dL_law_183 : decode cL_law 183 = .ok (.aload_n 2, 1) := by decide +kernel
theorem dL_law_184 : decode cL_law 184 = .ok (.aload_n 0, 1) := by decide +kernel
theorem dL_law_185 : decode cL_law 185 = .ok (.iload_n 3, 1) := by decide +kernel
theorem dL_law_186 : decode cL_law 186 = .ok (.iconst 1, 1) := by decide +kernel
theorem dL_law_187 : decode cL_law 187 = .ok (.iadd, 1) := by decide +kernel
theorem dL_law_188 : decode cL_law 188 = .ok (.iaload, 1) := by decide +kernel
theorem dL_law_189 : decode cL_law 189 = .ok (.aload_n 0, 1) := by decide +kernel
theorem dL_law_190 : decode cL_law 190 = .ok (.iload_n 3, 1) := by decide +kernel
theorem dL_law_191 : decode cL_law 191 = .ok (.iconst 2, 1) := by decide +kernel
theorem dL_law_192 : decode cL_law 192 = .ok (.iadd, 1) := by decide +kernel
theorem dL_law_193 : decode cL_law 193 = .ok (.iaload, 1) := by decide +kernel
theorem dL_law_194 : decode cL_law 194 = .ok (.aload_n 0, 1) := by decide +kernel
theorem dL_law_195 : decode cL_law 195 = .ok (.iload_n 3, 1) := by decide +kernel
theorem dL_law_196 : decode cL_law 196 = .ok (.iconst 3, 1) := by decide +kernel
theorem dL_law_197 : decode cL_law 197 = .ok (.iadd, 1) := by decide +kernel
theorem dL_law_198 : decode cL_law 198 = .ok (.iaload, 1) := by decide +kernel
theorem dL_law_199 : decode cL_law 199 = .ok (.invokevirtual 17, 3) := by decide +kernel
theorem dL_law_202 : decode cL_law 202 = .ok (.if_icmp .eq 889, 3) := by decide +kernel
theorem dL_law_205 : decode cL_law 205 = .ok (.iconst 0, 1) := by decide +kernel
theorem dL_law_206 : decode cL_law 206 = .ok (.ireturn, 1) := by decide +kernel
theorem dL_law_207 : decode cL_law 207 = .ok (.aload_n 1, 1) := by decide +kernel
theorem dL_law_208 : decode cL_law 208 = .ok (.aload_n 0, 1) := by decide +kernel
theorem dL_law_209 : decode cL_law 209 = .ok (.iload_n 3, 1) := by decide +kernel
theorem dL_law_210 : decode cL_law 210 = .ok (.iconst 1, 1) := by decide +kernel
theorem dL_law_211 : decode cL_law 211 = .ok (.iadd, 1) := by decide +kernel
theorem dL_law_212 : decode cL_law 212 = .ok (.iaload, 1) := by decide +kernel
theorem dL_law_213 : decode cL_law 213 = .ok (.aload_n 0, 1) := by decide +kernel
theorem dL_law_214 : decode cL_law 214 = .ok (.iload_n 3, 1) := by decide +kernel
theorem dL_law_215 : decode cL_law 215 = .ok (.iconst 2, 1) := by decide +kernel
theorem dL_law_216 : decode cL_law 216 = .ok (.iadd, 1) := by decide +kernel
theorem dL_law_217 : decode cL_law 217 = .ok (.iaload, 1) := by decide +kernel
theorem dL_law_218 : decode cL_law 218 = .ok (.invokevirtual 18, 3) := by decide +kernel
theorem dL_law_221 : decode cL_law 221 = .ok (.aload_n 2, 1) := by decide +kernel
theorem dL_law_222 : decode cL_law 222 = .ok (.aload_n 0, 1) := by decide +kernel
theorem dL_law_223 : decode cL_law 223 = .ok (.iload_n 3, 1) := by decide +kernel
theorem dL_law_224 : decode cL_law 224 = .ok (.iconst 1, 1) := by decide +kernel
theorem dL_law_225 : decode cL_law 225 = .ok (.iadd, 1) := by decide +kernel
theorem dL_law_226 : decode cL_law 226 = .ok (.iaload, 1) := by decide +kernel
theorem dL_law_227 : decode cL_law 227 = .ok (.aload_n 0, 1) := by decide +kernel
theorem dL_law_228 : decode cL_law 228 = .ok (.iload_n 3, 1) := by decide +kernel
theorem dL_law_229 : decode cL_law 229 = .ok (.iconst 2, 1) := by decide +kernel
theorem dL_law_230 : decode cL_law 230 = .ok (.iadd, 1) := by decide +kernel
theorem dL_law_231 : decode cL_law 231 = .ok (.iaload, 1) := by decide +kernel
theorem dL_law_232 : decode cL_law 232 = .ok (.invokevirtual 22, 3) := by decide +kernel
theorem dL_law_235 : decode cL_law 235 = .ok (.if_icmp .eq 856, 3) := by decide +kernel
theorem dL_law_238 : decode cL_law 238 = .ok (.iconst 0, 1) := by decide +kernel
theorem dL_law_239 : decode cL_law 239 = .ok (.ireturn, 1) := by decide +kernel
theorem dL_law_240 : decode cL_law 240 = .ok (.aload_n 1, 1) := by decide +kernel
theorem dL_law_241 : decode cL_law 241 = .ok (.aload_n 0, 1) := by decide +kernel
theorem dL_law_242 : decode cL_law 242 = .ok (.iload_n 3, 1) := by decide +kernel
theorem dL_law_243 : decode cL_law 243 = .ok (.iconst 1, 1) := by decide +kernel
theorem dL_law_244 : decode cL_law 244 = .ok (.iadd, 1) := by decide +kernel
theorem dL_law_245 : decode cL_law 245 = .ok (.iaload, 1) := by decide +kernel
theorem dL_law_246 : decode cL_law 246 = .ok (.aload_n 0, 1) := by decide +kernel
theorem dL_law_247 : decode cL_law 247 = .ok (.iload_n 3, 1) := by decide +kernel
theorem dL_law_248 : decode cL_law 248 = .ok (.iconst 2, 1) := by decide +kernel
theorem dL_law_249 : decode cL_law 249 = .ok (.iadd, 1) := by decide +kernel
theorem dL_law_250 : decode cL_law 250 = .ok (.iaload, 1) := by decide +kernel
theorem dL_law_251 : decode cL_law 251 = .ok (.invokevirtual 23, 3) := by decide +kernel
theorem dL_law_254 : decode cL_law 254 = .ok (.aload_n 2, 1) := by decide +kernel
theorem dL_law_255 : decode cL_law 255 = .ok (.aload_n 0, 1) := by decide +kernel
theorem dL_law_256 : decode cL_law 256 = .ok (.iload_n 3, 1) := by decide +kernel
theorem dL_law_257 : decode cL_law 257 = .ok (.iconst 1, 1) := by decide +kernel
theorem dL_law_258 : decode cL_law 258 = .ok (.iadd, 1) := by decide +kernel
theorem dL_law_259 : decode cL_law 259 = .ok (.iaload, 1) := by decide +kernel
theorem dL_law_260 : decode cL_law 260 = .ok (.aload_n 0, 1) := by decide +kernel
theorem dL_law_261 : decode cL_law 261 = .ok (.iload_n 3, 1) := by decide +kernel
theorem dL_law_262 : decode cL_law 262 = .ok (.iconst 2, 1) := by decide +kernel
theorem dL_law_263 : decode cL_law 263 = .ok (.iadd, 1) := by decide +kernel
theorem dL_law_264 : decode cL_law 264 = .ok (.iaload, 1) := by decide +kernel
theorem dL_law_265 : decode cL_law 265 = .ok (.invokevirtual 26, 3) := by decide +kernel
theorem dL_law_268 : decode cL_law 268 = .ok (.if_icmp .eq 823, 3) := by decide +kernel
theorem dL_law_271 : decode cL_law 271 = .ok (.iconst 0, 1) := by decide +kernel
theorem dL_law_272 : decode cL_law 272 = .ok (.ireturn, 1) := by decide +kernel
theorem dL_law_273 : decode cL_law 273 = .ok (.aload_n 1, 1) := by decide +kernel
theorem dL_law_274 : decode cL_law 274 = .ok (.aload_n 0, 1) := by decide +kernel
theorem dL_law_275 : decode cL_law 275 = .ok (.iload_n 3, 1) := by decide +kernel
theorem dL_law_276 : decode cL_law 276 = .ok (.iconst 1, 1) := by decide +kernel
theorem dL_law_277 : decode cL_law 277 = .ok (.iadd, 1) := by decide +kernel
theorem dL_law_278 : decode cL_law 278 = .ok (.iaload, 1) := by decide +kernel
theorem dL_law_279 : decode cL_law 279 = .ok (.aload_n 0, 1) := by decide +kernel
theorem dL_law_280 : decode cL_law 280 = .ok (.iload_n 3, 1) := by decide +kernel
theorem dL_law_281 : decode cL_law 281 = .ok (.iconst 2, 1) := by decide +kernel
theorem dL_law_282 : decode cL_law 282 = .ok (.iadd, 1) := by decide +kernel
theorem dL_law_283 : decode cL_law 283 = .ok (.iaload, 1) := by decide +kernel
theorem dL_law_284 : decode cL_law 284 = .ok (.invokevirtual 27, 3) := by decide +kernel
theorem dL_law_287 : decode cL_law 287 = .ok (.aload_n 2, 1) := by decide +kernel
theorem dL_law_288 : decode cL_law 288 = .ok (.aload_n 0, 1) := by decide +kernel
theorem dL_law_289 : decode cL_law 289 = .ok (.iload_n 3, 1) := by decide +kernel
theorem dL_law_290 : decode cL_law 290 = .ok (.iconst 1, 1) := by decide +kernel
theorem dL_law_291 : decode cL_law 291 = .ok (.iadd, 1) := by decide +kernel
theorem dL_law_292 : decode cL_law 292 = .ok (.iaload, 1) := by decide +kernel
theorem dL_law_293 : decode cL_law 293 = .ok (.aload_n 0, 1) := by decide +kernel
theorem dL_law_294 : decode cL_law 294 = .ok (.iload_n 3, 1) := by decide +kernel
theorem dL_law_295 : decode cL_law 295 = .ok (.iconst 2, 1) := by decide +kernel
theorem dL_law_296 : decode cL_law 296 = .ok (.iadd, 1) := by decide +kernel
theorem dL_law_297 : decode cL_law 297 = .ok (.iaload, 1) := by decide +kernel
theorem dL_law_298 : decode cL_law 298 = .ok (.invokevirtual 30, 3) := by decide +kernel
theorem dL_law_301 : decode cL_law 301 = .ok (.if_icmp .eq 790, 3) := by decide +kernel
theorem dL_law_304 : decode cL_law 304 = .ok (.iconst 0, 1) := by decide +kernel
theorem dL_law_305 : decode cL_law 305 = .ok (.ireturn, 1) := by decide +kernel
theorem dL_law_306 : decode cL_law 306 = .ok (.aload_n 1, 1) := by decide +kernel
theorem dL_law_307 : decode cL_law 307 = .ok (.aload_n 0, 1) := by decide +kernel
theorem dL_law_308 : decode cL_law 308 = .ok (.iload_n 3, 1) := by decide +kernel
theorem dL_law_309 : decode cL_law 309 = .ok (.iconst 1, 1) := by decide +kernel
theorem dL_law_310 : decode cL_law 310 = .ok (.iadd, 1) := by decide +kernel
theorem dL_law_311 : decode cL_law 311 = .ok (.iaload, 1) := by decide +kernel
theorem dL_law_312 : decode cL_law 312 = .ok (.aload_n 0, 1) := by decide +kernel
theorem dL_law_313 : decode cL_law 313 = .ok (.iload_n 3, 1) := by decide +kernel
theorem dL_law_314 : decode cL_law 314 = .ok (.iconst 2, 1) := by decide +kernel
theorem dL_law_315 : decode cL_law 315 = .ok (.iadd, 1) := by decide +kernel
theorem dL_law_316 : decode cL_law 316 = .ok (.iaload, 1) := by decide +kernel
theorem dL_law_317 : decode cL_law 317 = .ok (.invokevirtual 31, 3) := by decide +kernel
theorem dL_law_320 : decode cL_law 320 = .ok (.aload_n 2, 1) := by decide +kernel
theorem dL_law_321 : decode cL_law 321 = .ok (.aload_n 0, 1) := by decide +kernel
theorem dL_law_322 : decode cL_law 322 = .ok (.iload_n 3, 1) := by decide +kernel
theorem dL_law_323 : decode cL_law 323 = .ok (.iconst 1, 1) := by decide +kernel
theorem dL_law_324 : decode cL_law 324 = .ok (.iadd, 1) := by decide +kernel
theorem dL_law_325 : decode cL_law 325 = .ok (.iaload, 1) := by decide +kernel
theorem dL_law_326 : decode cL_law 326 = .ok (.aload_n 0, 1) := by decide +kernel
theorem dL_law_327 : decode cL_law 327 = .ok (.iload_n 3, 1) := by decide +kernel
theorem dL_law_328 : decode cL_law 328 = .ok (.iconst 2, 1) := by decide +kernel
theorem dL_law_329 : decode cL_law 329 = .ok (.iadd, 1) := by decide +kernel
theorem dL_law_330 : decode cL_law 330 = .ok (.iaload, 1) := by decide +kernel
theorem dL_law_331 : decode cL_law 331 = .ok (.invokevirtual 34, 3) := by decide +kernel
theorem dL_law_334 : decode cL_law 334 = .ok (.if_icmp .eq 757, 3) := by decide +kernel
theorem dL_law_337 : decode cL_law 337 = .ok (.iconst 0, 1) := by decide +kernel
theorem dL_law_338 : decode cL_law 338 = .ok (.ireturn, 1) := by decide +kernel
theorem dL_law_339 : decode cL_law 339 = .ok (.aload_n 1, 1) := by decide +kernel
theorem dL_law_340 : decode cL_law 340 = .ok (.aload_n 0, 1) := by decide +kernel
theorem dL_law_341 : decode cL_law 341 = .ok (.iload_n 3, 1) := by decide +kernel
theorem dL_law_342 : decode cL_law 342 = .ok (.iconst 1, 1) := by decide +kernel
theorem dL_law_343 : decode cL_law 343 = .ok (.iadd, 1) := by decide +kernel
theorem dL_law_344 : decode cL_law 344 = .ok (.iaload, 1) := by decide +kernel
theorem dL_law_345 : decode cL_law 345 = .ok (.invokevirtual 35, 3) := by decide +kernel
theorem dL_law_348 : decode cL_law 348 = .ok (.aload_n 2, 1) := by decide +kernel
theorem dL_law_349 : decode cL_law 349 = .ok (.aload_n 0, 1) := by decide +kernel
theorem dL_law_350 : decode cL_law 350 = .ok (.iload_n 3, 1) := by decide +kernel
theorem dL_law_351 : decode cL_law 351 = .ok (.iconst 1, 1) := by decide +kernel
theorem dL_law_352 : decode cL_law 352 = .ok (.iadd, 1) := by decide +kernel
theorem dL_law_353 : decode cL_law 353 = .ok (.iaload, 1) := by decide +kernel
theorem dL_law_354 : decode cL_law 354 = .ok (.invokevirtual 39, 3) := by decide +kernel
theorem dL_law_357 : decode cL_law 357 = .ok (.if_icmp .eq 734, 3) := by decide +kernel
theorem dL_law_360 : decode cL_law 360 = .ok (.iconst 0, 1) := by decide +kernel
theorem dL_law_361 : decode cL_law 361 = .ok (.ireturn, 1) := by decide +kernel
theorem dL_law_362 : decode cL_law 362 = .ok (.aload_n 1, 1) := by decide +kernel
theorem dL_law_363 : decode cL_law 363 = .ok (.invokevirtual 40, 3) := by decide +kernel
theorem dL_law_366 : decode cL_law 366 = .ok (.aload_n 2, 1) := by decide +kernel
theorem dL_law_367 : decode cL_law 367 = .ok (.invokevirtual 44, 3) := by decide +kernel
theorem dL_law_370 : decode cL_law 370 = .ok (.if_icmp .eq 721, 3) := by decide +kernel
theorem dL_law_373 : decode cL_law 373 = .ok (.iconst 0, 1) := by decide +kernel
theorem dL_law_374 : decode cL_law 374 = .ok (.ireturn, 1) := by decide +kernel
theorem dL_law_375 : decode cL_law 375 = .ok (.aload_n 1, 1) := by decide +kernel
theorem dL_law_376 : decode cL_law 376 = .ok (.aload_n 0, 1) := by decide +kernel
theorem dL_law_377 : decode cL_law 377 = .ok (.iload_n 3, 1) := by decide +kernel
theorem dL_law_378 : decode cL_law 378 = .ok (.iconst 1, 1) := by decide +kernel
theorem dL_law_379 : decode cL_law 379 = .ok (.iadd, 1) := by decide +kernel
theorem dL_law_380 : decode cL_law 380 = .ok (.iaload, 1) := by decide +kernel
theorem dL_law_381 : decode cL_law 381 = .ok (.invokevirtual 45, 3) := by decide +kernel
theorem dL_law_384 : decode cL_law 384 = .ok (.aload_n 2, 1) := by decide +kernel
theorem dL_law_385 : decode cL_law 385 = .ok (.aload_n 0, 1) := by decide +kernel
theorem dL_law_386 : decode cL_law 386 = .ok (.iload_n 3, 1) := by decide +kernel
theorem dL_law_387 : decode cL_law 387 = .ok (.iconst 1, 1) := by decide +kernel
theorem dL_law_388 : decode cL_law 388 = .ok (.iadd, 1) := by decide +kernel
theorem dL_law_389 : decode cL_law 389 = .ok (.iaload, 1) := by decide +kernel
theorem dL_law_390 : decode cL_law 390 = .ok (.invokevirtual 48, 3) := by decide +kernel
theorem dL_law_393 : decode cL_law 393 = .ok (.if_icmp .eq 698, 3) := by decide +kernel
theorem dL_law_396 : decode cL_law 396 = .ok (.iconst 0, 1) := by decide +kernel
theorem dL_law_397 : decode cL_law 397 = .ok (.ireturn, 1) := by decide +kernel
theorem dL_law_398 : decode cL_law 398 = .ok (.aload_n 1, 1) := by decide +kernel
theorem dL_law_399 : decode cL_law 399 = .ok (.aload_n 0, 1) := by decide +kernel
theorem dL_law_400 : decode cL_law 400 = .ok (.iload_n 3, 1) := by decide +kernel
theorem dL_law_401 : decode cL_law 401 = .ok (.iconst 1, 1) := by decide +kernel
theorem dL_law_402 : decode cL_law 402 = .ok (.iadd, 1) := by decide +kernel
theorem dL_law_403 : decode cL_law 403 = .ok (.iaload, 1) := by decide +kernel
theorem dL_law_404 : decode cL_law 404 = .ok (.invokevirtual 49, 3) := by decide +kernel
theorem dL_law_407 : decode cL_law 407 = .ok (.aload_n 2, 1) := by decide +kernel
theorem dL_law_408 : decode cL_law 408 = .ok (.aload_n 0, 1) := by decide +kernel
theorem dL_law_409 : decode cL_law 409 = .ok (.iload_n 3, 1) := by decide +kernel
theorem dL_law_410 : decode cL_law 410 = .ok (.iconst 1, 1) := by decide +kernel
theorem dL_law_411 : decode cL_law 411 = .ok (.iadd, 1) := by decide +kernel
theorem dL_law_412 : decode cL_law 412 = .ok (.iaload, 1) := by decide +kernel
theorem dL_law_413 : decode cL_law 413 = .ok (.invokevirtual 52, 3) := by decide +kernel
theorem dL_law_416 : decode cL_law 416 = .ok (.if_icmp .eq 675, 3) := by decide +kernel
theorem dL_law_419 : decode cL_law 419 = .ok (.iconst 0, 1) := by decide +kernel
theorem dL_law_420 : decode cL_law 420 = .ok (.ireturn, 1) := by decide +kernel
theorem dL_law_421 : decode cL_law 421 = .ok (.aload_n 1, 1) := by decide +kernel
theorem dL_law_422 : decode cL_law 422 = .ok (.aload_n 0, 1) := by decide +kernel
theorem dL_law_423 : decode cL_law 423 = .ok (.iload_n 3, 1) := by decide +kernel
theorem dL_law_424 : decode cL_law 424 = .ok (.iconst 1, 1) := by decide +kernel
theorem dL_law_425 : decode cL_law 425 = .ok (.iadd, 1) := by decide +kernel
theorem dL_law_426 : decode cL_law 426 = .ok (.iaload, 1) := by decide +kernel
theorem dL_law_427 : decode cL_law 427 = .ok (.invokevirtual 53, 3) := by decide +kernel
theorem dL_law_430 : decode cL_law 430 = .ok (.aload_n 2, 1) := by decide +kernel
theorem dL_law_431 : decode cL_law 431 = .ok (.aload_n 0, 1) := by decide +kernel
theorem dL_law_432 : decode cL_law 432 = .ok (.iload_n 3, 1) := by decide +kernel
theorem dL_law_433 : decode cL_law 433 = .ok (.iconst 1, 1) := by decide +kernel
theorem dL_law_434 : decode cL_law 434 = .ok (.iadd, 1) := by decide +kernel
theorem dL_law_435 : decode cL_law 435 = .ok (.iaload, 1) := by decide +kernel
theorem dL_law_436 : decode cL_law 436 = .ok (.invokevirtual 56, 3) := by decide +kernel
theorem dL_law_439 : decode cL_law 439 = .ok (.if_icmp .eq 652, 3) := by decide +kernel
theorem dL_law_442 : decode cL_law 442 = .ok (.iconst 0, 1) := by decide +kernel
theorem dL_law_443 : decode cL_law 443 = .ok (.ireturn, 1) := by decide +kernel
theorem dL_law_444 : decode cL_law 444 = .ok (.aload_n 1, 1) := by decide +kernel
theorem dL_law_445 : decode cL_law 445 = .ok (.aload_n 0, 1) := by decide +kernel
theorem dL_law_446 : decode cL_law 446 = .ok (.iload_n 3, 1) := by decide +kernel
theorem dL_law_447 : decode cL_law 447 = .ok (.iconst 1, 1) := by decide +kernel
theorem dL_law_448 : decode cL_law 448 = .ok (.iadd, 1) := by decide +kernel
theorem dL_law_449 : decode cL_law 449 = .ok (.iaload, 1) := by decide +kernel
theorem dL_law_450 : decode cL_law 450 = .ok (.invokevirtual 57, 3) := by decide +kernel
theorem dL_law_453 : decode cL_law 453 = .ok (.aload_n 2, 1) := by decide +kernel
theorem dL_law_454 : decode cL_law 454 = .ok (.aload_n 0, 1) := by decide +kernel
theorem dL_law_455 : decode cL_law 455 = .ok (.iload_n 3, 1) := by decide +kernel
theorem dL_law_456 : decode cL_law 456 = .ok (.iconst 1, 1) := by decide +kernel
theorem dL_law_457 : decode cL_law 457 = .ok (.iadd, 1) := by decide +kernel
theorem dL_law_458 : decode cL_law 458 = .ok (.iaload, 1) := by decide +kernel
theorem dL_law_459 : decode cL_law 459 = .ok (.invokevirtual 60, 3) := by decide +kernel
theorem dL_law_462 : decode cL_law 462 = .ok (.if_icmp .eq 629, 3) := by decide +kernel
theorem dL_law_465 : decode cL_law 465 = .ok (.iconst 0, 1) := by decide +kernel
theorem dL_law_466 : decode cL_law 466 = .ok (.ireturn, 1) := by decide +kernel
theorem dL_law_467 : decode cL_law 467 = .ok (.aload_n 1, 1) := by decide +kernel
theorem dL_law_468 : decode cL_law 468 = .ok (.invokevirtual 61, 3) := by decide +kernel
theorem dL_law_471 : decode cL_law 471 = .ok (.aload_n 2, 1) := by decide +kernel
theorem dL_law_472 : decode cL_law 472 = .ok (.invokevirtual 64, 3) := by decide +kernel
theorem dL_law_475 : decode cL_law 475 = .ok (.if_icmp .eq 616, 3) := by decide +kernel
theorem dL_law_478 : decode cL_law 478 = .ok (.iconst 0, 1) := by decide +kernel
theorem dL_law_479 : decode cL_law 479 = .ok (.ireturn, 1) := by decide +kernel
theorem dL_law_480 : decode cL_law 480 = .ok (.aload_n 1, 1) := by decide +kernel
theorem dL_law_481 : decode cL_law 481 = .ok (.aload_n 0, 1) := by decide +kernel
theorem dL_law_482 : decode cL_law 482 = .ok (.iload_n 3, 1) := by decide +kernel
theorem dL_law_483 : decode cL_law 483 = .ok (.iconst 1, 1) := by decide +kernel
theorem dL_law_484 : decode cL_law 484 = .ok (.iadd, 1) := by decide +kernel
theorem dL_law_485 : decode cL_law 485 = .ok (.iaload, 1) := by decide +kernel
theorem dL_law_486 : decode cL_law 486 = .ok (.invokevirtual 65, 3) := by decide +kernel
theorem dL_law_489 : decode cL_law 489 = .ok (.aload_n 2, 1) := by decide +kernel
theorem dL_law_490 : decode cL_law 490 = .ok (.aload_n 0, 1) := by decide +kernel
theorem dL_law_491 : decode cL_law 491 = .ok (.iload_n 3, 1) := by decide +kernel
theorem dL_law_492 : decode cL_law 492 = .ok (.iconst 1, 1) := by decide +kernel
theorem dL_law_493 : decode cL_law 493 = .ok (.iadd, 1) := by decide +kernel
theorem dL_law_494 : decode cL_law 494 = .ok (.iaload, 1) := by decide +kernel
theorem dL_law_495 : decode cL_law 495 = .ok (.invokevirtual 68, 3) := by decide +kernel
theorem dL_law_498 : decode cL_law 498 = .ok (.if_icmp .eq 593, 3) := by decide +kernel
theorem dL_law_501 : decode cL_law 501 = .ok (.iconst 0, 1) := by decide +kernel
theorem dL_law_502 : decode cL_law 502 = .ok (.ireturn, 1) := by decide +kernel
theorem dL_law_503 : decode cL_law 503 = .ok (.aload_n 1, 1) := by decide +kernel
theorem dL_law_504 : decode cL_law 504 = .ok (.invokevirtual 69, 3) := by decide +kernel
theorem dL_law_507 : decode cL_law 507 = .ok (.aload_n 2, 1) := by decide +kernel
theorem dL_law_508 : decode cL_law 508 = .ok (.invokevirtual 72, 3) := by decide +kernel
theorem dL_law_511 : decode cL_law 511 = .ok (.if_icmp .eq 580, 3) := by decide +kernel
theorem dL_law_514 : decode cL_law 514 = .ok (.iconst 0, 1) := by decide +kernel
theorem dL_law_515 : decode cL_law 515 = .ok (.ireturn, 1) := by decide +kernel
theorem dL_law_516 : decode cL_law 516 = .ok (.aload_n 1, 1) := by decide +kernel
theorem dL_law_517 : decode cL_law 517 = .ok (.aload_n 0, 1) := by decide +kernel
theorem dL_law_518 : decode cL_law 518 = .ok (.iload_n 3, 1) := by decide +kernel
theorem dL_law_519 : decode cL_law 519 = .ok (.iconst 1, 1) := by decide +kernel
theorem dL_law_520 : decode cL_law 520 = .ok (.iadd, 1) := by decide +kernel
theorem dL_law_521 : decode cL_law 521 = .ok (.iaload, 1) := by decide +kernel
theorem dL_law_522 : decode cL_law 522 = .ok (.aload_n 0, 1) := by decide +kernel
theorem dL_law_523 : decode cL_law 523 = .ok (.iload_n 3, 1) := by decide +kernel
theorem dL_law_524 : decode cL_law 524 = .ok (.iconst 2, 1) := by decide +kernel
theorem dL_law_525 : decode cL_law 525 = .ok (.iadd, 1) := by decide +kernel
theorem dL_law_526 : decode cL_law 526 = .ok (.iaload, 1) := by decide +kernel
theorem dL_law_527 : decode cL_law 527 = .ok (.invokevirtual 73, 3) := by decide +kernel
theorem dL_law_530 : decode cL_law 530 = .ok (.aload_n 2, 1) := by decide +kernel
theorem dL_law_531 : decode cL_law 531 = .ok (.aload_n 0, 1) := by decide +kernel
theorem dL_law_532 : decode cL_law 532 = .ok (.iload_n 3, 1) := by decide +kernel
theorem dL_law_533 : decode cL_law 533 = .ok (.iconst 1, 1) := by decide +kernel
theorem dL_law_534 : decode cL_law 534 = .ok (.iadd, 1) := by decide +kernel
theorem dL_law_535 : decode cL_law 535 = .ok (.iaload, 1) := by decide +kernel
theorem dL_law_536 : decode cL_law 536 = .ok (.aload_n 0, 1) := by decide +kernel
theorem dL_law_537 : decode cL_law 537 = .ok (.iload_n 3, 1) := by decide +kernel
theorem dL_law_538 : decode cL_law 538 = .ok (.iconst 2, 1) := by decide +kernel
theorem dL_law_539 : decode cL_law 539 = .ok (.iadd, 1) := by decide +kernel
theorem dL_law_540 : decode cL_law 540 = .ok (.iaload, 1) := by decide +kernel
theorem dL_law_541 : decode cL_law 541 = .ok (.invokevirtual 76, 3) := by decide +kernel
theorem dL_law_544 : decode cL_law 544 = .ok (.if_icmp .eq 547, 3) := by decide +kernel
theorem dL_law_547 : decode cL_law 547 = .ok (.iconst 0, 1) := by decide +kernel
theorem dL_law_548 : decode cL_law 548 = .ok (.ireturn, 1) := by decide +kernel
theorem dL_law_549 : decode cL_law 549 = .ok (.aload_n 1, 1) := by decide +kernel
theorem dL_law_550 : decode cL_law 550 = .ok (.aload_n 0, 1) := by decide +kernel
theorem dL_law_551 : decode cL_law 551 = .ok (.iload_n 3, 1) := by decide +kernel
theorem dL_law_552 : decode cL_law 552 = .ok (.iconst 1, 1) := by decide +kernel
theorem dL_law_553 : decode cL_law 553 = .ok (.iadd, 1) := by decide +kernel
theorem dL_law_554 : decode cL_law 554 = .ok (.iaload, 1) := by decide +kernel
theorem dL_law_555 : decode cL_law 555 = .ok (.invokevirtual 77, 3) := by decide +kernel
theorem dL_law_558 : decode cL_law 558 = .ok (.aload_n 2, 1) := by decide +kernel
theorem dL_law_559 : decode cL_law 559 = .ok (.aload_n 0, 1) := by decide +kernel
theorem dL_law_560 : decode cL_law 560 = .ok (.iload_n 3, 1) := by decide +kernel
theorem dL_law_561 : decode cL_law 561 = .ok (.iconst 1, 1) := by decide +kernel
theorem dL_law_562 : decode cL_law 562 = .ok (.iadd, 1) := by decide +kernel
theorem dL_law_563 : decode cL_law 563 = .ok (.iaload, 1) := by decide +kernel
theorem dL_law_564 : decode cL_law 564 = .ok (.invokevirtual 80, 3) := by decide +kernel
theorem dL_law_567 : decode cL_law 567 = .ok (.if_icmp .eq 524, 3) := by decide +kernel
theorem dL_law_570 : decode cL_law 570 = .ok (.iconst 0, 1) := by decide +kernel
theorem dL_law_571 : decode cL_law 571 = .ok (.ireturn, 1) := by decide +kernel
theorem dL_law_572 : decode cL_law 572 = .ok (.aload_n 1, 1) := by decide +kernel
theorem dL_law_573 : decode cL_law 573 = .ok (.aload_n 0, 1) := by decide +kernel
theorem dL_law_574 : decode cL_law 574 = .ok (.iload_n 3, 1) := by decide +kernel
theorem dL_law_575 : decode cL_law 575 = .ok (.iconst 1, 1) := by decide +kernel
theorem dL_law_576 : decode cL_law 576 = .ok (.iadd, 1) := by decide +kernel
theorem dL_law_577 : decode cL_law 577 = .ok (.iaload, 1) := by decide +kernel
theorem dL_law_578 : decode cL_law 578 = .ok (.aload_n 0, 1) := by decide +kernel
theorem dL_law_579 : decode cL_law 579 = .ok (.iload_n 3, 1) := by decide +kernel
theorem dL_law_580 : decode cL_law 580 = .ok (.iconst 2, 1) := by decide +kernel
theorem dL_law_581 : decode cL_law 581 = .ok (.iadd, 1) := by decide +kernel
theorem dL_law_582 : decode cL_law 582 = .ok (.iaload, 1) := by decide +kernel
theorem dL_law_583 : decode cL_law 583 = .ok (.invokevirtual 81, 3) := by decide +kernel
theorem dL_law_586 : decode cL_law 586 = .ok (.aload_n 2, 1) := by decide +kernel
theorem dL_law_587 : decode cL_law 587 = .ok (.aload_n 0, 1) := by decide +kernel
theorem dL_law_588 : decode cL_law 588 = .ok (.iload_n 3, 1) := by decide +kernel
theorem dL_law_589 : decode cL_law 589 = .ok (.iconst 1, 1) := by decide +kernel
theorem dL_law_590 : decode cL_law 590 = .ok (.iadd, 1) := by decide +kernel
theorem dL_law_591 : decode cL_law 591 = .ok (.iaload, 1) := by decide +kernel
theorem dL_law_592 : decode cL_law 592 = .ok (.aload_n 0, 1) := by decide +kernel
theorem dL_law_593 : decode cL_law 593 = .ok (.iload_n 3, 1) := by decide +kernel
theorem dL_law_594 : decode cL_law 594 = .ok (.iconst 2, 1) := by decide +kernel
theorem dL_law_595 : decode cL_law 595 = .ok (.iadd, 1) := by decide +kernel
theorem dL_law_596 : decode cL_law 596 = .ok (.iaload, 1) := by decide +kernel
theorem dL_law_597 : decode cL_law 597 = .ok (.invokevirtual 84, 3) := by decide +kernel
theorem dL_law_600 : decode cL_law 600 = .ok (.if_icmp .eq 491, 3) := by decide +kernel
theorem dL_law_603 : decode cL_law 603 = .ok (.iconst 0, 1) := by decide +kernel
theorem dL_law_604 : decode cL_law 604 = .ok (.ireturn, 1) := by decide +kernel
theorem dL_law_605 : decode cL_law 605 = .ok (.aload_n 1, 1) := by decide +kernel
theorem dL_law_606 : decode cL_law 606 = .ok (.aload_n 0, 1) := by decide +kernel
theorem dL_law_607 : decode cL_law 607 = .ok (.iload_n 3, 1) := by decide +kernel
theorem dL_law_608 : decode cL_law 608 = .ok (.iconst 1, 1) := by decide +kernel
theorem dL_law_609 : decode cL_law 609 = .ok (.iadd, 1) := by decide +kernel
theorem dL_law_610 : decode cL_law 610 = .ok (.iaload, 1) := by decide +kernel
theorem dL_law_611 : decode cL_law 611 = .ok (.aload_n 0, 1) := by decide +kernel
theorem dL_law_612 : decode cL_law 612 = .ok (.iload_n 3, 1) := by decide +kernel
theorem dL_law_613 : decode cL_law 613 = .ok (.iconst 2, 1) := by decide +kernel
theorem dL_law_614 : decode cL_law 614 = .ok (.iadd, 1) := by decide +kernel
theorem dL_law_615 : decode cL_law 615 = .ok (.iaload, 1) := by decide +kernel
theorem dL_law_616 : decode cL_law 616 = .ok (.invokevirtual 85, 3) := by decide +kernel
theorem dL_law_619 : decode cL_law 619 = .ok (.aload_n 2, 1) := by decide +kernel
theorem dL_law_620 : decode cL_law 620 = .ok (.aload_n 0, 1) := by decide +kernel
theorem dL_law_621 : decode cL_law 621 = .ok (.iload_n 3, 1) := by decide +kernel
theorem dL_law_622 : decode cL_law 622 = .ok (.iconst 1, 1) := by decide +kernel
theorem dL_law_623 : decode cL_law 623 = .ok (.iadd, 1) := by decide +kernel
theorem dL_law_624 : decode cL_law 624 = .ok (.iaload, 1) := by decide +kernel
theorem dL_law_625 : decode cL_law 625 = .ok (.aload_n 0, 1) := by decide +kernel
theorem dL_law_626 : decode cL_law 626 = .ok (.iload_n 3, 1) := by decide +kernel
theorem dL_law_627 : decode cL_law 627 = .ok (.iconst 2, 1) := by decide +kernel
theorem dL_law_628 : decode cL_law 628 = .ok (.iadd, 1) := by decide +kernel
theorem dL_law_629 : decode cL_law 629 = .ok (.iaload, 1) := by decide +kernel
theorem dL_law_630 : decode cL_law 630 = .ok (.invokevirtual 88, 3) := by decide +kernel
theorem dL_law_633 : decode cL_law 633 = .ok (.if_icmp .eq 458, 3) := by decide +kernel
theorem dL_law_636 : decode cL_law 636 = .ok (.iconst 0, 1) := by decide +kernel
theorem dL_law_637 : decode cL_law 637 = .ok (.ireturn, 1) := by decide +kernel
theorem dL_law_638 : decode cL_law 638 = .ok (.aload_n 1, 1) := by decide +kernel
theorem dL_law_639 : decode cL_law 639 = .ok (.aload_n 0, 1) := by decide +kernel
theorem dL_law_640 : decode cL_law 640 = .ok (.iload_n 3, 1) := by decide +kernel
theorem dL_law_641 : decode cL_law 641 = .ok (.iconst 1, 1) := by decide +kernel
theorem dL_law_642 : decode cL_law 642 = .ok (.iadd, 1) := by decide +kernel
theorem dL_law_643 : decode cL_law 643 = .ok (.iaload, 1) := by decide +kernel
theorem dL_law_644 : decode cL_law 644 = .ok (.aload_n 0, 1) := by decide +kernel
theorem dL_law_645 : decode cL_law 645 = .ok (.iload_n 3, 1) := by decide +kernel
theorem dL_law_646 : decode cL_law 646 = .ok (.iconst 2, 1) := by decide +kernel
theorem dL_law_647 : decode cL_law 647 = .ok (.iadd, 1) := by decide +kernel
theorem dL_law_648 : decode cL_law 648 = .ok (.iaload, 1) := by decide +kernel
theorem dL_law_649 : decode cL_law 649 = .ok (.invokevirtual 89, 3) := by decide +kernel
theorem dL_law_652 : decode cL_law 652 = .ok (.aload_n 2, 1) := by decide +kernel
theorem dL_law_653 : decode cL_law 653 = .ok (.aload_n 0, 1) := by decide +kernel
theorem dL_law_654 : decode cL_law 654 = .ok (.iload_n 3, 1) := by decide +kernel
theorem dL_law_655 : decode cL_law 655 = .ok (.iconst 1, 1) := by decide +kernel
theorem dL_law_656 : decode cL_law 656 = .ok (.iadd, 1) := by decide +kernel
theorem dL_law_657 : decode cL_law 657 = .ok (.iaload, 1) := by decide +kernel
theorem dL_law_658 : decode cL_law 658 = .ok (.aload_n 0, 1) := by decide +kernel
theorem dL_law_659 : decode cL_law 659 = .ok (.iload_n 3, 1) := by decide +kernel
theorem dL_law_660 : decode cL_law 660 = .ok (.iconst 2, 1) := by decide +kernel
theorem dL_law_661 : decode cL_law 661 = .ok (.iadd, 1) := by decide +kernel
theorem dL_law_662 : decode cL_law 662 = .ok (.iaload, 1) := by decide +kernel
theorem dL_law_663 : decode cL_law 663 = .ok (.invokevirtual 92, 3) := by decide +kernel
theorem dL_law_666 : decode cL_law 666 = .ok (.if_icmp .eq 425, 3) := by decide +kernel
theorem dL_law_669 : decode cL_law 669 = .ok (.iconst 0, 1) := by decide +kernel
theorem dL_law_670 : decode cL_law 670 = .ok (.ireturn, 1) := by decide +kernel
theorem dL_law_671 : decode cL_law 671 = .ok (.aload_n 1, 1) := by decide +kernel
theorem dL_law_672 : decode cL_law 672 = .ok (.aload_n 0, 1) := by decide +kernel
theorem dL_law_673 : decode cL_law 673 = .ok (.iload_n 3, 1) := by decide +kernel
theorem dL_law_674 : decode cL_law 674 = .ok (.iconst 1, 1) := by decide +kernel
theorem dL_law_675 : decode cL_law 675 = .ok (.iadd, 1) := by decide +kernel
theorem dL_law_676 : decode cL_law 676 = .ok (.iaload, 1) := by decide +kernel
theorem dL_law_677 : decode cL_law 677 = .ok (.invokevirtual 93, 3) := by decide +kernel
theorem dL_law_680 : decode cL_law 680 = .ok (.aload_n 2, 1) := by decide +kernel
theorem dL_law_681 : decode cL_law 681 = .ok (.aload_n 0, 1) := by decide +kernel
theorem dL_law_682 : decode cL_law 682 = .ok (.iload_n 3, 1) := by decide +kernel
theorem dL_law_683 : decode cL_law 683 = .ok (.iconst 1, 1) := by decide +kernel
theorem dL_law_684 : decode cL_law 684 = .ok (.iadd, 1) := by decide +kernel
theorem dL_law_685 : decode cL_law 685 = .ok (.iaload, 1) := by decide +kernel
theorem dL_law_686 : decode cL_law 686 = .ok (.invokevirtual 96, 3) := by decide +kernel
theorem dL_law_689 : decode cL_law 689 = .ok (.if_icmp .eq 402, 3) := by decide +kernel
theorem dL_law_692 : decode cL_law 692 = .ok (.iconst 0, 1) := by decide +kernel
theorem dL_law_693 : decode cL_law 693 = .ok (.ireturn, 1) := by decide +kernel
theorem dL_law_694 : decode cL_law 694 = .ok (.aload_n 1, 1) := by decide +kernel
theorem dL_law_695 : decode cL_law 695 = .ok (.aload_n 0, 1) := by decide +kernel
theorem dL_law_696 : decode cL_law 696 = .ok (.iload_n 3, 1) := by decide +kernel
theorem dL_law_697 : decode cL_law 697 = .ok (.iconst 1, 1) := by decide +kernel
theorem dL_law_698 : decode cL_law 698 = .ok (.iadd, 1) := by decide +kernel
theorem dL_law_699 : decode cL_law 699 = .ok (.iaload, 1) := by decide +kernel
theorem dL_law_700 : decode cL_law 700 = .ok (.aload_n 0, 1) := by decide +kernel
theorem dL_law_701 : decode cL_law 701 = .ok (.iload_n 3, 1) := by decide +kernel
theorem dL_law_702 : decode cL_law 702 = .ok (.iconst 2, 1) := by decide +kernel
theorem dL_law_703 : decode cL_law 703 = .ok (.iadd, 1) := by decide +kernel
theorem dL_law_704 : decode cL_law 704 = .ok (.iaload, 1) := by decide +kernel
theorem dL_law_705 : decode cL_law 705 = .ok (.invokevirtual 97, 3) := by decide +kernel
theorem dL_law_708 : decode cL_law 708 = .ok (.aload_n 2, 1) := by decide +kernel
theorem dL_law_709 : decode cL_law 709 = .ok (.aload_n 0, 1) := by decide +kernel
theorem dL_law_710 : decode cL_law 710 = .ok (.iload_n 3, 1) := by decide +kernel
theorem dL_law_711 : decode cL_law 711 = .ok (.iconst 1, 1) := by decide +kernel
theorem dL_law_712 : decode cL_law 712 = .ok (.iadd, 1) := by decide +kernel
theorem dL_law_713 : decode cL_law 713 = .ok (.iaload, 1) := by decide +kernel
theorem dL_law_714 : decode cL_law 714 = .ok (.aload_n 0, 1) := by decide +kernel
theorem dL_law_715 : decode cL_law 715 = .ok (.iload_n 3, 1) := by decide +kernel
theorem dL_law_716 : decode cL_law 716 = .ok (.iconst 2, 1) := by decide +kernel
theorem dL_law_717 : decode cL_law 717 = .ok (.iadd, 1) := by decide +kernel
theorem dL_law_718 : decode cL_law 718 = .ok (.iaload, 1) := by decide +kernel
theorem dL_law_719 : decode cL_law 719 = .ok (.invokevirtual 100, 3) := by decide +kernel
theorem dL_law_722 : decode cL_law 722 = .ok (.if_icmp .eq 369, 3) := by decide +kernel
theorem dL_law_725 : decode cL_law 725 = .ok (.iconst 0, 1) := by decide +kernel
theorem dL_law_726 : decode cL_law 726 = .ok (.ireturn, 1) := by decide +kernel
theorem dL_law_727 : decode cL_law 727 = .ok (.aload_n 1, 1) := by decide +kernel
theorem dL_law_728 : decode cL_law 728 = .ok (.invokevirtual 101, 3) := by decide +kernel
theorem dL_law_731 : decode cL_law 731 = .ok (.aload_n 2, 1) := by decide +kernel
theorem dL_law_732 : decode cL_law 732 = .ok (.invokevirtual 104, 3) := by decide +kernel
theorem dL_law_735 : decode cL_law 735 = .ok (.if_icmp .eq 356, 3) := by decide +kernel
theorem dL_law_738 : decode cL_law 738 = .ok (.iconst 0, 1) := by decide +kernel
theorem dL_law_739 : decode cL_law 739 = .ok (.ireturn, 1) := by decide +kernel
theorem dL_law_740 : decode cL_law 740 = .ok (.aload_n 1, 1) := by decide +kernel
theorem dL_law_741 : decode cL_law 741 = .ok (.invokevirtual 105, 3) := by decide +kernel
theorem dL_law_744 : decode cL_law 744 = .ok (.aload_n 2, 1) := by decide +kernel
theorem dL_law_745 : decode cL_law 745 = .ok (.invokevirtual 108, 3) := by decide +kernel
theorem dL_law_748 : decode cL_law 748 = .ok (.if_icmp .eq 343, 3) := by decide +kernel
theorem dL_law_751 : decode cL_law 751 = .ok (.iconst 0, 1) := by decide +kernel
theorem dL_law_752 : decode cL_law 752 = .ok (.ireturn, 1) := by decide +kernel
theorem dL_law_753 : decode cL_law 753 = .ok (.aload_n 1, 1) := by decide +kernel
theorem dL_law_754 : decode cL_law 754 = .ok (.aload_n 0, 1) := by decide +kernel
theorem dL_law_755 : decode cL_law 755 = .ok (.iload_n 3, 1) := by decide +kernel
theorem dL_law_756 : decode cL_law 756 = .ok (.iconst 1, 1) := by decide +kernel
theorem dL_law_757 : decode cL_law 757 = .ok (.iadd, 1) := by decide +kernel
theorem dL_law_758 : decode cL_law 758 = .ok (.iaload, 1) := by decide +kernel
theorem dL_law_759 : decode cL_law 759 = .ok (.aload_n 0, 1) := by decide +kernel
theorem dL_law_760 : decode cL_law 760 = .ok (.iload_n 3, 1) := by decide +kernel
theorem dL_law_761 : decode cL_law 761 = .ok (.iconst 2, 1) := by decide +kernel
theorem dL_law_762 : decode cL_law 762 = .ok (.iadd, 1) := by decide +kernel
theorem dL_law_763 : decode cL_law 763 = .ok (.iaload, 1) := by decide +kernel
theorem dL_law_764 : decode cL_law 764 = .ok (.aload_n 0, 1) := by decide +kernel
theorem dL_law_765 : decode cL_law 765 = .ok (.iload_n 3, 1) := by decide +kernel
theorem dL_law_766 : decode cL_law 766 = .ok (.iconst 3, 1) := by decide +kernel
theorem dL_law_767 : decode cL_law 767 = .ok (.iadd, 1) := by decide +kernel
theorem dL_law_768 : decode cL_law 768 = .ok (.iaload, 1) := by decide +kernel
theorem dL_law_769 : decode cL_law 769 = .ok (.aload_n 0, 1) := by decide +kernel
theorem dL_law_770 : decode cL_law 770 = .ok (.iload_n 3, 1) := by decide +kernel
theorem dL_law_771 : decode cL_law 771 = .ok (.iconst 4, 1) := by decide +kernel
theorem dL_law_772 : decode cL_law 772 = .ok (.iadd, 1) := by decide +kernel
theorem dL_law_773 : decode cL_law 773 = .ok (.iaload, 1) := by decide +kernel
theorem dL_law_774 : decode cL_law 774 = .ok (.aload_n 0, 1) := by decide +kernel
theorem dL_law_775 : decode cL_law 775 = .ok (.iload_n 3, 1) := by decide +kernel
theorem dL_law_776 : decode cL_law 776 = .ok (.iconst 5, 1) := by decide +kernel
theorem dL_law_777 : decode cL_law 777 = .ok (.iadd, 1) := by decide +kernel
theorem dL_law_778 : decode cL_law 778 = .ok (.iaload, 1) := by decide +kernel
theorem dL_law_779 : decode cL_law 779 = .ok (.invokevirtual 109, 3) := by decide +kernel
theorem dL_law_782 : decode cL_law 782 = .ok (.aload_n 2, 1) := by decide +kernel
theorem dL_law_783 : decode cL_law 783 = .ok (.aload_n 0, 1) := by decide +kernel
theorem dL_law_784 : decode cL_law 784 = .ok (.iload_n 3, 1) := by decide +kernel
theorem dL_law_785 : decode cL_law 785 = .ok (.iconst 1, 1) := by decide +kernel
theorem dL_law_786 : decode cL_law 786 = .ok (.iadd, 1) := by decide +kernel
theorem dL_law_787 : decode cL_law 787 = .ok (.iaload, 1) := by decide +kernel
theorem dL_law_788 : decode cL_law 788 = .ok (.aload_n 0, 1) := by decide +kernel
theorem dL_law_789 : decode cL_law 789 = .ok (.iload_n 3, 1) := by decide +kernel
theorem dL_law_790 : decode cL_law 790 = .ok (.iconst 2, 1) := by decide +kernel
theorem dL_law_791 : decode cL_law 791 = .ok (.iadd, 1) := by decide +kernel
theorem dL_law_792 : decode cL_law 792 = .ok (.iaload, 1) := by decide +kernel
theorem dL_law_793 : decode cL_law 793 = .ok (.aload_n 0, 1) := by decide +kernel
theorem dL_law_794 : decode cL_law 794 = .ok (.iload_n 3, 1) := by decide +kernel
theorem dL_law_795 : decode cL_law 795 = .ok (.iconst 3, 1) := by decide +kernel
theorem dL_law_796 : decode cL_law 796 = .ok (.iadd, 1) := by decide +kernel
theorem dL_law_797 : decode cL_law 797 = .ok (.iaload, 1) := by decide +kernel
theorem dL_law_798 : decode cL_law 798 = .ok (.aload_n 0, 1) := by decide +kernel
theorem dL_law_799 : decode cL_law 799 = .ok (.iload_n 3, 1) := by decide +kernel
theorem dL_law_800 : decode cL_law 800 = .ok (.iconst 4, 1) := by decide +kernel
theorem dL_law_801 : decode cL_law 801 = .ok (.iadd, 1) := by decide +kernel
theorem dL_law_802 : decode cL_law 802 = .ok (.iaload, 1) := by decide +kernel
theorem dL_law_803 : decode cL_law 803 = .ok (.aload_n 0, 1) := by decide +kernel
theorem dL_law_804 : decode cL_law 804 = .ok (.iload_n 3, 1) := by decide +kernel
theorem dL_law_805 : decode cL_law 805 = .ok (.iconst 5, 1) := by decide +kernel
theorem dL_law_806 : decode cL_law 806 = .ok (.iadd, 1) := by decide +kernel
theorem dL_law_807 : decode cL_law 807 = .ok (.iaload, 1) := by decide +kernel
theorem dL_law_808 : decode cL_law 808 = .ok (.invokevirtual 113, 3) := by decide +kernel
theorem dL_law_811 : decode cL_law 811 = .ok (.if_icmp .eq 280, 3) := by decide +kernel
theorem dL_law_814 : decode cL_law 814 = .ok (.iconst 0, 1) := by decide +kernel
theorem dL_law_815 : decode cL_law 815 = .ok (.ireturn, 1) := by decide +kernel
theorem dL_law_816 : decode cL_law 816 = .ok (.aload_n 1, 1) := by decide +kernel
theorem dL_law_817 : decode cL_law 817 = .ok (.aload_n 0, 1) := by decide +kernel
theorem dL_law_818 : decode cL_law 818 = .ok (.iload_n 3, 1) := by decide +kernel
theorem dL_law_819 : decode cL_law 819 = .ok (.iconst 1, 1) := by decide +kernel
theorem dL_law_820 : decode cL_law 820 = .ok (.iadd, 1) := by decide +kernel
theorem dL_law_821 : decode cL_law 821 = .ok (.iaload, 1) := by decide +kernel
theorem dL_law_822 : decode cL_law 822 = .ok (.aload_n 0, 1) := by decide +kernel
theorem dL_law_823 : decode cL_law 823 = .ok (.iload_n 3, 1) := by decide +kernel
theorem dL_law_824 : decode cL_law 824 = .ok (.iconst 2, 1) := by decide +kernel
theorem dL_law_825 : decode cL_law 825 = .ok (.iadd, 1) := by decide +kernel
theorem dL_law_826 : decode cL_law 826 = .ok (.iaload, 1) := by decide +kernel
theorem dL_law_827 : decode cL_law 827 = .ok (.aload_n 0, 1) := by decide +kernel
theorem dL_law_828 : decode cL_law 828 = .ok (.iload_n 3, 1) := by decide +kernel
theorem dL_law_829 : decode cL_law 829 = .ok (.iconst 3, 1) := by decide +kernel
theorem dL_law_830 : decode cL_law 830 = .ok (.iadd, 1) := by decide +kernel
theorem dL_law_831 : decode cL_law 831 = .ok (.iaload, 1) := by decide +kernel
theorem dL_law_832 : decode cL_law 832 = .ok (.aload_n 0, 1) := by decide +kernel
theorem dL_law_833 : decode cL_law 833 = .ok (.iload_n 3, 1) := by decide +kernel
theorem dL_law_834 : decode cL_law 834 = .ok (.iconst 4, 1) := by decide +kernel
theorem dL_law_835 : decode cL_law 835 = .ok (.iadd, 1) := by decide +kernel
theorem dL_law_836 : decode cL_law 836 = .ok (.iaload, 1) := by decide +kernel
theorem dL_law_837 : decode cL_law 837 = .ok (.aload_n 0, 1) := by decide +kernel
theorem dL_law_838 : decode cL_law 838 = .ok (.iload_n 3, 1) := by decide +kernel
theorem dL_law_839 : decode cL_law 839 = .ok (.iconst 5, 1) := by decide +kernel
theorem dL_law_840 : decode cL_law 840 = .ok (.iadd, 1) := by decide +kernel
theorem dL_law_841 : decode cL_law 841 = .ok (.iaload, 1) := by decide +kernel
theorem dL_law_842 : decode cL_law 842 = .ok (.invokevirtual 114, 3) := by decide +kernel
theorem dL_law_845 : decode cL_law 845 = .ok (.aload_n 2, 1) := by decide +kernel
theorem dL_law_846 : decode cL_law 846 = .ok (.aload_n 0, 1) := by decide +kernel
theorem dL_law_847 : decode cL_law 847 = .ok (.iload_n 3, 1) := by decide +kernel
theorem dL_law_848 : decode cL_law 848 = .ok (.iconst 1, 1) := by decide +kernel
theorem dL_law_849 : decode cL_law 849 = .ok (.iadd, 1) := by decide +kernel
theorem dL_law_850 : decode cL_law 850 = .ok (.iaload, 1) := by decide +kernel
theorem dL_law_851 : decode cL_law 851 = .ok (.aload_n 0, 1) := by decide +kernel
theorem dL_law_852 : decode cL_law 852 = .ok (.iload_n 3, 1) := by decide +kernel
theorem dL_law_853 : decode cL_law 853 = .ok (.iconst 2, 1) := by decide +kernel
theorem dL_law_854 : decode cL_law 854 = .ok (.iadd, 1) := by decide +kernel
theorem dL_law_855 : decode cL_law 855 = .ok (.iaload, 1) := by decide +kernel
theorem dL_law_856 : decode cL_law 856 = .ok (.aload_n 0, 1) := by decide +kernel
theorem dL_law_857 : decode cL_law 857 = .ok (.iload_n 3, 1) := by decide +kernel
theorem dL_law_858 : decode cL_law 858 = .ok (.iconst 3, 1) := by decide +kernel
theorem dL_law_859 : decode cL_law 859 = .ok (.iadd, 1) := by decide +kernel
theorem dL_law_860 : decode cL_law 860 = .ok (.iaload, 1) := by decide +kernel
theorem dL_law_861 : decode cL_law 861 = .ok (.aload_n 0, 1) := by decide +kernel
theorem dL_law_862 : decode cL_law 862 = .ok (.iload_n 3, 1) := by decide +kernel
theorem dL_law_863 : decode cL_law 863 = .ok (.iconst 4, 1) := by decide +kernel
theorem dL_law_864 : decode cL_law 864 = .ok (.iadd, 1) := by decide +kernel
theorem dL_law_865 : decode cL_law 865 = .ok (.iaload, 1) := by decide +kernel
theorem dL_law_866 : decode cL_law 866 = .ok (.aload_n 0, 1) := by decide +kernel
theorem dL_law_867 : decode cL_law 867 = .ok (.iload_n 3, 1) := by decide +kernel
theorem dL_law_868 : decode cL_law 868 = .ok (.iconst 5, 1) := by decide +kernel
theorem dL_law_869 : decode cL_law 869 = .ok (.iadd, 1) := by decide +kernel
theorem dL_law_870 : decode cL_law 870 = .ok (.iaload, 1) := by decide +kernel
theorem dL_law_871 : decode cL_law 871 = .ok (.invokevirtual 117, 3) := by decide +kernel
theorem dL_law_874 : decode cL_law 874 = .ok (.if_icmp .eq 217, 3) := by decide +kernel
theorem dL_law_877 : decode cL_law 877 = .ok (.iconst 0, 1) := by decide +kernel
theorem dL_law_878 : decode cL_law 878 = .ok (.ireturn, 1) := by decide +kernel
theorem dL_law_879 : decode cL_law 879 = .ok (.aload_n 1, 1) := by decide +kernel
theorem dL_law_880 : decode cL_law 880 = .ok (.aload_n 0, 1) := by decide +kernel
theorem dL_law_881 : decode cL_law 881 = .ok (.iload_n 3, 1) := by decide +kernel
theorem dL_law_882 : decode cL_law 882 = .ok (.iconst 1, 1) := by decide +kernel
theorem dL_law_883 : decode cL_law 883 = .ok (.iadd, 1) := by decide +kernel
theorem dL_law_884 : decode cL_law 884 = .ok (.iaload, 1) := by decide +kernel
theorem dL_law_885 : decode cL_law 885 = .ok (.aload_n 0, 1) := by decide +kernel
theorem dL_law_886 : decode cL_law 886 = .ok (.iload_n 3, 1) := by decide +kernel
theorem dL_law_887 : decode cL_law 887 = .ok (.iconst 2, 1) := by decide +kernel
theorem dL_law_888 : decode cL_law 888 = .ok (.iadd, 1) := by decide +kernel
theorem dL_law_889 : decode cL_law 889 = .ok (.iaload, 1) := by decide +kernel
theorem dL_law_890 : decode cL_law 890 = .ok (.aload_n 0, 1) := by decide +kernel
theorem dL_law_891 : decode cL_law 891 = .ok (.iload_n 3, 1) := by decide +kernel
theorem dL_law_892 : decode cL_law 892 = .ok (.iconst 3, 1) := by decide +kernel
theorem dL_law_893 : decode cL_law 893 = .ok (.iadd, 1) := by decide +kernel
theorem dL_law_894 : decode cL_law 894 = .ok (.iaload, 1) := by decide +kernel
theorem dL_law_895 : decode cL_law 895 = .ok (.invokevirtual 118, 3) := by decide +kernel
theorem dL_law_898 : decode cL_law 898 = .ok (.aload_n 2, 1) := by decide +kernel
theorem dL_law_899 : decode cL_law 899 = .ok (.aload_n 0, 1) := by decide +kernel
theorem dL_law_900 : decode cL_law 900 = .ok (.iload_n 3, 1) := by decide +kernel
theorem dL_law_901 : decode cL_law 901 = .ok (.iconst 1, 1) := by decide +kernel
theorem dL_law_902 : decode cL_law 902 = .ok (.iadd, 1) := by decide +kernel
theorem dL_law_903 : decode cL_law 903 = .ok (.iaload, 1) := by decide +kernel
theorem dL_law_904 : decode cL_law 904 = .ok (.aload_n 0, 1) := by decide +kernel
theorem dL_law_905 : decode cL_law 905 = .ok (.iload_n 3, 1) := by decide +kernel
theorem dL_law_906 : decode cL_law 906 = .ok (.iconst 2, 1) := by decide +kernel
theorem dL_law_907 : decode cL_law 907 = .ok (.iadd, 1) := by decide +kernel
theorem dL_law_908 : decode cL_law 908 = .ok (.iaload, 1) := by decide +kernel
theorem dL_law_909 : decode cL_law 909 = .ok (.aload_n 0, 1) := by decide +kernel
theorem dL_law_910 : decode cL_law 910 = .ok (.iload_n 3, 1) := by decide +kernel
theorem dL_law_911 : decode cL_law 911 = .ok (.iconst 3, 1) := by decide +kernel
theorem dL_law_912 : decode cL_law 912 = .ok (.iadd, 1) := by decide +kernel
theorem dL_law_913 : decode cL_law 913 = .ok (.iaload, 1) := by decide +kernel
theorem dL_law_914 : decode cL_law 914 = .ok (.invokevirtual 121, 3) := by decide +kernel
theorem dL_law_917 : decode cL_law 917 = .ok (.if_icmp .eq 174, 3) := by decide +kernel
theorem dL_law_920 : decode cL_law 920 = .ok (.iconst 0, 1) := by decide +kernel
theorem dL_law_921 : decode cL_law 921 = .ok (.ireturn, 1) := by decide +kernel
theorem dL_law_922 : decode cL_law 922 = .ok (.aload_n 1, 1) := by decide +kernel
theorem dL_law_923 : decode cL_law 923 = .ok (.aload_n 0, 1) := by decide +kernel
theorem dL_law_924 : decode cL_law 924 = .ok (.iload_n 3, 1) := by decide +kernel
theorem dL_law_925 : decode cL_law 925 = .ok (.iconst 1, 1) := by decide +kernel
theorem dL_law_926 : decode cL_law 926 = .ok (.iadd, 1) := by decide +kernel
theorem dL_law_927 : decode cL_law 927 = .ok (.iaload, 1) := by decide +kernel
theorem dL_law_928 : decode cL_law 928 = .ok (.invokevirtual 122, 3) := by decide +kernel
theorem dL_law_931 : decode cL_law 931 = .ok (.aload_n 2, 1) := by decide +kernel
theorem dL_law_932 : decode cL_law 932 = .ok (.aload_n 0, 1) := by decide +kernel
theorem dL_law_933 : decode cL_law 933 = .ok (.iload_n 3, 1) := by decide +kernel
theorem dL_law_934 : decode cL_law 934 = .ok (.iconst 1, 1) := by decide +kernel
theorem dL_law_935 : decode cL_law 935 = .ok (.iadd, 1) := by decide +kernel
theorem dL_law_936 : decode cL_law 936 = .ok (.iaload, 1) := by decide +kernel
theorem dL_law_937 : decode cL_law 937 = .ok (.invokevirtual 125, 3) := by decide +kernel
theorem dL_law_940 : decode cL_law 940 = .ok (.if_icmp .eq 151, 3) := by decide +kernel
theorem dL_law_943 : decode cL_law 943 = .ok (.iconst 0, 1) := by decide +kernel
theorem dL_law_944 : decode cL_law 944 = .ok (.ireturn, 1) := by decide +kernel
theorem dL_law_945 : decode cL_law 945 = .ok (.aload_n 1, 1) := by decide +kernel
theorem dL_law_946 : decode cL_law 946 = .ok (.aload_n 0, 1) := by decide +kernel
theorem dL_law_947 : decode cL_law 947 = .ok (.iload_n 3, 1) := by decide +kernel
theorem dL_law_948 : decode cL_law 948 = .ok (.iconst 1, 1) := by decide +kernel
theorem dL_law_949 : decode cL_law 949 = .ok (.iadd, 1) := by decide +kernel
theorem dL_law_950 : decode cL_law 950 = .ok (.iaload, 1) := by decide +kernel
theorem dL_law_951 : decode cL_law 951 = .ok (.aload_n 0, 1) := by decide +kernel
theorem dL_law_952 : decode cL_law 952 = .ok (.iload_n 3, 1) := by decide +kernel
theorem dL_law_953 : decode cL_law 953 = .ok (.iconst 2, 1) := by decide +kernel
theorem dL_law_954 : decode cL_law 954 = .ok (.iadd, 1) := by decide +kernel
theorem dL_law_955 : decode cL_law 955 = .ok (.iaload, 1) := by decide +kernel
theorem dL_law_956 : decode cL_law 956 = .ok (.aload_n 0, 1) := by decide +kernel
theorem dL_law_957 : decode cL_law 957 = .ok (.iload_n 3, 1) := by decide +kernel
theorem dL_law_958 : decode cL_law 958 = .ok (.iconst 3, 1) := by decide +kernel
theorem dL_law_959 : decode cL_law 959 = .ok (.iadd, 1) := by decide +kernel
theorem dL_law_960 : decode cL_law 960 = .ok (.iaload, 1) := by decide +kernel
theorem dL_law_961 : decode cL_law 961 = .ok (.aload_n 0, 1) := by decide +kernel
theorem dL_law_962 : decode cL_law 962 = .ok (.iload_n 3, 1) := by decide +kernel
theorem dL_law_963 : decode cL_law 963 = .ok (.iconst 4, 1) := by decide +kernel
theorem dL_law_964 : decode cL_law 964 = .ok (.iadd, 1) := by decide +kernel
theorem dL_law_965 : decode cL_law 965 = .ok (.iaload, 1) := by decide +kernel
theorem dL_law_966 : decode cL_law 966 = .ok (.i2l, 1) := by decide +kernel
theorem dL_law_967 : decode cL_law 967 = .ok (.bipush 32, 2) := by decide +kernel
theorem dL_law_969 : decode cL_law 969 = .ok (.lshl, 1) := by decide +kernel
theorem dL_law_970 : decode cL_law 970 = .ok (.aload_n 0, 1) := by decide +kernel
theorem dL_law_971 : decode cL_law 971 = .ok (.iload_n 3, 1) := by decide +kernel
theorem dL_law_972 : decode cL_law 972 = .ok (.iconst 5, 1) := by decide +kernel
theorem dL_law_973 : decode cL_law 973 = .ok (.iadd, 1) := by decide +kernel
theorem dL_law_974 : decode cL_law 974 = .ok (.iaload, 1) := by decide +kernel
theorem dL_law_975 : decode cL_law 975 = .ok (.i2l, 1) := by decide +kernel
theorem dL_law_976 : decode cL_law 976 = .ok (.ldc2_w 126, 3) := by decide +kernel
theorem dL_law_979 : decode cL_law 979 = .ok (.land, 1) := by decide +kernel
theorem dL_law_980 : decode cL_law 980 = .ok (.lor, 1) := by decide +kernel
theorem dL_law_981 : decode cL_law 981 = .ok (.invokevirtual 128, 3) := by decide +kernel
theorem dL_law_984 : decode cL_law 984 = .ok (.aload_n 2, 1) := by decide +kernel
theorem dL_law_985 : decode cL_law 985 = .ok (.aload_n 0, 1) := by decide +kernel
theorem dL_law_986 : decode cL_law 986 = .ok (.iload_n 3, 1) := by decide +kernel
theorem dL_law_987 : decode cL_law 987 = .ok (.iconst 1, 1) := by decide +kernel
theorem dL_law_988 : decode cL_law 988 = .ok (.iadd, 1) := by decide +kernel
theorem dL_law_989 : decode cL_law 989 = .ok (.iaload, 1) := by decide +kernel
theorem dL_law_990 : decode cL_law 990 = .ok (.aload_n 0, 1) := by decide +kernel
theorem dL_law_991 : decode cL_law 991 = .ok (.iload_n 3, 1) := by decide +kernel
theorem dL_law_992 : decode cL_law 992 = .ok (.iconst 2, 1) := by decide +kernel
theorem dL_law_993 : decode cL_law 993 = .ok (.iadd, 1) := by decide +kernel
theorem dL_law_994 : decode cL_law 994 = .ok (.iaload, 1) := by decide +kernel
theorem dL_law_995 : decode cL_law 995 = .ok (.aload_n 0, 1) := by decide +kernel
theorem dL_law_996 : decode cL_law 996 = .ok (.iload_n 3, 1) := by decide +kernel
theorem dL_law_997 : decode cL_law 997 = .ok (.iconst 3, 1) := by decide +kernel
theorem dL_law_998 : decode cL_law 998 = .ok (.iadd, 1) := by decide +kernel
theorem dL_law_999 : decode cL_law 999 = .ok (.iaload, 1) := by decide +kernel
theorem dL_law_1000 : decode cL_law 1000 = .ok (.aload_n 0, 1) := by decide +kernel
theorem dL_law_1001 : decode cL_law 1001 = .ok (.iload_n 3, 1) := by decide +kernel
theorem dL_law_1002 : decode cL_law 1002 = .ok (.iconst 4, 1) := by decide +kernel
theorem dL_law_1003 : decode cL_law 1003 = .ok (.iadd, 1) := by decide +kernel
theorem dL_law_1004 : decode cL_law 1004 = .ok (.iaload, 1) := by decide +kernel
theorem dL_law_1005 : decode cL_law 1005 = .ok (.i2l, 1) := by decide +kernel
theorem dL_law_1006 : decode cL_law 1006 = .ok (.bipush 32, 2) := by decide +kernel
theorem dL_law_1008 : decode cL_law 1008 = .ok (.lshl, 1) := by decide +kernel
theorem dL_law_1009 : decode cL_law 1009 = .ok (.aload_n 0, 1) := by decide +kernel
theorem dL_law_1010 : decode cL_law 1010 = .ok (.iload_n 3, 1) := by decide +kernel
theorem dL_law_1011 : decode cL_law 1011 = .ok (.iconst 5, 1) := by decide +kernel
theorem dL_law_1012 : decode cL_law 1012 = .ok (.iadd, 1) := by decide +kernel
theorem dL_law_1013 : decode cL_law 1013 = .ok (.iaload, 1) := by decide +kernel
theorem dL_law_1014 : decode cL_law 1014 = .ok (.i2l, 1) := by decide +kernel
theorem dL_law_1015 : decode cL_law 1015 = .ok (.ldc2_w 126, 3) := by decide +kernel
theorem dL_law_1018 : decode cL_law 1018 = .ok (.land, 1) := by decide +kernel
theorem dL_law_1019 : decode cL_law 1019 = .ok (.lor, 1) := by decide +kernel
theorem dL_law_1020 : decode cL_law 1020 = .ok (.invokevirtual 132, 3) := by decide +kernel
theorem dL_law_1023 : decode cL_law 1023 = .ok (.if_icmp .eq 68, 3) := by decide +kernel
theorem dL_law_1026 : decode cL_law 1026 = .ok (.iconst 0, 1) := by decide +kernel
theorem dL_law_1027 : decode cL_law 1027 = .ok (.ireturn, 1) := by decide +kernel
theorem dL_law_1028 : decode cL_law 1028 = .ok (.aload_n 1, 1) := by decide +kernel
theorem dL_law_1029 : decode cL_law 1029 = .ok (.aload_n 0, 1) := by decide +kernel
theorem dL_law_1030 : decode cL_law 1030 = .ok (.iload_n 3, 1) := by decide +kernel
theorem dL_law_1031 : decode cL_law 1031 = .ok (.iconst 1, 1) := by decide +kernel
theorem dL_law_1032 : decode cL_law 1032 = .ok (.iadd, 1) := by decide +kernel
theorem dL_law_1033 : decode cL_law 1033 = .ok (.iaload, 1) := by decide +kernel
theorem dL_law_1034 : decode cL_law 1034 = .ok (.aload_n 0, 1) := by decide +kernel
theorem dL_law_1035 : decode cL_law 1035 = .ok (.iload_n 3, 1) := by decide +kernel
theorem dL_law_1036 : decode cL_law 1036 = .ok (.iconst 2, 1) := by decide +kernel
theorem dL_law_1037 : decode cL_law 1037 = .ok (.iadd, 1) := by decide +kernel
theorem dL_law_1038 : decode cL_law 1038 = .ok (.iaload, 1) := by decide +kernel
theorem dL_law_1039 : decode cL_law 1039 = .ok (.aload_n 0, 1) := by decide +kernel
theorem dL_law_1040 : decode cL_law 1040 = .ok (.iload_n 3, 1) := by decide +kernel
theorem dL_law_1041 : decode cL_law 1041 = .ok (.iconst 3, 1) := by decide +kernel
theorem dL_law_1042 : decode cL_law 1042 = .ok (.iadd, 1) := by decide +kernel
theorem dL_law_1043 : decode cL_law 1043 = .ok (.iaload, 1) := by decide +kernel
theorem dL_law_1044 : decode cL_law 1044 = .ok (.aload_n 0, 1) := by decide +kernel
theorem dL_law_1045 : decode cL_law 1045 = .ok (.iload_n 3, 1) := by decide +kernel
theorem dL_law_1046 : decode cL_law 1046 = .ok (.iconst 4, 1) := by decide +kernel
theorem dL_law_1047 : decode cL_law 1047 = .ok (.iadd, 1) := by decide +kernel
theorem dL_law_1048 : decode cL_law 1048 = .ok (.iaload, 1) := by decide +kernel
theorem dL_law_1049 : decode cL_law 1049 = .ok (.aload_n 0, 1) := by decide +kernel
theorem dL_law_1050 : decode cL_law 1050 = .ok (.iload_n 3, 1) := by decide +kernel
theorem dL_law_1051 : decode cL_law 1051 = .ok (.iconst 5, 1) := by decide +kernel
theorem dL_law_1052 : decode cL_law 1052 = .ok (.iadd, 1) := by decide +kernel
theorem dL_law_1053 : decode cL_law 1053 = .ok (.iaload, 1) := by decide +kernel
theorem dL_law_1054 : decode cL_law 1054 = .ok (.invokevirtual 133, 3) := by decide +kernel
theorem dL_law_1057 : decode cL_law 1057 = .ok (.aload_n 2, 1) := by decide +kernel
theorem dL_law_1058 : decode cL_law 1058 = .ok (.aload_n 0, 1) := by decide +kernel
theorem dL_law_1059 : decode cL_law 1059 = .ok (.iload_n 3, 1) := by decide +kernel
theorem dL_law_1060 : decode cL_law 1060 = .ok (.iconst 1, 1) := by decide +kernel
theorem dL_law_1061 : decode cL_law 1061 = .ok (.iadd, 1) := by decide +kernel
theorem dL_law_1062 : decode cL_law 1062 = .ok (.iaload, 1) := by decide +kernel
theorem dL_law_1063 : decode cL_law 1063 = .ok (.aload_n 0, 1) := by decide +kernel
theorem dL_law_1064 : decode cL_law 1064 = .ok (.iload_n 3, 1) := by decide +kernel
theorem dL_law_1065 : decode cL_law 1065 = .ok (.iconst 2, 1) := by decide +kernel
theorem dL_law_1066 : decode cL_law 1066 = .ok (.iadd, 1) := by decide +kernel
theorem dL_law_1067 : decode cL_law 1067 = .ok (.iaload, 1) := by decide +kernel
theorem dL_law_1068 : decode cL_law 1068 = .ok (.aload_n 0, 1) := by decide +kernel
theorem dL_law_1069 : decode cL_law 1069 = .ok (.iload_n 3, 1) := by decide +kernel
theorem dL_law_1070 : decode cL_law 1070 = .ok (.iconst 3, 1) := by decide +kernel
theorem dL_law_1071 : decode cL_law 1071 = .ok (.iadd, 1) := by decide +kernel
theorem dL_law_1072 : decode cL_law 1072 = .ok (.iaload, 1) := by decide +kernel
theorem dL_law_1073 : decode cL_law 1073 = .ok (.aload_n 0, 1) := by decide +kernel
theorem dL_law_1074 : decode cL_law 1074 = .ok (.iload_n 3, 1) := by decide +kernel
theorem dL_law_1075 : decode cL_law 1075 = .ok (.iconst 4, 1) := by decide +kernel
theorem dL_law_1076 : decode cL_law 1076 = .ok (.iadd, 1) := by decide +kernel
theorem dL_law_1077 : decode cL_law 1077 = .ok (.iaload, 1) := by decide +kernel
theorem dL_law_1078 : decode cL_law 1078 = .ok (.aload_n 0, 1) := by decide +kernel
theorem dL_law_1079 : decode cL_law 1079 = .ok (.iload_n 3, 1) := by decide +kernel
theorem dL_law_1080 : decode cL_law 1080 = .ok (.iconst 5, 1) := by decide +kernel
theorem dL_law_1081 : decode cL_law 1081 = .ok (.iadd, 1) := by decide +kernel
theorem dL_law_1082 : decode cL_law 1082 = .ok (.iaload, 1) := by decide +kernel
theorem dL_law_1083 : decode cL_law 1083 = .ok (.invokevirtual 136, 3) := by decide +kernel
theorem dL_law_1086 : decode cL_law 1086 = .ok (.if_icmp .eq 5, 3) := by decide +kernel
theorem dL_law_1089 : decode cL_law 1089 = .ok (.iconst 0, 1) := by decide +kernel
theorem dL_law_1090 : decode cL_law 1090 = .ok (.ireturn, 1) := by decide +kernel
theorem dL_law_1091 : decode cL_law 1091 = .ok (.iinc 3 6, 3) := by decide +kernel
theorem dL_law_1094 : decode cL_law 1094 = .ok (.goto (-1076), 3) := by decide +kernel
theorem dL_law_1097 : decode cL_law 1097 = .ok (.iconst 1, 1) := by decide +kernel
theorem dL_law_1098 : decode cL_law 1098 = .ok (.ireturn, 1) := by decide +kernel
