theorem dX0_init_0 : decode cX0_init 0 = .ok (.aload_n 0, 1) := by decide +kernel
theorem dX0_init_1 : decode cX0_init 1 = .ok (.invokespecial 3, 3) := by decide +kernel
theorem dX0_init_4 : decode cX0_init 4 = .ok (.aload_n 0, 1) := by decide +kernel
theorem dX0_init_5 : decode cX0_init 5 = .ok (.bipush 6, 2) := by decide +kernel
theorem dX0_init_7 : decode cX0_init 7 = .ok (.newarray .int, 2) := by decide +kernel
theorem dX0_init_9 : decode cX0_init 9 = .ok (.putfield 9, 3) := by decide +kernel
theorem dX0_init_12 : decode cX0_init 12 = .ok (.aload_n 0, 1) := by decide +kernel
theorem dX0_init_13 : decode cX0_init 13 = .ok (.iconst 4, 1) := by decide +kernel
theorem dX0_init_14 : decode cX0_init 14 = .ok (.newarray .int, 2) := by decide +kernel
theorem dX0_init_16 : decode cX0_init 16 = .ok (.putfield 15, 3) := by decide +kernel
theorem dX0_init_19 : decode cX0_init 19 = .ok (.aload_n 0, 1) := by decide +kernel
theorem dX0_init_20 : decode cX0_init 20 = .ok (.getfield 15, 3) := by decide +kernel
theorem dX0_init_23 : decode cX0_init 23 = .ok (.bipush (-2), 2) := by decide +kernel
theorem dX0_init_25 : decode cX0_init 25 = .ok (.invokestatic 18, 3) := by decide +kernel
theorem dX0_init_28 : decode cX0_init 28 = .ok (.return_, 1) := by decide +kernel
theorem dX0_copyFrom_0 : decode cX0_copyFrom 0 = .ok (.aload_n 1, 1) := by decide +kernel
theorem dX0_copyFrom_1 : decode cX0_copyFrom 1 = .ok (.getfield 9, 3) := by decide +kernel
theorem dX0_copyFrom_4 : decode cX0_copyFrom 4 = .ok (.iconst 0, 1) := by decide +kernel
theorem dX0_copyFrom_5 : decode cX0_copyFrom 5 = .ok (.aload_n 0, 1) := by decide +kernel
theorem dX0_copyFrom_6 : decode cX0_copyFrom 6 = .ok (.getfield 9, 3) := by decide +kernel
theorem dX0_copyFrom_9 : decode cX0_copyFrom 9 = .ok (.iconst 0, 1) := by decide +kernel
theorem dX0_copyFrom_10 : decode cX0_copyFrom 10 = .ok (.bipush 6, 2) := by decide +kernel
theorem dX0_copyFrom_12 : decode cX0_copyFrom 12 = .ok (.invokestatic 24, 3) := by decide +kernel
theorem dX0_copyFrom_15 : decode cX0_copyFrom 15 = .ok (.aload_n 1, 1) := by decide +kernel
theorem dX0_copyFrom_16 : decode cX0_copyFrom 16 = .ok (.getfield 15, 3) := by decide +kernel
theorem dX0_copyFrom_19 : decode cX0_copyFrom 19 = .ok (.iconst 0, 1) := by decide +kernel
theorem dX0_copyFrom_20 : decode cX0_copyFrom 20 = .ok (.aload_n 0, 1) := by decide +kernel
theorem dX0_copyFrom_21 : decode cX0_copyFrom 21 = .ok (.getfield 15, 3) := by decide +kernel
theorem dX0_copyFrom_24 : decode cX0_copyFrom 24 = .ok (.iconst 0, 1) := by decide +kernel
theorem dX0_copyFrom_25 : decode cX0_copyFrom 25 = .ok (.iconst 4, 1) := by decide +kernel
theorem dX0_copyFrom_26 : decode cX0_copyFrom 26 = .ok (.invokestatic 24, 3) := by decide +kernel
theorem dX0_copyFrom_29 : decode cX0_copyFrom 29 = .ok (.return_, 1) := by decide +kernel
theorem dX0_isReached_0 : decode cX0_isReached 0 = .ok (.iconst 0, 1) := by decide +kernel
theorem dX0_isReached_1 : decode cX0_isReached 1 = .ok (.istore_n 2, 1) := by decide +kernel
theorem dX0_isReached_2 : decode cX0_isReached 2 = .ok (.iload_n 2, 1) := by decide +kernel
theorem dX0_isReached_3 : decode cX0_isReached 3 = .ok (.aload_n 1, 1) := by decide +kernel
theorem dX0_isReached_4 : decode cX0_isReached 4 = .ok (.getfield 30, 3) := by decide +kernel
theorem dX0_isReached_7 : decode cX0_isReached 7 = .ok (.if_icmp .ge 35, 3) := by decide +kernel
theorem dX0_isReached_10 : decode cX0_isReached 10 = .ok (.aload_n 0, 1) := by decide +kernel
theorem dX0_isReached_11 : decode cX0_isReached 11 = .ok (.getfield 9, 3) := by decide +kernel
theorem dX0_isReached_14 : decode cX0_isReached 14 = .ok (.iload_n 2, 1) := by decide +kernel
theorem dX0_isReached_15 : decode cX0_isReached 15 = .ok (.iaload, 1) := by decide +kernel
theorem dX0_isReached_16 : decode cX0_isReached 16 = .ok (.ifCond .eq 20, 3) := by decide +kernel
theorem dX0_isReached_19 : decode cX0_isReached 19 = .ok (.aload_n 0, 1) := by decide +kernel
theorem dX0_isReached_20 : decode cX0_isReached 20 = .ok (.getfield 9, 3) := by decide +kernel
theorem dX0_isReached_23 : decode cX0_isReached 23 = .ok (.iload_n 2, 1) := by decide +kernel
theorem dX0_isReached_24 : decode cX0_isReached 24 = .ok (.iaload, 1) := by decide +kernel
theorem dX0_isReached_25 : decode cX0_isReached 25 = .ok (.aload_n 1, 1) := by decide +kernel
theorem dX0_isReached_26 : decode cX0_isReached 26 = .ok (.getfield 36, 3) := by decide +kernel
theorem dX0_isReached_29 : decode cX0_isReached 29 = .ok (.iload_n 2, 1) := by decide +kernel
theorem dX0_isReached_30 : decode cX0_isReached 30 = .ok (.iaload, 1) := by decide +kernel
theorem dX0_isReached_31 : decode cX0_isReached 31 = .ok (.if_icmp .eq 5, 3) := by decide +kernel
theorem dX0_isReached_34 : decode cX0_isReached 34 = .ok (.iconst 0, 1) := by decide +kernel
theorem dX0_isReached_35 : decode cX0_isReached 35 = .ok (.ireturn, 1) := by decide +kernel
theorem dX0_isReached_36 : decode cX0_isReached 36 = .ok (.iinc 2 1, 3) := by decide +kernel
theorem dX0_isReached_39 : decode cX0_isReached 39 = .ok (.goto (-37), 3) := by decide +kernel
theorem dX0_isReached_42 : decode cX0_isReached 42 = .ok (.iconst 0, 1) := by decide +kernel
theorem dX0_isReached_43 : decode cX0_isReached 43 = .ok (.istore_n 2, 1) := by decide +kernel
theorem dX0_isReached_44 : decode cX0_isReached 44 = .ok (.iload_n 2, 1) := by decide +kernel
theorem dX0_isReached_45 : decode cX0_isReached 45 = .ok (.iconst 4, 1) := by decide +kernel
theorem dX0_isReached_46 : decode cX0_isReached 46 = .ok (.if_icmp .ge 37, 3) := by decide +kernel
theorem dX0_isReached_49 : decode cX0_isReached 49 = .ok (.aload_n 0, 1) := by decide +kernel
theorem dX0_isReached_50 : decode cX0_isReached 50 = .ok (.getfield 15, 3) := by decide +kernel
theorem dX0_isReached_53 : decode cX0_isReached 53 = .ok (.iload_n 2, 1) := by decide +kernel
theorem dX0_isReached_54 : decode cX0_isReached 54 = .ok (.iaload, 1) := by decide +kernel
theorem dX0_isReached_55 : decode cX0_isReached 55 = .ok (.bipush (-2), 2) := by decide +kernel
theorem dX0_isReached_57 : decode cX0_isReached 57 = .ok (.if_icmp .eq 20, 3) := by decide +kernel
theorem dX0_isReached_60 : decode cX0_isReached 60 = .ok (.aload_n 0, 1) := by decide +kernel
theorem dX0_isReached_61 : decode cX0_isReached 61 = .ok (.getfield 15, 3) := by decide +kernel
theorem dX0_isReached_64 : decode cX0_isReached 64 = .ok (.iload_n 2, 1) := by decide +kernel
theorem dX0_isReached_65 : decode cX0_isReached 65 = .ok (.iaload, 1) := by decide +kernel
theorem dX0_isReached_66 : decode cX0_isReached 66 = .ok (.aload_n 1, 1) := by decide +kernel
theorem dX0_isReached_67 : decode cX0_isReached 67 = .ok (.getfield 37, 3) := by decide +kernel
theorem dX0_isReached_70 : decode cX0_isReached 70 = .ok (.iload_n 2, 1) := by decide +kernel
theorem dX0_isReached_71 : decode cX0_isReached 71 = .ok (.iaload, 1) := by decide +kernel
theorem dX0_isReached_72 : decode cX0_isReached 72 = .ok (.if_icmp .eq 5, 3) := by decide +kernel
theorem dX0_isReached_75 : decode cX0_isReached 75 = .ok (.iconst 0, 1) := by decide +kernel
theorem dX0_isReached_76 : decode cX0_isReached 76 = .ok (.ireturn, 1) := by decide +kernel
theorem dX0_isReached_77 : decode cX0_isReached 77 = .ok (.iinc 2 1, 3) := by decide +kernel
theorem dX0_isReached_80 : decode cX0_isReached 80 = .ok (.goto (-36), 3) := by decide +kernel
theorem dX0_isReached_83 : decode cX0_isReached 83 = .ok (.iconst 1, 1) := by decide +kernel
theorem dX0_isReached_84 : decode cX0_isReached 84 = .ok (.ireturn, 1) := by decide +kernel
theorem dX1_init_0 : decode cX1_init 0 = .ok (.aload_n 0, 1) := by decide +kernel
theorem dX1_init_1 : decode cX1_init 1 = .ok (.invokespecial 3, 3) := by decide +kernel
theorem dX1_init_4 : decode cX1_init 4 = .ok (.aload_n 0, 1) := by decide +kernel
theorem dX1_init_5 : decode cX1_init 5 = .ok (.iconst 0, 1) := by decide +kernel
theorem dX1_init_6 : decode cX1_init 6 = .ok (.putfield 9, 3) := by decide +kernel
theorem dX1_init_9 : decode cX1_init 9 = .ok (.aload_n 0, 1) := by decide +kernel
theorem dX1_init_10 : decode cX1_init 10 = .ok (.iconst 2, 1) := by decide +kernel
theorem dX1_init_11 : decode cX1_init 11 = .ok (.putfield 15, 3) := by decide +kernel
theorem dX1_init_14 : decode cX1_init 14 = .ok (.aload_n 0, 1) := by decide +kernel
theorem dX1_init_15 : decode cX1_init 15 = .ok (.iconst 1, 1) := by decide +kernel
theorem dX1_init_16 : decode cX1_init 16 = .ok (.putfield 18, 3) := by decide +kernel
theorem dX1_init_19 : decode cX1_init 19 = .ok (.aload_n 0, 1) := by decide +kernel
theorem dX1_init_20 : decode cX1_init 20 = .ok (.bipush 6, 2) := by decide +kernel
theorem dX1_init_22 : decode cX1_init 22 = .ok (.newarray .int, 2) := by decide +kernel
theorem dX1_init_24 : decode cX1_init 24 = .ok (.putfield 21, 3) := by decide +kernel
theorem dX1_init_27 : decode cX1_init 27 = .ok (.aload_n 0, 1) := by decide +kernel
theorem dX1_init_28 : decode cX1_init 28 = .ok (.bipush 6, 2) := by decide +kernel
theorem dX1_init_30 : decode cX1_init 30 = .ok (.newarray .int, 2) := by decide +kernel
theorem dX1_init_32 : decode cX1_init 32 = .ok (.putfield 25, 3) := by decide +kernel
theorem dX1_init_35 : decode cX1_init 35 = .ok (.aload_n 0, 1) := by decide +kernel
theorem dX1_init_36 : decode cX1_init 36 = .ok (.bipush 6, 2) := by decide +kernel
theorem dX1_init_38 : decode cX1_init 38 = .ok (.newarray .int, 2) := by decide +kernel
theorem dX1_init_40 : decode cX1_init 40 = .ok (.putfield 28, 3) := by decide +kernel
theorem dX1_init_43 : decode cX1_init 43 = .ok (.aload_n 0, 1) := by decide +kernel
theorem dX1_init_44 : decode cX1_init 44 = .ok (.bipush 6, 2) := by decide +kernel
theorem dX1_init_46 : decode cX1_init 46 = .ok (.newarray .int, 2) := by decide +kernel
theorem dX1_init_48 : decode cX1_init 48 = .ok (.putfield 31, 3) := by decide +kernel
theorem dX1_init_51 : decode cX1_init 51 = .ok (.aload_n 0, 1) := by decide +kernel
theorem dX1_init_52 : decode cX1_init 52 = .ok (.bipush 48, 2) := by decide +kernel
theorem dX1_init_54 : decode cX1_init 54 = .ok (.newarray .int, 2) := by decide +kernel
theorem dX1_init_56 : decode cX1_init 56 = .ok (.putfield 34, 3) := by decide +kernel
theorem dX1_init_59 : decode cX1_init 59 = .ok (.aload_n 0, 1) := by decide +kernel
theorem dX1_init_60 : decode cX1_init 60 = .ok (.bipush 48, 2) := by decide +kernel
theorem dX1_init_62 : decode cX1_init 62 = .ok (.newarray .int, 2) := by decide +kernel
theorem dX1_init_64 : decode cX1_init 64 = .ok (.putfield 37, 3) := by decide +kernel
theorem dX1_init_67 : decode cX1_init 67 = .ok (.aload_n 0, 1) := by decide +kernel
theorem dX1_init_68 : decode cX1_init 68 = .ok (.bipush 48, 2) := by decide +kernel
theorem dX1_init_70 : decode cX1_init 70 = .ok (.newarray .int, 2) := by decide +kernel
theorem dX1_init_72 : decode cX1_init 72 = .ok (.putfield 40, 3) := by decide +kernel
theorem dX1_init_75 : decode cX1_init 75 = .ok (.return_, 1) := by decide +kernel
theorem dX1_copyFrom_0 : decode cX1_copyFrom 0 = .ok (.aload_n 0, 1) := by decide +kernel
theorem dX1_copyFrom_1 : decode cX1_copyFrom 1 = .ok (.aload_n 1, 1) := by decide +kernel
theorem dX1_copyFrom_2 : decode cX1_copyFrom 2 = .ok (.getfield 9, 3) := by decide +kernel
theorem dX1_copyFrom_5 : decode cX1_copyFrom 5 = .ok (.putfield 9, 3) := by decide +kernel
theorem dX1_copyFrom_8 : decode cX1_copyFrom 8 = .ok (.aload_n 0, 1) := by decide +kernel
theorem dX1_copyFrom_9 : decode cX1_copyFrom 9 = .ok (.aload_n 1, 1) := by decide +kernel
theorem dX1_copyFrom_10 : decode cX1_copyFrom 10 = .ok (.getfield 15, 3) := by decide +kernel
theorem dX1_copyFrom_13 : decode cX1_copyFrom 13 = .ok (.putfield 15, 3) := by decide +kernel
theorem dX1_copyFrom_16 : decode cX1_copyFrom 16 = .ok (.aload_n 0, 1) := by decide +kernel
theorem dX1_copyFrom_17 : decode cX1_copyFrom 17 = .ok (.aload_n 1, 1) := by decide +kernel
theorem dX1_copyFrom_18 : decode cX1_copyFrom 18 = .ok (.getfield 18, 3) := by decide +kernel
theorem dX1_copyFrom_21 : decode cX1_copyFrom 21 = .ok (.putfield 18, 3) := by decide +kernel
theorem dX1_copyFrom_24 : decode cX1_copyFrom 24 = .ok (.aload_n 1, 1) := by decide +kernel
theorem dX1_copyFrom_25 : decode cX1_copyFrom 25 = .ok (.getfield 21, 3) := by decide +kernel
theorem dX1_copyFrom_28 : decode cX1_copyFrom 28 = .ok (.iconst 0, 1) := by decide +kernel
theorem dX1_copyFrom_29 : decode cX1_copyFrom 29 = .ok (.aload_n 0, 1) := by decide +kernel
theorem dX1_copyFrom_30 : decode cX1_copyFrom 30 = .ok (.getfield 21, 3) := by decide +kernel
theorem dX1_copyFrom_33 : decode cX1_copyFrom 33 = .ok (.iconst 0, 1) := by decide +kernel
theorem dX1_copyFrom_34 : decode cX1_copyFrom 34 = .ok (.bipush 6, 2) := by decide +kernel
theorem dX1_copyFrom_36 : decode cX1_copyFrom 36 = .ok (.invokestatic 43, 3) := by decide +kernel
theorem dX1_copyFrom_39 : decode cX1_copyFrom 39 = .ok (.aload_n 1, 1) := by decide +kernel
theorem dX1_copyFrom_40 : decode cX1_copyFrom 40 = .ok (.getfield 25, 3) := by decide +kernel
theorem dX1_copyFrom_43 : decode cX1_copyFrom 43 = .ok (.iconst 0, 1) := by decide +kernel
theorem dX1_copyFrom_44 : decode cX1_copyFrom 44 = .ok (.aload_n 0, 1) := by decide +kernel
theorem dX1_copyFrom_45 : decode cX1_copyFrom 45 = .ok (.getfield 25, 3) := by decide +kernel
theorem dX1_copyFrom_48 : decode cX1_copyFrom 48 = .ok (.iconst 0, 1) := by decide +kernel
theorem dX1_copyFrom_49 : decode cX1_copyFrom 49 = .ok (.bipush 6, 2) := by decide +kernel
theorem dX1_copyFrom_51 : decode cX1_copyFrom 51 = .ok (.invokestatic 43, 3) := by decide +kernel
theorem dX1_copyFrom_54 : decode cX1_copyFrom 54 = .ok (.aload_n 1, 1) := by decide +kernel
theorem dX1_copyFrom_55 : decode cX1_copyFrom 55 = .ok (.getfield 28, 3) := by decide +kernel
theorem dX1_copyFrom_58 : decode cX1_copyFrom 58 = .ok (.iconst 0, 1) := by decide +kernel
theorem dX1_copyFrom_59 : decode cX1_copyFrom 59 = .ok (.aload_n 0, 1) := by decide +kernel
theorem dX1_copyFrom_60 : decode cX1_copyFrom 60 = .ok (.getfield 28, 3) := by decide +kernel
theorem dX1_copyFrom_63 : decode cX1_copyFrom 63 = .ok (.iconst 0, 1) := by decide +kernel
theorem dX1_copyFrom_64 : decode cX1_copyFrom 64 = .ok (.bipush 6, 2) := by decide +kernel
theorem dX1_copyFrom_66 : decode cX1_copyFrom 66 = .ok (.invokestatic 43, 3) := by decide +kernel
theorem dX1_copyFrom_69 : decode cX1_copyFrom 69 = .ok (.aload_n 1, 1) := by decide +kernel
theorem dX1_copyFrom_70 : decode cX1_copyFrom 70 = .ok (.getfield 31, 3) := by decide +kernel
theorem dX1_copyFrom_73 : decode cX1_copyFrom 73 = .ok (.iconst 0, 1) := by decide +kernel
theorem dX1_copyFrom_74 : decode cX1_copyFrom 74 = .ok (.aload_n 0, 1) := by decide +kernel
theorem dX1_copyFrom_75 : decode cX1_copyFrom 75 = .ok (.getfield 31, 3) := by decide +kernel
theorem dX1_copyFrom_78 : decode cX1_copyFrom 78 = .ok (.iconst 0, 1) := by decide +kernel
theorem dX1_copyFrom_79 : decode cX1_copyFrom 79 = .ok (.bipush 6, 2) := by decide +kernel
theorem dX1_copyFrom_81 : decode cX1_copyFrom 81 = .ok (.invokestatic 43, 3) := by decide +kernel
theorem dX1_copyFrom_84 : decode cX1_copyFrom 84 = .ok (.aload_n 1, 1) := by decide +kernel
theorem dX1_copyFrom_85 : decode cX1_copyFrom 85 = .ok (.getfield 34, 3) := by decide +kernel
theorem dX1_copyFrom_88 : decode cX1_copyFrom 88 = .ok (.iconst 0, 1) := by decide +kernel
theorem dX1_copyFrom_89 : decode cX1_copyFrom 89 = .ok (.aload_n 0, 1) := by decide +kernel
theorem dX1_copyFrom_90 : decode cX1_copyFrom 90 = .ok (.getfield 34, 3) := by decide +kernel
theorem dX1_copyFrom_93 : decode cX1_copyFrom 93 = .ok (.iconst 0, 1) := by decide +kernel
theorem dX1_copyFrom_94 : decode cX1_copyFrom 94 = .ok (.bipush 48, 2) := by decide +kernel
theorem dX1_copyFrom_96 : decode cX1_copyFrom 96 = .ok (.invokestatic 43, 3) := by decide +kernel
theorem dX1_copyFrom_99 : decode cX1_copyFrom 99 = .ok (.aload_n 1, 1) := by decide +kernel
theorem dX1_copyFrom_100 : decode cX1_copyFrom 100 = .ok (.getfield 37, 3) := by decide +kernel
theorem dX1_copyFrom_103 : decode cX1_copyFrom 103 = .ok (.iconst 0, 1) := by decide +kernel
theorem dX1_copyFrom_104 : decode cX1_copyFrom 104 = .ok (.aload_n 0, 1) := by decide +kernel
theorem dX1_copyFrom_105 : decode cX1_copyFrom 105 = .ok (.getfield 37, 3) := by decide +kernel
theorem dX1_copyFrom_108 : decode cX1_copyFrom 108 = .ok (.iconst 0, 1) := by decide +kernel
theorem dX1_copyFrom_109 : decode cX1_copyFrom 109 = .ok (.bipush 48, 2) := by decide +kernel
theorem dX1_copyFrom_111 : decode cX1_copyFrom 111 = .ok (.invokestatic 43, 3) := by decide +kernel
theorem dX1_copyFrom_114 : decode cX1_copyFrom 114 = .ok (.aload_n 1, 1) := by decide +kernel
theorem dX1_copyFrom_115 : decode cX1_copyFrom 115 = .ok (.getfield 40, 3) := by decide +kernel
theorem dX1_copyFrom_118 : decode cX1_copyFrom 118 = .ok (.iconst 0, 1) := by decide +kernel
theorem dX1_copyFrom_119 : decode cX1_copyFrom 119 = .ok (.aload_n 0, 1) := by decide +kernel
theorem dX1_copyFrom_120 : decode cX1_copyFrom 120 = .ok (.getfield 40, 3) := by decide +kernel
theorem dX1_copyFrom_123 : decode cX1_copyFrom 123 = .ok (.iconst 0, 1) := by decide +kernel
theorem dX1_copyFrom_124 : decode cX1_copyFrom 124 = .ok (.bipush 48, 2) := by decide +kernel
theorem dX1_copyFrom_126 : decode cX1_copyFrom 126 = .ok (.invokestatic 43, 3) := by decide +kernel
theorem dX1_copyFrom_129 : decode cX1_copyFrom 129 = .ok (.return_, 1) := by decide +kernel
theorem dX1_hasTongue_0 : decode cX1_hasTongue 0 = .ok (.iload_n 1, 1) := by decide +kernel
theorem dX1_hasTongue_1 : decode cX1_hasTongue 1 = .ok (.iconst 0, 1) := by decide +kernel
theorem dX1_hasTongue_2 : decode cX1_hasTongue 2 = .ok (.aload_n 0, 1) := by decide +kernel
theorem dX1_hasTongue_3 : decode cX1_hasTongue 3 = .ok (.getfield 9, 3) := by decide +kernel
theorem dX1_hasTongue_6 : decode cX1_hasTongue 6 = .ok (.iconst 1, 1) := by decide +kernel
theorem dX1_hasTongue_7 : decode cX1_hasTongue 7 = .ok (.isub, 1) := by decide +kernel
theorem dX1_hasTongue_8 : decode cX1_hasTongue 8 = .ok (.invokestatic 49, 3) := by decide +kernel
theorem dX1_hasTongue_11 : decode cX1_hasTongue 11 = .ok (.ireturn, 1) := by decide +kernel
theorem dX1_hasWords_0 : decode cX1_hasWords 0 = .ok (.aload_n 0, 1) := by decide +kernel
theorem dX1_hasWords_1 : decode cX1_hasWords 1 = .ok (.iload_n 1, 1) := by decide +kernel
theorem dX1_hasWords_2 : decode cX1_hasWords 2 = .ok (.invokevirtual 53, 3) := by decide +kernel
theorem dX1_hasWords_5 : decode cX1_hasWords 5 = .ok (.ifCond .eq 16, 3) := by decide +kernel
theorem dX1_hasWords_8 : decode cX1_hasWords 8 = .ok (.aload_n 0, 1) := by decide +kernel
theorem dX1_hasWords_9 : decode cX1_hasWords 9 = .ok (.getfield 31, 3) := by decide +kernel
theorem dX1_hasWords_12 : decode cX1_hasWords 12 = .ok (.iload_n 1, 1) := by decide +kernel
theorem dX1_hasWords_13 : decode cX1_hasWords 13 = .ok (.iaload, 1) := by decide +kernel
theorem dX1_hasWords_14 : decode cX1_hasWords 14 = .ok (.ifCond .le 7, 3) := by decide +kernel
theorem dX1_hasWords_17 : decode cX1_hasWords 17 = .ok (.iconst 1, 1) := by decide +kernel
theorem dX1_hasWords_18 : decode cX1_hasWords 18 = .ok (.goto 4, 3) := by decide +kernel
theorem dX1_hasWords_21 : decode cX1_hasWords 21 = .ok (.iconst 0, 1) := by decide +kernel
theorem dX1_hasWords_22 : decode cX1_hasWords 22 = .ok (.ireturn, 1) := by decide +kernel
theorem dX1_hasWord_0 : decode cX1_hasWord 0 = .ok (.aload_n 0, 1) := by decide +kernel
theorem dX1_hasWord_1 : decode cX1_hasWord 1 = .ok (.iload_n 1, 1) := by decide +kernel
theorem dX1_hasWord_2 : decode cX1_hasWord 2 = .ok (.invokevirtual 53, 3) := by decide +kernel
theorem dX1_hasWord_5 : decode cX1_hasWord 5 = .ok (.ifCond .eq 23, 3) := by decide +kernel
theorem dX1_hasWord_8 : decode cX1_hasWord 8 = .ok (.iload_n 2, 1) := by decide +kernel
theorem dX1_hasWord_9 : decode cX1_hasWord 9 = .ok (.iconst 0, 1) := by decide +kernel
theorem dX1_hasWord_10 : decode cX1_hasWord 10 = .ok (.aload_n 0, 1) := by decide +kernel
theorem dX1_hasWord_11 : decode cX1_hasWord 11 = .ok (.getfield 31, 3) := by decide +kernel
theorem dX1_hasWord_14 : decode cX1_hasWord 14 = .ok (.iload_n 1, 1) := by decide +kernel
theorem dX1_hasWord_15 : decode cX1_hasWord 15 = .ok (.iaload, 1) := by decide +kernel
theorem dX1_hasWord_16 : decode cX1_hasWord 16 = .ok (.iconst 1, 1) := by decide +kernel
theorem dX1_hasWord_17 : decode cX1_hasWord 17 = .ok (.isub, 1) := by decide +kernel
theorem dX1_hasWord_18 : decode cX1_hasWord 18 = .ok (.invokestatic 49, 3) := by decide +kernel
theorem dX1_hasWord_21 : decode cX1_hasWord 21 = .ok (.ifCond .eq 7, 3) := by decide +kernel
theorem dX1_hasWord_24 : decode cX1_hasWord 24 = .ok (.iconst 1, 1) := by decide +kernel
theorem dX1_hasWord_25 : decode cX1_hasWord 25 = .ok (.goto 4, 3) := by decide +kernel
theorem dX1_hasWord_28 : decode cX1_hasWord 28 = .ok (.iconst 0, 1) := by decide +kernel
theorem dX1_hasWord_29 : decode cX1_hasWord 29 = .ok (.ireturn, 1) := by decide +kernel
theorem dX1_isWordAt_0 : decode cX1_isWordAt 0 = .ok (.iload_n 1, 1) := by decide +kernel
theorem dX1_isWordAt_1 : decode cX1_isWordAt 1 = .ok (.ifCond .lt 22, 3) := by decide +kernel
theorem dX1_isWordAt_4 : decode cX1_isWordAt 4 = .ok (.aload_n 0, 1) := by decide +kernel
theorem dX1_isWordAt_5 : decode cX1_isWordAt 5 = .ok (.iload_n 1, 1) := by decide +kernel
theorem dX1_isWordAt_6 : decode cX1_isWordAt 6 = .ok (.bipush 8, 2) := by decide +kernel
theorem dX1_isWordAt_8 : decode cX1_isWordAt 8 = .ok (.idiv, 1) := by decide +kernel
theorem dX1_isWordAt_9 : decode cX1_isWordAt 9 = .ok (.iload_n 1, 1) := by decide +kernel
theorem dX1_isWordAt_10 : decode cX1_isWordAt 10 = .ok (.bipush 8, 2) := by decide +kernel
theorem dX1_isWordAt_12 : decode cX1_isWordAt 12 = .ok (.irem, 1) := by decide +kernel
theorem dX1_isWordAt_13 : decode cX1_isWordAt 13 = .ok (.invokevirtual 57, 3) := by decide +kernel
theorem dX1_isWordAt_16 : decode cX1_isWordAt 16 = .ok (.ifCond .eq 7, 3) := by decide +kernel
theorem dX1_isWordAt_19 : decode cX1_isWordAt 19 = .ok (.iconst 1, 1) := by decide +kernel
theorem dX1_isWordAt_20 : decode cX1_isWordAt 20 = .ok (.goto 4, 3) := by decide +kernel
theorem dX1_isWordAt_23 : decode cX1_isWordAt 23 = .ok (.iconst 0, 1) := by decide +kernel
theorem dX1_isWordAt_24 : decode cX1_isWordAt 24 = .ok (.ireturn, 1) := by decide +kernel
theorem dX1_addTongue_0 : decode cX1_addTongue 0 = .ok (.aload_n 0, 1) := by decide +kernel
theorem dX1_addTongue_1 : decode cX1_addTongue 1 = .ok (.getfield 21, 3) := by decide +kernel
theorem dX1_addTongue_4 : decode cX1_addTongue 4 = .ok (.aload_n 0, 1) := by decide +kernel
theorem dX1_addTongue_5 : decode cX1_addTongue 5 = .ok (.getfield 9, 3) := by decide +kernel
theorem dX1_addTongue_8 : decode cX1_addTongue 8 = .ok (.iload_n 1, 1) := by decide +kernel
theorem dX1_addTongue_9 : decode cX1_addTongue 9 = .ok (.iastore, 1) := by decide +kernel
theorem dX1_addTongue_10 : decode cX1_addTongue 10 = .ok (.aload_n 0, 1) := by decide +kernel
theorem dX1_addTongue_11 : decode cX1_addTongue 11 = .ok (.getfield 25, 3) := by decide +kernel
theorem dX1_addTongue_14 : decode cX1_addTongue 14 = .ok (.aload_n 0, 1) := by decide +kernel
theorem dX1_addTongue_15 : decode cX1_addTongue 15 = .ok (.getfield 9, 3) := by decide +kernel
theorem dX1_addTongue_18 : decode cX1_addTongue 18 = .ok (.iload_n 2, 1) := by decide +kernel
theorem dX1_addTongue_19 : decode cX1_addTongue 19 = .ok (.iastore, 1) := by decide +kernel
theorem dX1_addTongue_20 : decode cX1_addTongue 20 = .ok (.aload_n 0, 1) := by decide +kernel
theorem dX1_addTongue_21 : decode cX1_addTongue 21 = .ok (.getfield 28, 3) := by decide +kernel
theorem dX1_addTongue_24 : decode cX1_addTongue 24 = .ok (.aload_n 0, 1) := by decide +kernel
theorem dX1_addTongue_25 : decode cX1_addTongue 25 = .ok (.getfield 9, 3) := by decide +kernel
theorem dX1_addTongue_28 : decode cX1_addTongue 28 = .ok (.iload_n 3, 1) := by decide +kernel
theorem dX1_addTongue_29 : decode cX1_addTongue 29 = .ok (.iastore, 1) := by decide +kernel
theorem dX1_addTongue_30 : decode cX1_addTongue 30 = .ok (.aload_n 0, 1) := by decide +kernel
theorem dX1_addTongue_31 : decode cX1_addTongue 31 = .ok (.getfield 31, 3) := by decide +kernel
theorem dX1_addTongue_34 : decode cX1_addTongue 34 = .ok (.aload_n 0, 1) := by decide +kernel
theorem dX1_addTongue_35 : decode cX1_addTongue 35 = .ok (.getfield 9, 3) := by decide +kernel
theorem dX1_addTongue_38 : decode cX1_addTongue 38 = .ok (.iconst 0, 1) := by decide +kernel
theorem dX1_addTongue_39 : decode cX1_addTongue 39 = .ok (.iastore, 1) := by decide +kernel
theorem dX1_addTongue_40 : decode cX1_addTongue 40 = .ok (.aload_n 0, 1) := by decide +kernel
theorem dX1_addTongue_41 : decode cX1_addTongue 41 = .ok (.dup, 1) := by decide +kernel
theorem dX1_addTongue_42 : decode cX1_addTongue 42 = .ok (.getfield 9, 3) := by decide +kernel
theorem dX1_addTongue_45 : decode cX1_addTongue 45 = .ok (.iconst 1, 1) := by decide +kernel
theorem dX1_addTongue_46 : decode cX1_addTongue 46 = .ok (.iadd, 1) := by decide +kernel
theorem dX1_addTongue_47 : decode cX1_addTongue 47 = .ok (.putfield 9, 3) := by decide +kernel
theorem dX1_addTongue_50 : decode cX1_addTongue 50 = .ok (.aload_n 0, 1) := by decide +kernel
theorem dX1_addTongue_51 : decode cX1_addTongue 51 = .ok (.getfield 9, 3) := by decide +kernel
theorem dX1_addTongue_54 : decode cX1_addTongue 54 = .ok (.iconst 1, 1) := by decide +kernel
theorem dX1_addTongue_55 : decode cX1_addTongue 55 = .ok (.isub, 1) := by decide +kernel
theorem dX1_addTongue_56 : decode cX1_addTongue 56 = .ok (.ireturn, 1) := by decide +kernel
theorem dX1_addWord_0 : decode cX1_addWord 0 = .ok (.aload_n 0, 1) := by decide +kernel
theorem dX1_addWord_1 : decode cX1_addWord 1 = .ok (.getfield 31, 3) := by decide +kernel
theorem dX1_addWord_4 : decode cX1_addWord 4 = .ok (.iload_n 1, 1) := by decide +kernel
theorem dX1_addWord_5 : decode cX1_addWord 5 = .ok (.iaload, 1) := by decide +kernel
theorem dX1_addWord_6 : decode cX1_addWord 6 = .ok (.istore 5, 2) := by decide +kernel
theorem dX1_addWord_8 : decode cX1_addWord 8 = .ok (.iload_n 1, 1) := by decide +kernel
theorem dX1_addWord_9 : decode cX1_addWord 9 = .ok (.bipush 8, 2) := by decide +kernel
theorem dX1_addWord_11 : decode cX1_addWord 11 = .ok (.imul, 1) := by decide +kernel
theorem dX1_addWord_12 : decode cX1_addWord 12 = .ok (.iload 5, 2) := by decide +kernel
theorem dX1_addWord_14 : decode cX1_addWord 14 = .ok (.iadd, 1) := by decide +kernel
theorem dX1_addWord_15 : decode cX1_addWord 15 = .ok (.istore 6, 2) := by decide +kernel
theorem dX1_addWord_17 : decode cX1_addWord 17 = .ok (.aload_n 0, 1) := by decide +kernel
theorem dX1_addWord_18 : decode cX1_addWord 18 = .ok (.getfield 34, 3) := by decide +kernel
theorem dX1_addWord_21 : decode cX1_addWord 21 = .ok (.iload 6, 2) := by decide +kernel
theorem dX1_addWord_23 : decode cX1_addWord 23 = .ok (.iload_n 2, 1) := by decide +kernel
theorem dX1_addWord_24 : decode cX1_addWord 24 = .ok (.iastore, 1) := by decide +kernel
theorem dX1_addWord_25 : decode cX1_addWord 25 = .ok (.aload_n 0, 1) := by decide +kernel
theorem dX1_addWord_26 : decode cX1_addWord 26 = .ok (.getfield 37, 3) := by decide +kernel
theorem dX1_addWord_29 : decode cX1_addWord 29 = .ok (.iload 6, 2) := by decide +kernel
theorem dX1_addWord_31 : decode cX1_addWord 31 = .ok (.iload_n 3, 1) := by decide +kernel
theorem dX1_addWord_32 : decode cX1_addWord 32 = .ok (.iastore, 1) := by decide +kernel
theorem dX1_addWord_33 : decode cX1_addWord 33 = .ok (.aload_n 0, 1) := by decide +kernel
theorem dX1_addWord_34 : decode cX1_addWord 34 = .ok (.getfield 40, 3) := by decide +kernel
theorem dX1_addWord_37 : decode cX1_addWord 37 = .ok (.iload 6, 2) := by decide +kernel
theorem dX1_addWord_39 : decode cX1_addWord 39 = .ok (.iload 4, 2) := by decide +kernel
theorem dX1_addWord_41 : decode cX1_addWord 41 = .ok (.iastore, 1) := by decide +kernel
theorem dX1_addWord_42 : decode cX1_addWord 42 = .ok (.aload_n 0, 1) := by decide +kernel
theorem dX1_addWord_43 : decode cX1_addWord 43 = .ok (.getfield 31, 3) := by decide +kernel
theorem dX1_addWord_46 : decode cX1_addWord 46 = .ok (.iload_n 1, 1) := by decide +kernel
theorem dX1_addWord_47 : decode cX1_addWord 47 = .ok (.dup2, 1) := by decide +kernel
theorem dX1_addWord_48 : decode cX1_addWord 48 = .ok (.iaload, 1) := by decide +kernel
theorem dX1_addWord_49 : decode cX1_addWord 49 = .ok (.iconst 1, 1) := by decide +kernel
theorem dX1_addWord_50 : decode cX1_addWord 50 = .ok (.iadd, 1) := by decide +kernel
theorem dX1_addWord_51 : decode cX1_addWord 51 = .ok (.iastore, 1) := by decide +kernel
theorem dX1_addWord_52 : decode cX1_addWord 52 = .ok (.iload 5, 2) := by decide +kernel
theorem dX1_addWord_54 : decode cX1_addWord 54 = .ok (.ireturn, 1) := by decide +kernel
theorem dX1_voiceBehind_0 : decode cX1_voiceBehind 0 = .ok (.iload_n 1, 1) := by decide +kernel
theorem dX1_voiceBehind_1 : decode cX1_voiceBehind 1 = .ok (.iconst 1, 1) := by decide +kernel
theorem dX1_voiceBehind_2 : decode cX1_voiceBehind 2 = .ok (.iadd, 1) := by decide +kernel
theorem dX1_voiceBehind_3 : decode cX1_voiceBehind 3 = .ok (.istore_n 2, 1) := by decide +kernel
theorem dX1_voiceBehind_4 : decode cX1_voiceBehind 4 = .ok (.iload_n 2, 1) := by decide +kernel
theorem dX1_voiceBehind_5 : decode cX1_voiceBehind 5 = .ok (.aload_n 0, 1) := by decide +kernel
theorem dX1_voiceBehind_6 : decode cX1_voiceBehind 6 = .ok (.getfield 9, 3) := by decide +kernel
theorem dX1_voiceBehind_9 : decode cX1_voiceBehind 9 = .ok (.if_icmp .ge 19, 3) := by decide +kernel
theorem dX1_voiceBehind_12 : decode cX1_voiceBehind 12 = .ok (.aload_n 0, 1) := by decide +kernel
theorem dX1_voiceBehind_13 : decode cX1_voiceBehind 13 = .ok (.iload_n 2, 1) := by decide +kernel
theorem dX1_voiceBehind_14 : decode cX1_voiceBehind 14 = .ok (.invokevirtual 61, 3) := by decide +kernel
theorem dX1_voiceBehind_17 : decode cX1_voiceBehind 17 = .ok (.ifCond .eq 5, 3) := by decide +kernel
theorem dX1_voiceBehind_20 : decode cX1_voiceBehind 20 = .ok (.iload_n 2, 1) := by decide +kernel
theorem dX1_voiceBehind_21 : decode cX1_voiceBehind 21 = .ok (.ireturn, 1) := by decide +kernel
theorem dX1_voiceBehind_22 : decode cX1_voiceBehind 22 = .ok (.iinc 2 1, 3) := by decide +kernel
theorem dX1_voiceBehind_25 : decode cX1_voiceBehind 25 = .ok (.goto (-21), 3) := by decide +kernel
theorem dX1_voiceBehind_28 : decode cX1_voiceBehind 28 = .ok (.iconst (-1), 1) := by decide +kernel
theorem dX1_voiceBehind_29 : decode cX1_voiceBehind 29 = .ok (.ireturn, 1) := by decide +kernel
theorem dX1_costOf_0 : decode cX1_costOf 0 = .ok (.aload_n 0, 1) := by decide +kernel
theorem dX1_costOf_1 : decode cX1_costOf 1 = .ok (.getfield 15, 3) := by decide +kernel
theorem dX1_costOf_4 : decode cX1_costOf 4 = .ok (.iload_n 2, 1) := by decide +kernel
theorem dX1_costOf_5 : decode cX1_costOf 5 = .ok (.aload_n 0, 1) := by decide +kernel
theorem dX1_costOf_6 : decode cX1_costOf 6 = .ok (.getfield 34, 3) := by decide +kernel
theorem dX1_costOf_9 : decode cX1_costOf 9 = .ok (.iload 4, 2) := by decide +kernel
theorem dX1_costOf_11 : decode cX1_costOf 11 = .ok (.iaload, 1) := by decide +kernel
theorem dX1_costOf_12 : decode cX1_costOf 12 = .ok (.iconst (-1), 1) := by decide +kernel
theorem dX1_costOf_13 : decode cX1_costOf 13 = .ok (.ixor, 1) := by decide +kernel
theorem dX1_costOf_14 : decode cX1_costOf 14 = .ok (.iand, 1) := by decide +kernel
theorem dX1_costOf_15 : decode cX1_costOf 15 = .ok (.invokestatic 64, 3) := by decide +kernel
theorem dX1_costOf_18 : decode cX1_costOf 18 = .ok (.imul, 1) := by decide +kernel
theorem dX1_costOf_19 : decode cX1_costOf 19 = .ok (.istore 5, 2) := by decide +kernel
theorem dX1_costOf_21 : decode cX1_costOf 21 = .ok (.aload_n 0, 1) := by decide +kernel
theorem dX1_costOf_22 : decode cX1_costOf 22 = .ok (.getfield 18, 3) := by decide +kernel
theorem dX1_costOf_25 : decode cX1_costOf 25 = .ok (.aload_n 0, 1) := by decide +kernel
theorem dX1_costOf_26 : decode cX1_costOf 26 = .ok (.getfield 34, 3) := by decide +kernel
theorem dX1_costOf_29 : decode cX1_costOf 29 = .ok (.iload 4, 2) := by decide +kernel
theorem dX1_costOf_31 : decode cX1_costOf 31 = .ok (.iaload, 1) := by decide +kernel
theorem dX1_costOf_32 : decode cX1_costOf 32 = .ok (.iload_n 2, 1) := by decide +kernel
theorem dX1_costOf_33 : decode cX1_costOf 33 = .ok (.iconst (-1), 1) := by decide +kernel
theorem dX1_costOf_34 : decode cX1_costOf 34 = .ok (.ixor, 1) := by decide +kernel
theorem dX1_costOf_35 : decode cX1_costOf 35 = .ok (.iand, 1) := by decide +kernel
theorem dX1_costOf_36 : decode cX1_costOf 36 = .ok (.invokestatic 64, 3) := by decide +kernel
theorem dX1_costOf_39 : decode cX1_costOf 39 = .ok (.imul, 1) := by decide +kernel
theorem dX1_costOf_40 : decode cX1_costOf 40 = .ok (.istore 6, 2) := by decide +kernel
theorem dX1_costOf_42 : decode cX1_costOf 42 = .ok (.iload 5, 2) := by decide +kernel
theorem dX1_costOf_44 : decode cX1_costOf 44 = .ok (.iload 6, 2) := by decide +kernel
theorem dX1_costOf_46 : decode cX1_costOf 46 = .ok (.iadd, 1) := by decide +kernel
theorem dX1_costOf_47 : decode cX1_costOf 47 = .ok (.istore 7, 2) := by decide +kernel
theorem dX1_costOf_49 : decode cX1_costOf 49 = .ok (.iload_n 1, 1) := by decide +kernel
theorem dX1_costOf_50 : decode cX1_costOf 50 = .ok (.tableswitch 110 0 5 #[110, 38, 44, 50, 61, 89], 38) := by decide +kernel
theorem dX1_costOf_88 : decode cX1_costOf 88 = .ok (.iload 7, 2) := by decide +kernel
theorem dX1_costOf_90 : decode cX1_costOf 90 = .ok (.iload 6, 2) := by decide +kernel
theorem dX1_costOf_92 : decode cX1_costOf 92 = .ok (.iadd, 1) := by decide +kernel
theorem dX1_costOf_93 : decode cX1_costOf 93 = .ok (.ireturn, 1) := by decide +kernel
theorem dX1_costOf_94 : decode cX1_costOf 94 = .ok (.iload 7, 2) := by decide +kernel
theorem dX1_costOf_96 : decode cX1_costOf 96 = .ok (.iload 5, 2) := by decide +kernel
theorem dX1_costOf_98 : decode cX1_costOf 98 = .ok (.iadd, 1) := by decide +kernel
theorem dX1_costOf_99 : decode cX1_costOf 99 = .ok (.ireturn, 1) := by decide +kernel
theorem dX1_costOf_100 : decode cX1_costOf 100 = .ok (.iload 7, 2) := by decide +kernel
theorem dX1_costOf_102 : decode cX1_costOf 102 = .ok (.aload_n 0, 1) := by decide +kernel
theorem dX1_costOf_103 : decode cX1_costOf 103 = .ok (.getfield 40, 3) := by decide +kernel
theorem dX1_costOf_106 : decode cX1_costOf 106 = .ok (.iload 4, 2) := by decide +kernel
theorem dX1_costOf_108 : decode cX1_costOf 108 = .ok (.iaload, 1) := by decide +kernel
theorem dX1_costOf_109 : decode cX1_costOf 109 = .ok (.isub, 1) := by decide +kernel
theorem dX1_costOf_110 : decode cX1_costOf 110 = .ok (.ireturn, 1) := by decide +kernel
theorem dX1_costOf_111 : decode cX1_costOf 111 = .ok (.iload 7, 2) := by decide +kernel
theorem dX1_costOf_113 : decode cX1_costOf 113 = .ok (.iload 6, 2) := by decide +kernel
theorem dX1_costOf_115 : decode cX1_costOf 115 = .ok (.iadd, 1) := by decide +kernel
theorem dX1_costOf_116 : decode cX1_costOf 116 = .ok (.iload_n 3, 1) := by decide +kernel
theorem dX1_costOf_117 : decode cX1_costOf 117 = .ok (.iconst (-1), 1) := by decide +kernel
theorem dX1_costOf_118 : decode cX1_costOf 118 = .ok (.if_icmp .ne 7, 3) := by decide +kernel
theorem dX1_costOf_121 : decode cX1_costOf 121 = .ok (.iconst 0, 1) := by decide +kernel
theorem dX1_costOf_122 : decode cX1_costOf 122 = .ok (.goto 15, 3) := by decide +kernel
theorem dX1_costOf_125 : decode cX1_costOf 125 = .ok (.aload_n 0, 1) := by decide +kernel
theorem dX1_costOf_126 : decode cX1_costOf 126 = .ok (.getfield 37, 3) := by decide +kernel
theorem dX1_costOf_129 : decode cX1_costOf 129 = .ok (.iload 4, 2) := by decide +kernel
theorem dX1_costOf_131 : decode cX1_costOf 131 = .ok (.iaload, 1) := by decide +kernel
theorem dX1_costOf_132 : decode cX1_costOf 132 = .ok (.iload_n 3, 1) := by decide +kernel
theorem dX1_costOf_133 : decode cX1_costOf 133 = .ok (.isub, 1) := by decide +kernel
theorem dX1_costOf_134 : decode cX1_costOf 134 = .ok (.invokestatic 70, 3) := by decide +kernel
theorem dX1_costOf_137 : decode cX1_costOf 137 = .ok (.iadd, 1) := by decide +kernel
theorem dX1_costOf_138 : decode cX1_costOf 138 = .ok (.ireturn, 1) := by decide +kernel
theorem dX1_costOf_139 : decode cX1_costOf 139 = .ok (.iload_n 2, 1) := by decide +kernel
theorem dX1_costOf_140 : decode cX1_costOf 140 = .ok (.aload_n 0, 1) := by decide +kernel
theorem dX1_costOf_141 : decode cX1_costOf 141 = .ok (.getfield 34, 3) := by decide +kernel
theorem dX1_costOf_144 : decode cX1_costOf 144 = .ok (.iload 4, 2) := by decide +kernel
theorem dX1_costOf_146 : decode cX1_costOf 146 = .ok (.iaload, 1) := by decide +kernel
theorem dX1_costOf_147 : decode cX1_costOf 147 = .ok (.if_icmp .ne 8, 3) := by decide +kernel
theorem dX1_costOf_150 : decode cX1_costOf 150 = .ok (.iload 7, 2) := by decide +kernel
theorem dX1_costOf_152 : decode cX1_costOf 152 = .ok (.goto 7, 3) := by decide +kernel
theorem dX1_costOf_155 : decode cX1_costOf 155 = .ok (.iload 7, 2) := by decide +kernel
theorem dX1_costOf_157 : decode cX1_costOf 157 = .ok (.iconst 5, 1) := by decide +kernel
theorem dX1_costOf_158 : decode cX1_costOf 158 = .ok (.iadd, 1) := by decide +kernel
theorem dX1_costOf_159 : decode cX1_costOf 159 = .ok (.ireturn, 1) := by decide +kernel
theorem dX1_costOf_160 : decode cX1_costOf 160 = .ok (.iload 7, 2) := by decide +kernel
theorem dX1_costOf_162 : decode cX1_costOf 162 = .ok (.ireturn, 1) := by decide +kernel
theorem dX1_cheapest_0 : decode cX1_cheapest 0 = .ok (.iload_n 2, 1) := by decide +kernel
theorem dX1_cheapest_1 : decode cX1_cheapest 1 = .ok (.bipush 8, 2) := by decide +kernel
theorem dX1_cheapest_3 : decode cX1_cheapest 3 = .ok (.imul, 1) := by decide +kernel
theorem dX1_cheapest_4 : decode cX1_cheapest 4 = .ok (.istore 5, 2) := by decide +kernel
theorem dX1_cheapest_6 : decode cX1_cheapest 6 = .ok (.iload 5, 2) := by decide +kernel
theorem dX1_cheapest_8 : decode cX1_cheapest 8 = .ok (.istore 6, 2) := by decide +kernel
theorem dX1_cheapest_10 : decode cX1_cheapest 10 = .ok (.aload_n 0, 1) := by decide +kernel
theorem dX1_cheapest_11 : decode cX1_cheapest 11 = .ok (.iload_n 1, 1) := by decide +kernel
theorem dX1_cheapest_12 : decode cX1_cheapest 12 = .ok (.iload_n 3, 1) := by decide +kernel
theorem dX1_cheapest_13 : decode cX1_cheapest 13 = .ok (.iload 4, 2) := by decide +kernel
theorem dX1_cheapest_15 : decode cX1_cheapest 15 = .ok (.iload 5, 2) := by decide +kernel
theorem dX1_cheapest_17 : decode cX1_cheapest 17 = .ok (.invokevirtual 75, 3) := by decide +kernel
theorem dX1_cheapest_20 : decode cX1_cheapest 20 = .ok (.istore 7, 2) := by decide +kernel
theorem dX1_cheapest_22 : decode cX1_cheapest 22 = .ok (.iload 5, 2) := by decide +kernel
theorem dX1_cheapest_24 : decode cX1_cheapest 24 = .ok (.iconst 1, 1) := by decide +kernel
theorem dX1_cheapest_25 : decode cX1_cheapest 25 = .ok (.iadd, 1) := by decide +kernel
theorem dX1_cheapest_26 : decode cX1_cheapest 26 = .ok (.istore 8, 2) := by decide +kernel
theorem dX1_cheapest_28 : decode cX1_cheapest 28 = .ok (.iload 8, 2) := by decide +kernel
theorem dX1_cheapest_30 : decode cX1_cheapest 30 = .ok (.iload 5, 2) := by decide +kernel
theorem dX1_cheapest_32 : decode cX1_cheapest 32 = .ok (.aload_n 0, 1) := by decide +kernel
theorem dX1_cheapest_33 : decode cX1_cheapest 33 = .ok (.getfield 31, 3) := by decide +kernel
theorem dX1_cheapest_36 : decode cX1_cheapest 36 = .ok (.iload_n 2, 1) := by decide +kernel
theorem dX1_cheapest_37 : decode cX1_cheapest 37 = .ok (.iaload, 1) := by decide +kernel
theorem dX1_cheapest_38 : decode cX1_cheapest 38 = .ok (.iadd, 1) := by decide +kernel
theorem dX1_cheapest_39 : decode cX1_cheapest 39 = .ok (.if_icmp .ge 60, 3) := by decide +kernel
theorem dX1_cheapest_42 : decode cX1_cheapest 42 = .ok (.aload_n 0, 1) := by decide +kernel
theorem dX1_cheapest_43 : decode cX1_cheapest 43 = .ok (.iload_n 1, 1) := by decide +kernel
theorem dX1_cheapest_44 : decode cX1_cheapest 44 = .ok (.iload_n 3, 1) := by decide +kernel
theorem dX1_cheapest_45 : decode cX1_cheapest 45 = .ok (.iload 4, 2) := by decide +kernel
theorem dX1_cheapest_47 : decode cX1_cheapest 47 = .ok (.iload 8, 2) := by decide +kernel
theorem dX1_cheapest_49 : decode cX1_cheapest 49 = .ok (.invokevirtual 75, 3) := by decide +kernel
theorem dX1_cheapest_52 : decode cX1_cheapest 52 = .ok (.istore 9, 2) := by decide +kernel
theorem dX1_cheapest_54 : decode cX1_cheapest 54 = .ok (.iload 9, 2) := by decide +kernel
theorem dX1_cheapest_56 : decode cX1_cheapest 56 = .ok (.iload 7, 2) := by decide +kernel
theorem dX1_cheapest_58 : decode cX1_cheapest 58 = .ok (.if_icmp .lt 27, 3) := by decide +kernel
theorem dX1_cheapest_61 : decode cX1_cheapest 61 = .ok (.iload 9, 2) := by decide +kernel
theorem dX1_cheapest_63 : decode cX1_cheapest 63 = .ok (.iload 7, 2) := by decide +kernel
theorem dX1_cheapest_65 : decode cX1_cheapest 65 = .ok (.if_icmp .ne 28, 3) := by decide +kernel
theorem dX1_cheapest_68 : decode cX1_cheapest 68 = .ok (.aload_n 0, 1) := by decide +kernel
theorem dX1_cheapest_69 : decode cX1_cheapest 69 = .ok (.getfield 40, 3) := by decide +kernel
theorem dX1_cheapest_72 : decode cX1_cheapest 72 = .ok (.iload 8, 2) := by decide +kernel
theorem dX1_cheapest_74 : decode cX1_cheapest 74 = .ok (.iaload, 1) := by decide +kernel
theorem dX1_cheapest_75 : decode cX1_cheapest 75 = .ok (.aload_n 0, 1) := by decide +kernel
theorem dX1_cheapest_76 : decode cX1_cheapest 76 = .ok (.getfield 40, 3) := by decide +kernel
theorem dX1_cheapest_79 : decode cX1_cheapest 79 = .ok (.iload 6, 2) := by decide +kernel
theorem dX1_cheapest_81 : decode cX1_cheapest 81 = .ok (.iaload, 1) := by decide +kernel
theorem dX1_cheapest_82 : decode cX1_cheapest 82 = .ok (.if_icmp .le 11, 3) := by decide +kernel
theorem dX1_cheapest_85 : decode cX1_cheapest 85 = .ok (.iload 8, 2) := by decide +kernel
theorem dX1_cheapest_87 : decode cX1_cheapest 87 = .ok (.istore 6, 2) := by decide +kernel
theorem dX1_cheapest_89 : decode cX1_cheapest 89 = .ok (.iload 9, 2) := by decide +kernel
theorem dX1_cheapest_91 : decode cX1_cheapest 91 = .ok (.istore 7, 2) := by decide +kernel
theorem dX1_cheapest_93 : decode cX1_cheapest 93 = .ok (.iinc 8 1, 3) := by decide +kernel
theorem dX1_cheapest_96 : decode cX1_cheapest 96 = .ok (.goto (-68), 3) := by decide +kernel
theorem dX1_cheapest_99 : decode cX1_cheapest 99 = .ok (.iload 6, 2) := by decide +kernel
theorem dX1_cheapest_101 : decode cX1_cheapest 101 = .ok (.ireturn, 1) := by decide +kernel
theorem dX1_carry_0 : decode cX1_carry 0 = .ok (.aload_n 0, 1) := by decide +kernel
theorem dX1_carry_1 : decode cX1_carry 1 = .ok (.iload_n 3, 1) := by decide +kernel
theorem dX1_carry_2 : decode cX1_carry 2 = .ok (.invokevirtual 61, 3) := by decide +kernel
theorem dX1_carry_5 : decode cX1_carry 5 = .ok (.ifCond .ne 4, 3) := by decide +kernel
theorem dX1_carry_8 : decode cX1_carry 8 = .ok (.return_, 1) := by decide +kernel
theorem dX1_carry_9 : decode cX1_carry 9 = .ok (.iconst 0, 1) := by decide +kernel
theorem dX1_carry_10 : decode cX1_carry 10 = .ok (.istore 4, 2) := by decide +kernel
theorem dX1_carry_12 : decode cX1_carry 12 = .ok (.iload 4, 2) := by decide +kernel
theorem dX1_carry_14 : decode cX1_carry 14 = .ok (.aload_n 1, 1) := by decide +kernel
theorem dX1_carry_15 : decode cX1_carry 15 = .ok (.getfield 79, 3) := by decide +kernel
theorem dX1_carry_18 : decode cX1_carry 18 = .ok (.if_icmp .ge 59, 3) := by decide +kernel
theorem dX1_carry_21 : decode cX1_carry 21 = .ok (.aload_n 0, 1) := by decide +kernel
theorem dX1_carry_22 : decode cX1_carry 22 = .ok (.iload_n 2, 1) := by decide +kernel
theorem dX1_carry_23 : decode cX1_carry 23 = .ok (.iload_n 3, 1) := by decide +kernel
theorem dX1_carry_24 : decode cX1_carry 24 = .ok (.aload_n 1, 1) := by decide +kernel
theorem dX1_carry_25 : decode cX1_carry 25 = .ok (.getfield 84, 3) := by decide +kernel
theorem dX1_carry_28 : decode cX1_carry 28 = .ok (.iload 4, 2) := by decide +kernel
theorem dX1_carry_30 : decode cX1_carry 30 = .ok (.iaload, 1) := by decide +kernel
theorem dX1_carry_31 : decode cX1_carry 31 = .ok (.aload_n 1, 1) := by decide +kernel
theorem dX1_carry_32 : decode cX1_carry 32 = .ok (.getfield 85, 3) := by decide +kernel
theorem dX1_carry_35 : decode cX1_carry 35 = .ok (.iload 4, 2) := by decide +kernel
theorem dX1_carry_37 : decode cX1_carry 37 = .ok (.iaload, 1) := by decide +kernel
theorem dX1_carry_38 : decode cX1_carry 38 = .ok (.invokevirtual 86, 3) := by decide +kernel
theorem dX1_carry_41 : decode cX1_carry 41 = .ok (.istore 5, 2) := by decide +kernel
theorem dX1_carry_43 : decode cX1_carry 43 = .ok (.aload_n 1, 1) := by decide +kernel
theorem dX1_carry_44 : decode cX1_carry 44 = .ok (.getfield 84, 3) := by decide +kernel
theorem dX1_carry_47 : decode cX1_carry 47 = .ok (.iload 4, 2) := by decide +kernel
theorem dX1_carry_49 : decode cX1_carry 49 = .ok (.aload_n 0, 1) := by decide +kernel
theorem dX1_carry_50 : decode cX1_carry 50 = .ok (.getfield 34, 3) := by decide +kernel
theorem dX1_carry_53 : decode cX1_carry 53 = .ok (.iload 5, 2) := by decide +kernel
theorem dX1_carry_55 : decode cX1_carry 55 = .ok (.iaload, 1) := by decide +kernel
theorem dX1_carry_56 : decode cX1_carry 56 = .ok (.iastore, 1) := by decide +kernel
theorem dX1_carry_57 : decode cX1_carry 57 = .ok (.aload_n 1, 1) := by decide +kernel
theorem dX1_carry_58 : decode cX1_carry 58 = .ok (.getfield 85, 3) := by decide +kernel
theorem dX1_carry_61 : decode cX1_carry 61 = .ok (.iload 4, 2) := by decide +kernel
theorem dX1_carry_63 : decode cX1_carry 63 = .ok (.aload_n 0, 1) := by decide +kernel
theorem dX1_carry_64 : decode cX1_carry 64 = .ok (.getfield 37, 3) := by decide +kernel
theorem dX1_carry_67 : decode cX1_carry 67 = .ok (.iload 5, 2) := by decide +kernel
theorem dX1_carry_69 : decode cX1_carry 69 = .ok (.iaload, 1) := by decide +kernel
theorem dX1_carry_70 : decode cX1_carry 70 = .ok (.iastore, 1) := by decide +kernel
theorem dX1_carry_71 : decode cX1_carry 71 = .ok (.iinc 4 1, 3) := by decide +kernel
theorem dX1_carry_74 : decode cX1_carry 74 = .ok (.goto (-62), 3) := by decide +kernel
theorem dX1_carry_77 : decode cX1_carry 77 = .ok (.iconst 0, 1) := by decide +kernel
theorem dX1_carry_78 : decode cX1_carry 78 = .ok (.istore 4, 2) := by decide +kernel
theorem dX1_carry_80 : decode cX1_carry 80 = .ok (.iload 4, 2) := by decide +kernel
theorem dX1_carry_82 : decode cX1_carry 82 = .ok (.iconst 4, 1) := by decide +kernel
theorem dX1_carry_83 : decode cX1_carry 83 = .ok (.if_icmp .ge 30, 3) := by decide +kernel
theorem dX1_carry_86 : decode cX1_carry 86 = .ok (.aload_n 1, 1) := by decide +kernel
theorem dX1_carry_87 : decode cX1_carry 87 = .ok (.getfield 89, 3) := by decide +kernel
theorem dX1_carry_90 : decode cX1_carry 90 = .ok (.iload 4, 2) := by decide +kernel
theorem dX1_carry_92 : decode cX1_carry 92 = .ok (.aload_n 0, 1) := by decide +kernel
theorem dX1_carry_93 : decode cX1_carry 93 = .ok (.iload_n 3, 1) := by decide +kernel
theorem dX1_carry_94 : decode cX1_carry 94 = .ok (.iload 4, 2) := by decide +kernel
theorem dX1_carry_96 : decode cX1_carry 96 = .ok (.aload_n 1, 1) := by decide +kernel
theorem dX1_carry_97 : decode cX1_carry 97 = .ok (.getfield 89, 3) := by decide +kernel
theorem dX1_carry_100 : decode cX1_carry 100 = .ok (.iload 4, 2) := by decide +kernel
theorem dX1_carry_102 : decode cX1_carry 102 = .ok (.iaload, 1) := by decide +kernel
theorem dX1_carry_103 : decode cX1_carry 103 = .ok (.invokevirtual 92, 3) := by decide +kernel
theorem dX1_carry_106 : decode cX1_carry 106 = .ok (.iastore, 1) := by decide +kernel
theorem dX1_carry_107 : decode cX1_carry 107 = .ok (.iinc 4 1, 3) := by decide +kernel
theorem dX1_carry_110 : decode cX1_carry 110 = .ok (.goto (-30), 3) := by decide +kernel
theorem dX1_carry_113 : decode cX1_carry 113 = .ok (.return_, 1) := by decide +kernel
theorem dX1_formIn_0 : decode cX1_formIn 0 = .ok (.aload_n 0, 1) := by decide +kernel
theorem dX1_formIn_1 : decode cX1_formIn 1 = .ok (.getfield 25, 3) := by decide +kernel
theorem dX1_formIn_4 : decode cX1_formIn 4 = .ok (.iload_n 1, 1) := by decide +kernel
theorem dX1_formIn_5 : decode cX1_formIn 5 = .ok (.iaload, 1) := by decide +kernel
theorem dX1_formIn_6 : decode cX1_formIn 6 = .ok (.iload_n 2, 1) := by decide +kernel
theorem dX1_formIn_7 : decode cX1_formIn 7 = .ok (.ishr, 1) := by decide +kernel
theorem dX1_formIn_8 : decode cX1_formIn 8 = .ok (.iconst 1, 1) := by decide +kernel
theorem dX1_formIn_9 : decode cX1_formIn 9 = .ok (.iand, 1) := by decide +kernel
theorem dX1_formIn_10 : decode cX1_formIn 10 = .ok (.ifCond .ne 5, 3) := by decide +kernel
theorem dX1_formIn_13 : decode cX1_formIn 13 = .ok (.iconst (-1), 1) := by decide +kernel
theorem dX1_formIn_14 : decode cX1_formIn 14 = .ok (.ireturn, 1) := by decide +kernel
theorem dX1_formIn_15 : decode cX1_formIn 15 = .ok (.iload_n 3, 1) := by decide +kernel
theorem dX1_formIn_16 : decode cX1_formIn 16 = .ok (.iconst (-1), 1) := by decide +kernel
theorem dX1_formIn_17 : decode cX1_formIn 17 = .ok (.if_icmp .ne 20, 3) := by decide +kernel
theorem dX1_formIn_20 : decode cX1_formIn 20 = .ok (.aload_n 0, 1) := by decide +kernel
theorem dX1_formIn_21 : decode cX1_formIn 21 = .ok (.getfield 21, 3) := by decide +kernel
theorem dX1_formIn_24 : decode cX1_formIn 24 = .ok (.iload_n 1, 1) := by decide +kernel
theorem dX1_formIn_25 : decode cX1_formIn 25 = .ok (.iaload, 1) := by decide +kernel
theorem dX1_formIn_26 : decode cX1_formIn 26 = .ok (.iload_n 2, 1) := by decide +kernel
theorem dX1_formIn_27 : decode cX1_formIn 27 = .ok (.ishr, 1) := by decide +kernel
theorem dX1_formIn_28 : decode cX1_formIn 28 = .ok (.iconst 1, 1) := by decide +kernel
theorem dX1_formIn_29 : decode cX1_formIn 29 = .ok (.iand, 1) := by decide +kernel
theorem dX1_formIn_30 : decode cX1_formIn 30 = .ok (.ifCond .eq 7, 3) := by decide +kernel
theorem dX1_formIn_33 : decode cX1_formIn 33 = .ok (.iconst 1, 1) := by decide +kernel
theorem dX1_formIn_34 : decode cX1_formIn 34 = .ok (.goto 4, 3) := by decide +kernel
theorem dX1_formIn_37 : decode cX1_formIn 37 = .ok (.iconst 0, 1) := by decide +kernel
theorem dX1_formIn_38 : decode cX1_formIn 38 = .ok (.istore 4, 2) := by decide +kernel
theorem dX1_formIn_40 : decode cX1_formIn 40 = .ok (.iload 4, 2) := by decide +kernel
theorem dX1_formIn_42 : decode cX1_formIn 42 = .ok (.ifCond .eq 16, 3) := by decide +kernel
theorem dX1_formIn_45 : decode cX1_formIn 45 = .ok (.aload_n 0, 1) := by decide +kernel
theorem dX1_formIn_46 : decode cX1_formIn 46 = .ok (.getfield 28, 3) := by decide +kernel
theorem dX1_formIn_49 : decode cX1_formIn 49 = .ok (.iload_n 1, 1) := by decide +kernel
theorem dX1_formIn_50 : decode cX1_formIn 50 = .ok (.iaload, 1) := by decide +kernel
theorem dX1_formIn_51 : decode cX1_formIn 51 = .ok (.iload_n 2, 1) := by decide +kernel
theorem dX1_formIn_52 : decode cX1_formIn 52 = .ok (.ishr, 1) := by decide +kernel
theorem dX1_formIn_53 : decode cX1_formIn 53 = .ok (.iconst 1, 1) := by decide +kernel
theorem dX1_formIn_54 : decode cX1_formIn 54 = .ok (.iand, 1) := by decide +kernel
theorem dX1_formIn_55 : decode cX1_formIn 55 = .ok (.goto 4, 3) := by decide +kernel
theorem dX1_formIn_58 : decode cX1_formIn 58 = .ok (.iload_n 3, 1) := by decide +kernel
theorem dX1_formIn_59 : decode cX1_formIn 59 = .ok (.ireturn, 1) := by decide +kernel
theorem dX1_isBorne_0 : decode cX1_isBorne 0 = .ok (.iconst 0, 1) := by decide +kernel
theorem dX1_isBorne_1 : decode cX1_isBorne 1 = .ok (.istore 4, 2) := by decide +kernel
theorem dX1_isBorne_3 : decode cX1_isBorne 3 = .ok (.iload 4, 2) := by decide +kernel
theorem dX1_isBorne_5 : decode cX1_isBorne 5 = .ok (.aload_n 0, 1) := by decide +kernel
theorem dX1_isBorne_6 : decode cX1_isBorne 6 = .ok (.getfield 9, 3) := by decide +kernel
theorem dX1_isBorne_9 : decode cX1_isBorne 9 = .ok (.if_icmp .ge 60, 3) := by decide +kernel
theorem dX1_isBorne_12 : decode cX1_isBorne 12 = .ok (.aload_n 0, 1) := by decide +kernel
theorem dX1_isBorne_13 : decode cX1_isBorne 13 = .ok (.iload 4, 2) := by decide +kernel
theorem dX1_isBorne_15 : decode cX1_isBorne 15 = .ok (.invokevirtual 61, 3) := by decide +kernel
theorem dX1_isBorne_18 : decode cX1_isBorne 18 = .ok (.ifCond .eq 45, 3) := by decide +kernel
theorem dX1_isBorne_21 : decode cX1_isBorne 21 = .ok (.aload_n 0, 1) := by decide +kernel
theorem dX1_isBorne_22 : decode cX1_isBorne 22 = .ok (.iload_n 1, 1) := by decide +kernel
theorem dX1_isBorne_23 : decode cX1_isBorne 23 = .ok (.iload 4, 2) := by decide +kernel
theorem dX1_isBorne_25 : decode cX1_isBorne 25 = .ok (.iload_n 3, 1) := by decide +kernel
theorem dX1_isBorne_26 : decode cX1_isBorne 26 = .ok (.iconst (-1), 1) := by decide +kernel
theorem dX1_isBorne_27 : decode cX1_isBorne 27 = .ok (.invokevirtual 86, 3) := by decide +kernel
theorem dX1_isBorne_30 : decode cX1_isBorne 30 = .ok (.istore 5, 2) := by decide +kernel
theorem dX1_isBorne_32 : decode cX1_isBorne 32 = .ok (.aload_n 0, 1) := by decide +kernel
theorem dX1_isBorne_33 : decode cX1_isBorne 33 = .ok (.getfield 34, 3) := by decide +kernel
theorem dX1_isBorne_36 : decode cX1_isBorne 36 = .ok (.aload_n 0, 1) := by decide +kernel
theorem dX1_isBorne_37 : decode cX1_isBorne 37 = .ok (.iload_n 1, 1) := by decide +kernel
theorem dX1_isBorne_38 : decode cX1_isBorne 38 = .ok (.iload_n 2, 1) := by decide +kernel
theorem dX1_isBorne_39 : decode cX1_isBorne 39 = .ok (.aload_n 0, 1) := by decide +kernel
theorem dX1_isBorne_40 : decode cX1_isBorne 40 = .ok (.getfield 34, 3) := by decide +kernel
theorem dX1_isBorne_43 : decode cX1_isBorne 43 = .ok (.iload 5, 2) := by decide +kernel
theorem dX1_isBorne_45 : decode cX1_isBorne 45 = .ok (.iaload, 1) := by decide +kernel
theorem dX1_isBorne_46 : decode cX1_isBorne 46 = .ok (.aload_n 0, 1) := by decide +kernel
theorem dX1_isBorne_47 : decode cX1_isBorne 47 = .ok (.getfield 37, 3) := by decide +kernel
theorem dX1_isBorne_50 : decode cX1_isBorne 50 = .ok (.iload 5, 2) := by decide +kernel
theorem dX1_isBorne_52 : decode cX1_isBorne 52 = .ok (.iaload, 1) := by decide +kernel
theorem dX1_isBorne_53 : decode cX1_isBorne 53 = .ok (.invokevirtual 86, 3) := by decide +kernel
theorem dX1_isBorne_56 : decode cX1_isBorne 56 = .ok (.iaload, 1) := by decide +kernel
theorem dX1_isBorne_57 : decode cX1_isBorne 57 = .ok (.iload_n 3, 1) := by decide +kernel
theorem dX1_isBorne_58 : decode cX1_isBorne 58 = .ok (.if_icmp .eq 5, 3) := by decide +kernel
theorem dX1_isBorne_61 : decode cX1_isBorne 61 = .ok (.iconst 0, 1) := by decide +kernel
theorem dX1_isBorne_62 : decode cX1_isBorne 62 = .ok (.ireturn, 1) := by decide +kernel
theorem dX1_isBorne_63 : decode cX1_isBorne 63 = .ok (.iinc 4 1, 3) := by decide +kernel
theorem dX1_isBorne_66 : decode cX1_isBorne 66 = .ok (.goto (-63), 3) := by decide +kernel
theorem dX1_isBorne_69 : decode cX1_isBorne 69 = .ok (.iconst 1, 1) := by decide +kernel
theorem dX1_isBorne_70 : decode cX1_isBorne 70 = .ok (.ireturn, 1) := by decide +kernel
theorem dX1_isToldApartBy_0 : decode cX1_isToldApartBy 0 = .ok (.iconst 0, 1) := by decide +kernel
theorem dX1_isToldApartBy_1 : decode cX1_isToldApartBy 1 = .ok (.istore_n 2, 1) := by decide +kernel
theorem dX1_isToldApartBy_2 : decode cX1_isToldApartBy 2 = .ok (.iload_n 2, 1) := by decide +kernel
theorem dX1_isToldApartBy_3 : decode cX1_isToldApartBy 3 = .ok (.bipush 48, 2) := by decide +kernel
theorem dX1_isToldApartBy_5 : decode cX1_isToldApartBy 5 = .ok (.if_icmp .ge 28, 3) := by decide +kernel
theorem dX1_isToldApartBy_8 : decode cX1_isToldApartBy 8 = .ok (.aload_n 0, 1) := by decide +kernel
theorem dX1_isToldApartBy_9 : decode cX1_isToldApartBy 9 = .ok (.iload_n 2, 1) := by decide +kernel
theorem dX1_isToldApartBy_10 : decode cX1_isToldApartBy 10 = .ok (.invokevirtual 96, 3) := by decide +kernel
theorem dX1_isToldApartBy_13 : decode cX1_isToldApartBy 13 = .ok (.ifCond .eq 14, 3) := by decide +kernel
theorem dX1_isToldApartBy_16 : decode cX1_isToldApartBy 16 = .ok (.aload_n 0, 1) := by decide +kernel
theorem dX1_isToldApartBy_17 : decode cX1_isToldApartBy 17 = .ok (.iload_n 2, 1) := by decide +kernel
theorem dX1_isToldApartBy_18 : decode cX1_isToldApartBy 18 = .ok (.iload_n 1, 1) := by decide +kernel
theorem dX1_isToldApartBy_19 : decode cX1_isToldApartBy 19 = .ok (.invokevirtual 99, 3) := by decide +kernel
theorem dX1_isToldApartBy_22 : decode cX1_isToldApartBy 22 = .ok (.ifCond .ne 5, 3) := by decide +kernel
theorem dX1_isToldApartBy_25 : decode cX1_isToldApartBy 25 = .ok (.iconst 0, 1) := by decide +kernel
theorem dX1_isToldApartBy_26 : decode cX1_isToldApartBy 26 = .ok (.ireturn, 1) := by decide +kernel
theorem dX1_isToldApartBy_27 : decode cX1_isToldApartBy 27 = .ok (.iinc 2 1, 3) := by decide +kernel
theorem dX1_isToldApartBy_30 : decode cX1_isToldApartBy 30 = .ok (.goto (-28), 3) := by decide +kernel
theorem dX1_isToldApartBy_33 : decode cX1_isToldApartBy 33 = .ok (.iconst 1, 1) := by decide +kernel
theorem dX1_isToldApartBy_34 : decode cX1_isToldApartBy 34 = .ok (.ireturn, 1) := by decide +kernel
theorem dX1_isToldFromThoseAhead_0 : decode cX1_isToldFromThoseAhead 0 = .ok (.iconst 0, 1) := by decide +kernel
theorem dX1_isToldFromThoseAhead_1 : decode cX1_isToldFromThoseAhead 1 = .ok (.istore_n 3, 1) := by decide +kernel
theorem dX1_isToldFromThoseAhead_2 : decode cX1_isToldFromThoseAhead 2 = .ok (.iload_n 3, 1) := by decide +kernel
theorem dX1_isToldFromThoseAhead_3 : decode cX1_isToldFromThoseAhead 3 = .ok (.iload_n 1, 1) := by decide +kernel
theorem dX1_isToldFromThoseAhead_4 : decode cX1_isToldFromThoseAhead 4 = .ok (.if_icmp .ge 46, 3) := by decide +kernel
theorem dX1_isToldFromThoseAhead_7 : decode cX1_isToldFromThoseAhead 7 = .ok (.aload_n 0, 1) := by decide +kernel
theorem dX1_isToldFromThoseAhead_8 : decode cX1_isToldFromThoseAhead 8 = .ok (.getfield 34, 3) := by decide +kernel
theorem dX1_isToldFromThoseAhead_11 : decode cX1_isToldFromThoseAhead 11 = .ok (.iload_n 1, 1) := by decide +kernel
theorem dX1_isToldFromThoseAhead_12 : decode cX1_isToldFromThoseAhead 12 = .ok (.iaload, 1) := by decide +kernel
theorem dX1_isToldFromThoseAhead_13 : decode cX1_isToldFromThoseAhead 13 = .ok (.aload_n 0, 1) := by decide +kernel
theorem dX1_isToldFromThoseAhead_14 : decode cX1_isToldFromThoseAhead 14 = .ok (.getfield 34, 3) := by decide +kernel
theorem dX1_isToldFromThoseAhead_17 : decode cX1_isToldFromThoseAhead 17 = .ok (.iload_n 3, 1) := by decide +kernel
theorem dX1_isToldFromThoseAhead_18 : decode cX1_isToldFromThoseAhead 18 = .ok (.iaload, 1) := by decide +kernel
theorem dX1_isToldFromThoseAhead_19 : decode cX1_isToldFromThoseAhead 19 = .ok (.ixor, 1) := by decide +kernel
theorem dX1_isToldFromThoseAhead_20 : decode cX1_isToldFromThoseAhead 20 = .ok (.istore 4, 2) := by decide +kernel
theorem dX1_isToldFromThoseAhead_22 : decode cX1_isToldFromThoseAhead 22 = .ok (.iload 4, 2) := by decide +kernel
theorem dX1_isToldFromThoseAhead_24 : decode cX1_isToldFromThoseAhead 24 = .ok (.ifCond .eq 20, 3) := by decide +kernel
theorem dX1_isToldFromThoseAhead_27 : decode cX1_isToldFromThoseAhead 27 = .ok (.iload 4, 2) := by decide +kernel
theorem dX1_isToldFromThoseAhead_29 : decode cX1_isToldFromThoseAhead 29 = .ok (.iload_n 2, 1) := by decide +kernel
theorem dX1_isToldFromThoseAhead_30 : decode cX1_isToldFromThoseAhead 30 = .ok (.iand, 1) := by decide +kernel
theorem dX1_isToldFromThoseAhead_31 : decode cX1_isToldFromThoseAhead 31 = .ok (.ifCond .ne 13, 3) := by decide +kernel
theorem dX1_isToldFromThoseAhead_34 : decode cX1_isToldFromThoseAhead 34 = .ok (.aload_n 0, 1) := by decide +kernel
theorem dX1_isToldFromThoseAhead_35 : decode cX1_isToldFromThoseAhead 35 = .ok (.iload_n 3, 1) := by decide +kernel
theorem dX1_isToldFromThoseAhead_36 : decode cX1_isToldFromThoseAhead 36 = .ok (.invokevirtual 96, 3) := by decide +kernel
theorem dX1_isToldFromThoseAhead_39 : decode cX1_isToldFromThoseAhead 39 = .ok (.ifCond .eq 5, 3) := by decide +kernel
theorem dX1_isToldFromThoseAhead_42 : decode cX1_isToldFromThoseAhead 42 = .ok (.iconst 0, 1) := by decide +kernel
theorem dX1_isToldFromThoseAhead_43 : decode cX1_isToldFromThoseAhead 43 = .ok (.ireturn, 1) := by decide +kernel
theorem dX1_isToldFromThoseAhead_44 : decode cX1_isToldFromThoseAhead 44 = .ok (.iinc 3 1, 3) := by decide +kernel
theorem dX1_isToldFromThoseAhead_47 : decode cX1_isToldFromThoseAhead 47 = .ok (.goto (-45), 3) := by decide +kernel
theorem dX1_isToldFromThoseAhead_50 : decode cX1_isToldFromThoseAhead 50 = .ok (.iconst 1, 1) := by decide +kernel
theorem dX1_isToldFromThoseAhead_51 : decode cX1_isToldFromThoseAhead 51 = .ok (.ireturn, 1) := by decide +kernel
theorem dX1_mixTongues_0 : decode cX1_mixTongues 0 = .ok (.lload_n 1, 1) := by decide +kernel
theorem dX1_mixTongues_1 : decode cX1_mixTongues 1 = .ok (.lstore_n 3, 1) := by decide +kernel
theorem dX1_mixTongues_2 : decode cX1_mixTongues 2 = .ok (.iconst 0, 1) := by decide +kernel
theorem dX1_mixTongues_3 : decode cX1_mixTongues 3 = .ok (.istore 5, 2) := by decide +kernel
theorem dX1_mixTongues_5 : decode cX1_mixTongues 5 = .ok (.iload 5, 2) := by decide +kernel
theorem dX1_mixTongues_7 : decode cX1_mixTongues 7 = .ok (.aload_n 0, 1) := by decide +kernel
theorem dX1_mixTongues_8 : decode cX1_mixTongues 8 = .ok (.getfield 9, 3) := by decide +kernel
theorem dX1_mixTongues_11 : decode cX1_mixTongues 11 = .ok (.if_icmp .ge 110, 3) := by decide +kernel
theorem dX1_mixTongues_14 : decode cX1_mixTongues 14 = .ok (.lload_n 3, 1) := by decide +kernel
theorem dX1_mixTongues_15 : decode cX1_mixTongues 15 = .ok (.aload_n 0, 1) := by decide +kernel
theorem dX1_mixTongues_16 : decode cX1_mixTongues 16 = .ok (.getfield 21, 3) := by decide +kernel
theorem dX1_mixTongues_19 : decode cX1_mixTongues 19 = .ok (.iload 5, 2) := by decide +kernel
theorem dX1_mixTongues_21 : decode cX1_mixTongues 21 = .ok (.iaload, 1) := by decide +kernel
theorem dX1_mixTongues_22 : decode cX1_mixTongues 22 = .ok (.i2l, 1) := by decide +kernel
theorem dX1_mixTongues_23 : decode cX1_mixTongues 23 = .ok (.invokestatic 102, 3) := by decide +kernel
theorem dX1_mixTongues_26 : decode cX1_mixTongues 26 = .ok (.aload_n 0, 1) := by decide +kernel
theorem dX1_mixTongues_27 : decode cX1_mixTongues 27 = .ok (.getfield 25, 3) := by decide +kernel
theorem dX1_mixTongues_30 : decode cX1_mixTongues 30 = .ok (.iload 5, 2) := by decide +kernel
theorem dX1_mixTongues_32 : decode cX1_mixTongues 32 = .ok (.iaload, 1) := by decide +kernel
theorem dX1_mixTongues_33 : decode cX1_mixTongues 33 = .ok (.i2l, 1) := by decide +kernel
theorem dX1_mixTongues_34 : decode cX1_mixTongues 34 = .ok (.invokestatic 102, 3) := by decide +kernel
theorem dX1_mixTongues_37 : decode cX1_mixTongues 37 = .ok (.aload_n 0, 1) := by decide +kernel
theorem dX1_mixTongues_38 : decode cX1_mixTongues 38 = .ok (.getfield 28, 3) := by decide +kernel
theorem dX1_mixTongues_41 : decode cX1_mixTongues 41 = .ok (.iload 5, 2) := by decide +kernel
theorem dX1_mixTongues_43 : decode cX1_mixTongues 43 = .ok (.iaload, 1) := by decide +kernel
theorem dX1_mixTongues_44 : decode cX1_mixTongues 44 = .ok (.i2l, 1) := by decide +kernel
theorem dX1_mixTongues_45 : decode cX1_mixTongues 45 = .ok (.invokestatic 102, 3) := by decide +kernel
theorem dX1_mixTongues_48 : decode cX1_mixTongues 48 = .ok (.lstore_n 3, 1) := by decide +kernel
theorem dX1_mixTongues_49 : decode cX1_mixTongues 49 = .ok (.iload 5, 2) := by decide +kernel
theorem dX1_mixTongues_51 : decode cX1_mixTongues 51 = .ok (.bipush 8, 2) := by decide +kernel
theorem dX1_mixTongues_53 : decode cX1_mixTongues 53 = .ok (.imul, 1) := by decide +kernel
theorem dX1_mixTongues_54 : decode cX1_mixTongues 54 = .ok (.istore 6, 2) := by decide +kernel
theorem dX1_mixTongues_56 : decode cX1_mixTongues 56 = .ok (.iload 6, 2) := by decide +kernel
theorem dX1_mixTongues_58 : decode cX1_mixTongues 58 = .ok (.iload 5, 2) := by decide +kernel
theorem dX1_mixTongues_60 : decode cX1_mixTongues 60 = .ok (.bipush 8, 2) := by decide +kernel
theorem dX1_mixTongues_62 : decode cX1_mixTongues 62 = .ok (.imul, 1) := by decide +kernel
theorem dX1_mixTongues_63 : decode cX1_mixTongues 63 = .ok (.aload_n 0, 1) := by decide +kernel
theorem dX1_mixTongues_64 : decode cX1_mixTongues 64 = .ok (.getfield 31, 3) := by decide +kernel
theorem dX1_mixTongues_67 : decode cX1_mixTongues 67 = .ok (.iload 5, 2) := by decide +kernel
theorem dX1_mixTongues_69 : decode cX1_mixTongues 69 = .ok (.iaload, 1) := by decide +kernel
theorem dX1_mixTongues_70 : decode cX1_mixTongues 70 = .ok (.iadd, 1) := by decide +kernel
theorem dX1_mixTongues_71 : decode cX1_mixTongues 71 = .ok (.if_icmp .ge 44, 3) := by decide +kernel
theorem dX1_mixTongues_74 : decode cX1_mixTongues 74 = .ok (.lload_n 3, 1) := by decide +kernel
theorem dX1_mixTongues_75 : decode cX1_mixTongues 75 = .ok (.aload_n 0, 1) := by decide +kernel
theorem dX1_mixTongues_76 : decode cX1_mixTongues 76 = .ok (.getfield 34, 3) := by decide +kernel
theorem dX1_mixTongues_79 : decode cX1_mixTongues 79 = .ok (.iload 6, 2) := by decide +kernel
theorem dX1_mixTongues_81 : decode cX1_mixTongues 81 = .ok (.iaload, 1) := by decide +kernel
theorem dX1_mixTongues_82 : decode cX1_mixTongues 82 = .ok (.i2l, 1) := by decide +kernel
theorem dX1_mixTongues_83 : decode cX1_mixTongues 83 = .ok (.invokestatic 102, 3) := by decide +kernel
theorem dX1_mixTongues_86 : decode cX1_mixTongues 86 = .ok (.aload_n 0, 1) := by decide +kernel
theorem dX1_mixTongues_87 : decode cX1_mixTongues 87 = .ok (.getfield 37, 3) := by decide +kernel
theorem dX1_mixTongues_90 : decode cX1_mixTongues 90 = .ok (.iload 6, 2) := by decide +kernel
theorem dX1_mixTongues_92 : decode cX1_mixTongues 92 = .ok (.iaload, 1) := by decide +kernel
theorem dX1_mixTongues_93 : decode cX1_mixTongues 93 = .ok (.i2l, 1) := by decide +kernel
theorem dX1_mixTongues_94 : decode cX1_mixTongues 94 = .ok (.invokestatic 102, 3) := by decide +kernel
theorem dX1_mixTongues_97 : decode cX1_mixTongues 97 = .ok (.aload_n 0, 1) := by decide +kernel
theorem dX1_mixTongues_98 : decode cX1_mixTongues 98 = .ok (.getfield 40, 3) := by decide +kernel
theorem dX1_mixTongues_101 : decode cX1_mixTongues 101 = .ok (.iload 6, 2) := by decide +kernel
theorem dX1_mixTongues_103 : decode cX1_mixTongues 103 = .ok (.iaload, 1) := by decide +kernel
theorem dX1_mixTongues_104 : decode cX1_mixTongues 104 = .ok (.i2l, 1) := by decide +kernel
theorem dX1_mixTongues_105 : decode cX1_mixTongues 105 = .ok (.invokestatic 102, 3) := by decide +kernel
theorem dX1_mixTongues_108 : decode cX1_mixTongues 108 = .ok (.lstore_n 3, 1) := by decide +kernel
theorem dX1_mixTongues_109 : decode cX1_mixTongues 109 = .ok (.iinc 6 1, 3) := by decide +kernel
theorem dX1_mixTongues_112 : decode cX1_mixTongues 112 = .ok (.goto (-56), 3) := by decide +kernel
theorem dX1_mixTongues_115 : decode cX1_mixTongues 115 = .ok (.iinc 5 1, 3) := by decide +kernel
theorem dX1_mixTongues_118 : decode cX1_mixTongues 118 = .ok (.goto (-113), 3) := by decide +kernel
theorem dX1_mixTongues_121 : decode cX1_mixTongues 121 = .ok (.lload_n 3, 1) := by decide +kernel
theorem dX1_mixTongues_122 : decode cX1_mixTongues 122 = .ok (.aload_n 0, 1) := by decide +kernel
theorem dX1_mixTongues_123 : decode cX1_mixTongues 123 = .ok (.getfield 15, 3) := by decide +kernel
theorem dX1_mixTongues_126 : decode cX1_mixTongues 126 = .ok (.i2l, 1) := by decide +kernel
theorem dX1_mixTongues_127 : decode cX1_mixTongues 127 = .ok (.invokestatic 102, 3) := by decide +kernel
theorem dX1_mixTongues_130 : decode cX1_mixTongues 130 = .ok (.aload_n 0, 1) := by decide +kernel
theorem dX1_mixTongues_131 : decode cX1_mixTongues 131 = .ok (.getfield 18, 3) := by decide +kernel
theorem dX1_mixTongues_134 : decode cX1_mixTongues 134 = .ok (.i2l, 1) := by decide +kernel
theorem dX1_mixTongues_135 : decode cX1_mixTongues 135 = .ok (.invokestatic 102, 3) := by decide +kernel
theorem dX1_mixTongues_138 : decode cX1_mixTongues 138 = .ok (.lreturn, 1) := by decide +kernel
theorem dX2_init_0 : decode cX2_init 0 = .ok (.aload_n 0, 1) := by decide +kernel
theorem dX2_init_1 : decode cX2_init 1 = .ok (.invokespecial 3, 3) := by decide +kernel
theorem dX2_init_4 : decode cX2_init 4 = .ok (.aload_n 0, 1) := by decide +kernel
theorem dX2_init_5 : decode cX2_init 5 = .ok (.iconst 0, 1) := by decide +kernel
theorem dX2_init_6 : decode cX2_init 6 = .ok (.putfield 9, 3) := by decide +kernel
theorem dX2_init_9 : decode cX2_init 9 = .ok (.aload_n 0, 1) := by decide +kernel
theorem dX2_init_10 : decode cX2_init 10 = .ok (.bipush 24, 2) := by decide +kernel
theorem dX2_init_12 : decode cX2_init 12 = .ok (.newarray .int, 2) := by decide +kernel
theorem dX2_init_14 : decode cX2_init 14 = .ok (.putfield 15, 3) := by decide +kernel
theorem dX2_init_17 : decode cX2_init 17 = .ok (.aload_n 0, 1) := by decide +kernel
theorem dX2_init_18 : decode cX2_init 18 = .ok (.bipush 24, 2) := by decide +kernel
theorem dX2_init_20 : decode cX2_init 20 = .ok (.newarray .int, 2) := by decide +kernel
theorem dX2_init_22 : decode cX2_init 22 = .ok (.putfield 19, 3) := by decide +kernel
theorem dX2_init_25 : decode cX2_init 25 = .ok (.return_, 1) := by decide +kernel
theorem dX2_copyFrom_0 : decode cX2_copyFrom 0 = .ok (.aload_n 0, 1) := by decide +kernel
theorem dX2_copyFrom_1 : decode cX2_copyFrom 1 = .ok (.aload_n 1, 1) := by decide +kernel
theorem dX2_copyFrom_2 : decode cX2_copyFrom 2 = .ok (.getfield 9, 3) := by decide +kernel
theorem dX2_copyFrom_5 : decode cX2_copyFrom 5 = .ok (.putfield 9, 3) := by decide +kernel
theorem dX2_copyFrom_8 : decode cX2_copyFrom 8 = .ok (.aload_n 1, 1) := by decide +kernel
theorem dX2_copyFrom_9 : decode cX2_copyFrom 9 = .ok (.getfield 15, 3) := by decide +kernel
theorem dX2_copyFrom_12 : decode cX2_copyFrom 12 = .ok (.iconst 0, 1) := by decide +kernel
theorem dX2_copyFrom_13 : decode cX2_copyFrom 13 = .ok (.aload_n 0, 1) := by decide +kernel
theorem dX2_copyFrom_14 : decode cX2_copyFrom 14 = .ok (.getfield 15, 3) := by decide +kernel
theorem dX2_copyFrom_17 : decode cX2_copyFrom 17 = .ok (.iconst 0, 1) := by decide +kernel
theorem dX2_copyFrom_18 : decode cX2_copyFrom 18 = .ok (.bipush 24, 2) := by decide +kernel
theorem dX2_copyFrom_20 : decode cX2_copyFrom 20 = .ok (.invokestatic 22, 3) := by decide +kernel
theorem dX2_copyFrom_23 : decode cX2_copyFrom 23 = .ok (.aload_n 1, 1) := by decide +kernel
theorem dX2_copyFrom_24 : decode cX2_copyFrom 24 = .ok (.getfield 19, 3) := by decide +kernel
theorem dX2_copyFrom_27 : decode cX2_copyFrom 27 = .ok (.iconst 0, 1) := by decide +kernel
theorem dX2_copyFrom_28 : decode cX2_copyFrom 28 = .ok (.aload_n 0, 1) := by decide +kernel
theorem dX2_copyFrom_29 : decode cX2_copyFrom 29 = .ok (.getfield 19, 3) := by decide +kernel
theorem dX2_copyFrom_32 : decode cX2_copyFrom 32 = .ok (.iconst 0, 1) := by decide +kernel
theorem dX2_copyFrom_33 : decode cX2_copyFrom 33 = .ok (.bipush 24, 2) := by decide +kernel
theorem dX2_copyFrom_35 : decode cX2_copyFrom 35 = .ok (.invokestatic 22, 3) := by decide +kernel
theorem dX2_copyFrom_38 : decode cX2_copyFrom 38 = .ok (.return_, 1) := by decide +kernel
theorem dX2_has_0 : decode cX2_has 0 = .ok (.iconst 0, 1) := by decide +kernel
theorem dX2_has_1 : decode cX2_has 1 = .ok (.istore_n 3, 1) := by decide +kernel
theorem dX2_has_2 : decode cX2_has 2 = .ok (.iload_n 3, 1) := by decide +kernel
theorem dX2_has_3 : decode cX2_has 3 = .ok (.aload_n 0, 1) := by decide +kernel
theorem dX2_has_4 : decode cX2_has 4 = .ok (.getfield 9, 3) := by decide +kernel
theorem dX2_has_7 : decode cX2_has 7 = .ok (.if_icmp .ge 21, 3) := by decide +kernel
theorem dX2_has_10 : decode cX2_has 10 = .ok (.aload_n 0, 1) := by decide +kernel
theorem dX2_has_11 : decode cX2_has 11 = .ok (.iload_n 3, 1) := by decide +kernel
theorem dX2_has_12 : decode cX2_has 12 = .ok (.iload_n 1, 1) := by decide +kernel
theorem dX2_has_13 : decode cX2_has 13 = .ok (.invokevirtual 28, 3) := by decide +kernel
theorem dX2_has_16 : decode cX2_has 16 = .ok (.iload_n 2, 1) := by decide +kernel
theorem dX2_has_17 : decode cX2_has 17 = .ok (.if_icmp .ne 5, 3) := by decide +kernel
theorem dX2_has_20 : decode cX2_has 20 = .ok (.iconst 1, 1) := by decide +kernel
theorem dX2_has_21 : decode cX2_has 21 = .ok (.ireturn, 1) := by decide +kernel
theorem dX2_has_22 : decode cX2_has 22 = .ok (.iinc 3 1, 3) := by decide +kernel
theorem dX2_has_25 : decode cX2_has 25 = .ok (.goto (-23), 3) := by decide +kernel
theorem dX2_has_28 : decode cX2_has 28 = .ok (.iconst 0, 1) := by decide +kernel
theorem dX2_has_29 : decode cX2_has 29 = .ok (.ireturn, 1) := by decide +kernel
theorem dX2_add_0 : decode cX2_add 0 = .ok (.aload_n 0, 1) := by decide +kernel
theorem dX2_add_1 : decode cX2_add 1 = .ok (.getfield 15, 3) := by decide +kernel
theorem dX2_add_4 : decode cX2_add 4 = .ok (.aload_n 0, 1) := by decide +kernel
theorem dX2_add_5 : decode cX2_add 5 = .ok (.getfield 9, 3) := by decide +kernel
theorem dX2_add_8 : decode cX2_add 8 = .ok (.iload_n 1, 1) := by decide +kernel
theorem dX2_add_9 : decode cX2_add 9 = .ok (.iastore, 1) := by decide +kernel
theorem dX2_add_10 : decode cX2_add 10 = .ok (.aload_n 0, 1) := by decide +kernel
theorem dX2_add_11 : decode cX2_add 11 = .ok (.getfield 19, 3) := by decide +kernel
theorem dX2_add_14 : decode cX2_add 14 = .ok (.aload_n 0, 1) := by decide +kernel
theorem dX2_add_15 : decode cX2_add 15 = .ok (.getfield 9, 3) := by decide +kernel
theorem dX2_add_18 : decode cX2_add 18 = .ok (.iload_n 2, 1) := by decide +kernel
theorem dX2_add_19 : decode cX2_add 19 = .ok (.iastore, 1) := by decide +kernel
theorem dX2_add_20 : decode cX2_add 20 = .ok (.aload_n 0, 1) := by decide +kernel
theorem dX2_add_21 : decode cX2_add 21 = .ok (.dup, 1) := by decide +kernel
theorem dX2_add_22 : decode cX2_add 22 = .ok (.getfield 9, 3) := by decide +kernel
theorem dX2_add_25 : decode cX2_add 25 = .ok (.iconst 1, 1) := by decide +kernel
theorem dX2_add_26 : decode cX2_add 26 = .ok (.iadd, 1) := by decide +kernel
theorem dX2_add_27 : decode cX2_add 27 = .ok (.putfield 9, 3) := by decide +kernel
theorem dX2_add_30 : decode cX2_add 30 = .ok (.aload_n 0, 1) := by decide +kernel
theorem dX2_add_31 : decode cX2_add 31 = .ok (.getfield 9, 3) := by decide +kernel
theorem dX2_add_34 : decode cX2_add 34 = .ok (.iconst 1, 1) := by decide +kernel
theorem dX2_add_35 : decode cX2_add 35 = .ok (.isub, 1) := by decide +kernel
theorem dX2_add_36 : decode cX2_add 36 = .ok (.ireturn, 1) := by decide +kernel
theorem dX2_behind_0 : decode cX2_behind 0 = .ok (.aload_n 0, 1) := by decide +kernel
theorem dX2_behind_1 : decode cX2_behind 1 = .ok (.getfield 15, 3) := by decide +kernel
theorem dX2_behind_4 : decode cX2_behind 4 = .ok (.iload_n 1, 1) := by decide +kernel
theorem dX2_behind_5 : decode cX2_behind 5 = .ok (.iaload, 1) := by decide +kernel
theorem dX2_behind_6 : decode cX2_behind 6 = .ok (.iload_n 2, 1) := by decide +kernel
theorem dX2_behind_7 : decode cX2_behind 7 = .ok (.if_icmp .ne 10, 3) := by decide +kernel
theorem dX2_behind_10 : decode cX2_behind 10 = .ok (.aload_n 0, 1) := by decide +kernel
theorem dX2_behind_11 : decode cX2_behind 11 = .ok (.getfield 19, 3) := by decide +kernel
theorem dX2_behind_14 : decode cX2_behind 14 = .ok (.iload_n 1, 1) := by decide +kernel
theorem dX2_behind_15 : decode cX2_behind 15 = .ok (.iaload, 1) := by decide +kernel
theorem dX2_behind_16 : decode cX2_behind 16 = .ok (.ireturn, 1) := by decide +kernel
theorem dX2_behind_17 : decode cX2_behind 17 = .ok (.aload_n 0, 1) := by decide +kernel
theorem dX2_behind_18 : decode cX2_behind 18 = .ok (.getfield 19, 3) := by decide +kernel
theorem dX2_behind_21 : decode cX2_behind 21 = .ok (.iload_n 1, 1) := by decide +kernel
theorem dX2_behind_22 : decode cX2_behind 22 = .ok (.iaload, 1) := by decide +kernel
theorem dX2_behind_23 : decode cX2_behind 23 = .ok (.iload_n 2, 1) := by decide +kernel
theorem dX2_behind_24 : decode cX2_behind 24 = .ok (.if_icmp .ne 12, 3) := by decide +kernel
theorem dX2_behind_27 : decode cX2_behind 27 = .ok (.aload_n 0, 1) := by decide +kernel
theorem dX2_behind_28 : decode cX2_behind 28 = .ok (.getfield 15, 3) := by decide +kernel
theorem dX2_behind_31 : decode cX2_behind 31 = .ok (.iload_n 1, 1) := by decide +kernel
theorem dX2_behind_32 : decode cX2_behind 32 = .ok (.iaload, 1) := by decide +kernel
theorem dX2_behind_33 : decode cX2_behind 33 = .ok (.goto 4, 3) := by decide +kernel
theorem dX2_behind_36 : decode cX2_behind 36 = .ok (.iconst (-1), 1) := by decide +kernel
theorem dX2_behind_37 : decode cX2_behind 37 = .ok (.ireturn, 1) := by decide +kernel
theorem dX2_mixPairs_0 : decode cX2_mixPairs 0 = .ok (.lload_n 1, 1) := by decide +kernel
theorem dX2_mixPairs_1 : decode cX2_mixPairs 1 = .ok (.lstore_n 3, 1) := by decide +kernel
theorem dX2_mixPairs_2 : decode cX2_mixPairs 2 = .ok (.iconst 0, 1) := by decide +kernel
theorem dX2_mixPairs_3 : decode cX2_mixPairs 3 = .ok (.istore 5, 2) := by decide +kernel
theorem dX2_mixPairs_5 : decode cX2_mixPairs 5 = .ok (.iload 5, 2) := by decide +kernel
theorem dX2_mixPairs_7 : decode cX2_mixPairs 7 = .ok (.aload_n 0, 1) := by decide +kernel
theorem dX2_mixPairs_8 : decode cX2_mixPairs 8 = .ok (.getfield 9, 3) := by decide +kernel
theorem dX2_mixPairs_11 : decode cX2_mixPairs 11 = .ok (.if_icmp .ge 69, 3) := by decide +kernel
theorem dX2_mixPairs_14 : decode cX2_mixPairs 14 = .ok (.lload_n 3, 1) := by decide +kernel
theorem dX2_mixPairs_15 : decode cX2_mixPairs 15 = .ok (.aload_n 0, 1) := by decide +kernel
theorem dX2_mixPairs_16 : decode cX2_mixPairs 16 = .ok (.getfield 15, 3) := by decide +kernel
theorem dX2_mixPairs_19 : decode cX2_mixPairs 19 = .ok (.iload 5, 2) := by decide +kernel
theorem dX2_mixPairs_21 : decode cX2_mixPairs 21 = .ok (.iaload, 1) := by decide +kernel
theorem dX2_mixPairs_22 : decode cX2_mixPairs 22 = .ok (.bipush 8, 2) := by decide +kernel
theorem dX2_mixPairs_24 : decode cX2_mixPairs 24 = .ok (.idiv, 1) := by decide +kernel
theorem dX2_mixPairs_25 : decode cX2_mixPairs 25 = .ok (.i2l, 1) := by decide +kernel
theorem dX2_mixPairs_26 : decode cX2_mixPairs 26 = .ok (.invokestatic 32, 3) := by decide +kernel
theorem dX2_mixPairs_29 : decode cX2_mixPairs 29 = .ok (.aload_n 0, 1) := by decide +kernel
theorem dX2_mixPairs_30 : decode cX2_mixPairs 30 = .ok (.getfield 15, 3) := by decide +kernel
theorem dX2_mixPairs_33 : decode cX2_mixPairs 33 = .ok (.iload 5, 2) := by decide +kernel
theorem dX2_mixPairs_35 : decode cX2_mixPairs 35 = .ok (.iaload, 1) := by decide +kernel
theorem dX2_mixPairs_36 : decode cX2_mixPairs 36 = .ok (.bipush 8, 2) := by decide +kernel
theorem dX2_mixPairs_38 : decode cX2_mixPairs 38 = .ok (.irem, 1) := by decide +kernel
theorem dX2_mixPairs_39 : decode cX2_mixPairs 39 = .ok (.i2l, 1) := by decide +kernel
theorem dX2_mixPairs_40 : decode cX2_mixPairs 40 = .ok (.invokestatic 32, 3) := by decide +kernel
theorem dX2_mixPairs_43 : decode cX2_mixPairs 43 = .ok (.lstore_n 3, 1) := by decide +kernel
theorem dX2_mixPairs_44 : decode cX2_mixPairs 44 = .ok (.lload_n 3, 1) := by decide +kernel
theorem dX2_mixPairs_45 : decode cX2_mixPairs 45 = .ok (.aload_n 0, 1) := by decide +kernel
theorem dX2_mixPairs_46 : decode cX2_mixPairs 46 = .ok (.getfield 19, 3) := by decide +kernel
theorem dX2_mixPairs_49 : decode cX2_mixPairs 49 = .ok (.iload 5, 2) := by decide +kernel
theorem dX2_mixPairs_51 : decode cX2_mixPairs 51 = .ok (.iaload, 1) := by decide +kernel
theorem dX2_mixPairs_52 : decode cX2_mixPairs 52 = .ok (.bipush 8, 2) := by decide +kernel
theorem dX2_mixPairs_54 : decode cX2_mixPairs 54 = .ok (.idiv, 1) := by decide +kernel
theorem dX2_mixPairs_55 : decode cX2_mixPairs 55 = .ok (.i2l, 1) := by decide +kernel
theorem dX2_mixPairs_56 : decode cX2_mixPairs 56 = .ok (.invokestatic 32, 3) := by decide +kernel
theorem dX2_mixPairs_59 : decode cX2_mixPairs 59 = .ok (.aload_n 0, 1) := by decide +kernel
theorem dX2_mixPairs_60 : decode cX2_mixPairs 60 = .ok (.getfield 19, 3) := by decide +kernel
theorem dX2_mixPairs_63 : decode cX2_mixPairs 63 = .ok (.iload 5, 2) := by decide +kernel
theorem dX2_mixPairs_65 : decode cX2_mixPairs 65 = .ok (.iaload, 1) := by decide +kernel
theorem dX2_mixPairs_66 : decode cX2_mixPairs 66 = .ok (.bipush 8, 2) := by decide +kernel
theorem dX2_mixPairs_68 : decode cX2_mixPairs 68 = .ok (.irem, 1) := by decide +kernel
theorem dX2_mixPairs_69 : decode cX2_mixPairs 69 = .ok (.i2l, 1) := by decide +kernel
theorem dX2_mixPairs_70 : decode cX2_mixPairs 70 = .ok (.invokestatic 32, 3) := by decide +kernel
theorem dX2_mixPairs_73 : decode cX2_mixPairs 73 = .ok (.lstore_n 3, 1) := by decide +kernel
theorem dX2_mixPairs_74 : decode cX2_mixPairs 74 = .ok (.iinc 5 1, 3) := by decide +kernel
theorem dX2_mixPairs_77 : decode cX2_mixPairs 77 = .ok (.goto (-72), 3) := by decide +kernel
theorem dX2_mixPairs_80 : decode cX2_mixPairs 80 = .ok (.lload_n 3, 1) := by decide +kernel
theorem dX2_mixPairs_81 : decode cX2_mixPairs 81 = .ok (.lreturn, 1) := by decide +kernel
theorem dX3_init_0 : decode cX3_init 0 = .ok (.aload_n 0, 1) := by decide +kernel
theorem dX3_init_1 : decode cX3_init 1 = .ok (.invokespecial 3, 3) := by decide +kernel
theorem dX3_init_4 : decode cX3_init 4 = .ok (.aload_n 0, 1) := by decide +kernel
theorem dX3_init_5 : decode cX3_init 5 = .ok (.iconst 0, 1) := by decide +kernel
theorem dX3_init_6 : decode cX3_init 6 = .ok (.putfield 9, 3) := by decide +kernel
theorem dX3_init_9 : decode cX3_init 9 = .ok (.aload_n 0, 1) := by decide +kernel
theorem dX3_init_10 : decode cX3_init 10 = .ok (.bipush 60, 2) := by decide +kernel
theorem dX3_init_12 : decode cX3_init 12 = .ok (.newarray .int, 2) := by decide +kernel
theorem dX3_init_14 : decode cX3_init 14 = .ok (.putfield 15, 3) := by decide +kernel
theorem dX3_init_17 : decode cX3_init 17 = .ok (.return_, 1) := by decide +kernel
theorem dX3_copyFrom_0 : decode cX3_copyFrom 0 = .ok (.aload_n 0, 1) := by decide +kernel
theorem dX3_copyFrom_1 : decode cX3_copyFrom 1 = .ok (.aload_n 1, 1) := by decide +kernel
theorem dX3_copyFrom_2 : decode cX3_copyFrom 2 = .ok (.getfield 9, 3) := by decide +kernel
theorem dX3_copyFrom_5 : decode cX3_copyFrom 5 = .ok (.putfield 9, 3) := by decide +kernel
theorem dX3_copyFrom_8 : decode cX3_copyFrom 8 = .ok (.aload_n 1, 1) := by decide +kernel
theorem dX3_copyFrom_9 : decode cX3_copyFrom 9 = .ok (.getfield 15, 3) := by decide +kernel
theorem dX3_copyFrom_12 : decode cX3_copyFrom 12 = .ok (.iconst 0, 1) := by decide +kernel
theorem dX3_copyFrom_13 : decode cX3_copyFrom 13 = .ok (.aload_n 0, 1) := by decide +kernel
theorem dX3_copyFrom_14 : decode cX3_copyFrom 14 = .ok (.getfield 15, 3) := by decide +kernel
theorem dX3_copyFrom_17 : decode cX3_copyFrom 17 = .ok (.iconst 0, 1) := by decide +kernel
theorem dX3_copyFrom_18 : decode cX3_copyFrom 18 = .ok (.bipush 60, 2) := by decide +kernel
theorem dX3_copyFrom_20 : decode cX3_copyFrom 20 = .ok (.invokestatic 19, 3) := by decide +kernel
theorem dX3_copyFrom_23 : decode cX3_copyFrom 23 = .ok (.return_, 1) := by decide +kernel
theorem dX3_add_0 : decode cX3_add 0 = .ok (.iload_n 3, 1) := by decide +kernel
theorem dX3_add_1 : decode cX3_add 1 = .ok (.iconst 1, 1) := by decide +kernel
theorem dX3_add_2 : decode cX3_add 2 = .ok (.isub, 1) := by decide +kernel
theorem dX3_add_3 : decode cX3_add 3 = .ok (.istore 4, 2) := by decide +kernel
theorem dX3_add_5 : decode cX3_add 5 = .ok (.iload 4, 2) := by decide +kernel
theorem dX3_add_7 : decode cX3_add 7 = .ok (.ifCond .lt 49, 3) := by decide +kernel
theorem dX3_add_10 : decode cX3_add 10 = .ok (.aload_n 0, 1) := by decide +kernel
theorem dX3_add_11 : decode cX3_add 11 = .ok (.getfield 9, 3) := by decide +kernel
theorem dX3_add_14 : decode cX3_add 14 = .ok (.bipush 60, 2) := by decide +kernel
theorem dX3_add_16 : decode cX3_add 16 = .ok (.if_icmp .ge 40, 3) := by decide +kernel
theorem dX3_add_19 : decode cX3_add 19 = .ok (.aload_n 0, 1) := by decide +kernel
theorem dX3_add_20 : decode cX3_add 20 = .ok (.getfield 15, 3) := by decide +kernel
theorem dX3_add_23 : decode cX3_add 23 = .ok (.aload_n 0, 1) := by decide +kernel
theorem dX3_add_24 : decode cX3_add 24 = .ok (.getfield 9, 3) := by decide +kernel
theorem dX3_add_27 : decode cX3_add 27 = .ok (.lload_n 1, 1) := by decide +kernel
theorem dX3_add_28 : decode cX3_add 28 = .ok (.bipush 8, 2) := by decide +kernel
theorem dX3_add_30 : decode cX3_add 30 = .ok (.iload 4, 2) := by decide +kernel
theorem dX3_add_32 : decode cX3_add 32 = .ok (.imul, 1) := by decide +kernel
theorem dX3_add_33 : decode cX3_add 33 = .ok (.lushr, 1) := by decide +kernel
theorem dX3_add_34 : decode cX3_add 34 = .ok (.ldc2_w 25, 3) := by decide +kernel
theorem dX3_add_37 : decode cX3_add 37 = .ok (.land, 1) := by decide +kernel
theorem dX3_add_38 : decode cX3_add 38 = .ok (.l2i, 1) := by decide +kernel
theorem dX3_add_39 : decode cX3_add 39 = .ok (.iastore, 1) := by decide +kernel
theorem dX3_add_40 : decode cX3_add 40 = .ok (.aload_n 0, 1) := by decide +kernel
theorem dX3_add_41 : decode cX3_add 41 = .ok (.dup, 1) := by decide +kernel
theorem dX3_add_42 : decode cX3_add 42 = .ok (.getfield 9, 3) := by decide +kernel
theorem dX3_add_45 : decode cX3_add 45 = .ok (.iconst 1, 1) := by decide +kernel
theorem dX3_add_46 : decode cX3_add 46 = .ok (.iadd, 1) := by decide +kernel
theorem dX3_add_47 : decode cX3_add 47 = .ok (.putfield 9, 3) := by decide +kernel
theorem dX3_add_50 : decode cX3_add 50 = .ok (.iinc 4 (-1), 3) := by decide +kernel
theorem dX3_add_53 : decode cX3_add 53 = .ok (.goto (-48), 3) := by decide +kernel
theorem dX3_add_56 : decode cX3_add 56 = .ok (.return_, 1) := by decide +kernel
theorem dX4_init_0 : decode cX4_init 0 = .ok (.aload_n 0, 1) := by decide +kernel
theorem dX4_init_1 : decode cX4_init 1 = .ok (.invokespecial 3, 3) := by decide +kernel
theorem dX4_init_4 : decode cX4_init 4 = .ok (.aload_n 0, 1) := by decide +kernel
theorem dX4_init_5 : decode cX4_init 5 = .ok (.iconst 0, 1) := by decide +kernel
theorem dX4_init_6 : decode cX4_init 6 = .ok (.putfield 9, 3) := by decide +kernel
theorem dX4_init_9 : decode cX4_init 9 = .ok (.aload_n 0, 1) := by decide +kernel
theorem dX4_init_10 : decode cX4_init 10 = .ok (.iconst 0, 1) := by decide +kernel
theorem dX4_init_11 : decode cX4_init 11 = .ok (.putfield 15, 3) := by decide +kernel
theorem dX4_init_14 : decode cX4_init 14 = .ok (.aload_n 0, 1) := by decide +kernel
theorem dX4_init_15 : decode cX4_init 15 = .ok (.bipush 24, 2) := by decide +kernel
theorem dX4_init_17 : decode cX4_init 17 = .ok (.newarray .int, 2) := by decide +kernel
theorem dX4_init_19 : decode cX4_init 19 = .ok (.putfield 18, 3) := by decide +kernel
theorem dX4_init_22 : decode cX4_init 22 = .ok (.aload_n 0, 1) := by decide +kernel
theorem dX4_init_23 : decode cX4_init 23 = .ok (.bipush 24, 2) := by decide +kernel
theorem dX4_init_25 : decode cX4_init 25 = .ok (.newarray .int, 2) := by decide +kernel
theorem dX4_init_27 : decode cX4_init 27 = .ok (.putfield 22, 3) := by decide +kernel
theorem dX4_init_30 : decode cX4_init 30 = .ok (.aload_n 0, 1) := by decide +kernel
theorem dX4_init_31 : decode cX4_init 31 = .ok (.bipush 48, 2) := by decide +kernel
theorem dX4_init_33 : decode cX4_init 33 = .ok (.newarray .int, 2) := by decide +kernel
theorem dX4_init_35 : decode cX4_init 35 = .ok (.putfield 25, 3) := by decide +kernel
theorem dX4_init_38 : decode cX4_init 38 = .ok (.return_, 1) := by decide +kernel
theorem dX4_find_0 : decode cX4_find 0 = .ok (.aload_n 0, 1) := by decide +kernel
theorem dX4_find_1 : decode cX4_find 1 = .ok (.iconst 0, 1) := by decide +kernel
theorem dX4_find_2 : decode cX4_find 2 = .ok (.putfield 9, 3) := by decide +kernel
theorem dX4_find_5 : decode cX4_find 5 = .ok (.aload_n 0, 1) := by decide +kernel
theorem dX4_find_6 : decode cX4_find 6 = .ok (.iconst 0, 1) := by decide +kernel
theorem dX4_find_7 : decode cX4_find 7 = .ok (.putfield 15, 3) := by decide +kernel
theorem dX4_find_10 : decode cX4_find 10 = .ok (.aload_n 0, 1) := by decide +kernel
theorem dX4_find_11 : decode cX4_find 11 = .ok (.getfield 18, 3) := by decide +kernel
theorem dX4_find_14 : decode cX4_find 14 = .ok (.iconst 0, 1) := by decide +kernel
theorem dX4_find_15 : decode cX4_find 15 = .ok (.invokestatic 28, 3) := by decide +kernel
theorem dX4_find_18 : decode cX4_find 18 = .ok (.aload_n 0, 1) := by decide +kernel
theorem dX4_find_19 : decode cX4_find 19 = .ok (.getfield 22, 3) := by decide +kernel
theorem dX4_find_22 : decode cX4_find 22 = .ok (.iconst 0, 1) := by decide +kernel
theorem dX4_find_23 : decode cX4_find 23 = .ok (.invokestatic 28, 3) := by decide +kernel
theorem dX4_find_26 : decode cX4_find 26 = .ok (.iconst 0, 1) := by decide +kernel
theorem dX4_find_27 : decode cX4_find 27 = .ok (.istore_n 2, 1) := by decide +kernel
theorem dX4_find_28 : decode cX4_find 28 = .ok (.iload_n 2, 1) := by decide +kernel
theorem dX4_find_29 : decode cX4_find 29 = .ok (.aload_n 1, 1) := by decide +kernel
theorem dX4_find_30 : decode cX4_find 30 = .ok (.getfield 34, 3) := by decide +kernel
theorem dX4_find_33 : decode cX4_find 33 = .ok (.if_icmp .ge 99, 3) := by decide +kernel
theorem dX4_find_36 : decode cX4_find 36 = .ok (.aload_n 1, 1) := by decide +kernel
theorem dX4_find_37 : decode cX4_find 37 = .ok (.getfield 39, 3) := by decide +kernel
theorem dX4_find_40 : decode cX4_find 40 = .ok (.iload_n 2, 1) := by decide +kernel
theorem dX4_find_41 : decode cX4_find 41 = .ok (.iaload, 1) := by decide +kernel
theorem dX4_find_42 : decode cX4_find 42 = .ok (.aload_n 1, 1) := by decide +kernel
theorem dX4_find_43 : decode cX4_find 43 = .ok (.getfield 42, 3) := by decide +kernel
theorem dX4_find_46 : decode cX4_find 46 = .ok (.iload_n 2, 1) := by decide +kernel
theorem dX4_find_47 : decode cX4_find 47 = .ok (.iaload, 1) := by decide +kernel
theorem dX4_find_48 : decode cX4_find 48 = .ok (.invokestatic 45, 3) := by decide +kernel
theorem dX4_find_51 : decode cX4_find 51 = .ok (.istore_n 3, 1) := by decide +kernel
theorem dX4_find_52 : decode cX4_find 52 = .ok (.aload_n 1, 1) := by decide +kernel
theorem dX4_find_53 : decode cX4_find 53 = .ok (.getfield 39, 3) := by decide +kernel
theorem dX4_find_56 : decode cX4_find 56 = .ok (.iload_n 2, 1) := by decide +kernel
theorem dX4_find_57 : decode cX4_find 57 = .ok (.iaload, 1) := by decide +kernel
theorem dX4_find_58 : decode cX4_find 58 = .ok (.aload_n 1, 1) := by decide +kernel
theorem dX4_find_59 : decode cX4_find 59 = .ok (.getfield 42, 3) := by decide +kernel
theorem dX4_find_62 : decode cX4_find 62 = .ok (.iload_n 2, 1) := by decide +kernel
theorem dX4_find_63 : decode cX4_find 63 = .ok (.iaload, 1) := by decide +kernel
theorem dX4_find_64 : decode cX4_find 64 = .ok (.invokestatic 51, 3) := by decide +kernel
theorem dX4_find_67 : decode cX4_find 67 = .ok (.istore 4, 2) := by decide +kernel
theorem dX4_find_69 : decode cX4_find 69 = .ok (.iconst 0, 1) := by decide +kernel
theorem dX4_find_70 : decode cX4_find 70 = .ok (.istore 5, 2) := by decide +kernel
theorem dX4_find_72 : decode cX4_find 72 = .ok (.iload 5, 2) := by decide +kernel
theorem dX4_find_74 : decode cX4_find 74 = .ok (.aload_n 1, 1) := by decide +kernel
theorem dX4_find_75 : decode cX4_find 75 = .ok (.getfield 34, 3) := by decide +kernel
theorem dX4_find_78 : decode cX4_find 78 = .ok (.if_icmp .ge 48, 3) := by decide +kernel
theorem dX4_find_81 : decode cX4_find 81 = .ok (.aload_n 1, 1) := by decide +kernel
theorem dX4_find_82 : decode cX4_find 82 = .ok (.iload 5, 2) := by decide +kernel
theorem dX4_find_84 : decode cX4_find 84 = .ok (.iload 4, 2) := by decide +kernel
theorem dX4_find_86 : decode cX4_find 86 = .ok (.invokevirtual 54, 3) := by decide +kernel
theorem dX4_find_89 : decode cX4_find 89 = .ok (.istore 6, 2) := by decide +kernel
theorem dX4_find_91 : decode cX4_find 91 = .ok (.iload 6, 2) := by decide +kernel
theorem dX4_find_93 : decode cX4_find 93 = .ok (.iconst (-1), 1) := by decide +kernel
theorem dX4_find_94 : decode cX4_find 94 = .ok (.if_icmp .eq 26, 3) := by decide +kernel
theorem dX4_find_97 : decode cX4_find 97 = .ok (.iload 6, 2) := by decide +kernel
theorem dX4_find_99 : decode cX4_find 99 = .ok (.bipush 8, 2) := by decide +kernel
theorem dX4_find_101 : decode cX4_find 101 = .ok (.idiv, 1) := by decide +kernel
theorem dX4_find_102 : decode cX4_find 102 = .ok (.iload_n 3, 1) := by decide +kernel
theorem dX4_find_103 : decode cX4_find 103 = .ok (.bipush 8, 2) := by decide +kernel
theorem dX4_find_105 : decode cX4_find 105 = .ok (.idiv, 1) := by decide +kernel
theorem dX4_find_106 : decode cX4_find 106 = .ok (.if_icmp .le 14, 3) := by decide +kernel
theorem dX4_find_109 : decode cX4_find 109 = .ok (.aload_n 0, 1) := by decide +kernel
theorem dX4_find_110 : decode cX4_find 110 = .ok (.aload_n 1, 1) := by decide +kernel
theorem dX4_find_111 : decode cX4_find 111 = .ok (.iload_n 2, 1) := by decide +kernel
theorem dX4_find_112 : decode cX4_find 112 = .ok (.iload 5, 2) := by decide +kernel
theorem dX4_find_114 : decode cX4_find 114 = .ok (.iload 6, 2) := by decide +kernel
theorem dX4_find_116 : decode cX4_find 116 = .ok (.iload_n 3, 1) := by decide +kernel
theorem dX4_find_117 : decode cX4_find 117 = .ok (.invokevirtual 57, 3) := by decide +kernel
theorem dX4_find_120 : decode cX4_find 120 = .ok (.iinc 5 1, 3) := by decide +kernel
theorem dX4_find_123 : decode cX4_find 123 = .ok (.goto (-51), 3) := by decide +kernel
theorem dX4_find_126 : decode cX4_find 126 = .ok (.iinc 2 1, 3) := by decide +kernel
theorem dX4_find_129 : decode cX4_find 129 = .ok (.goto (-101), 3) := by decide +kernel
theorem dX4_find_132 : decode cX4_find 132 = .ok (.return_, 1) := by decide +kernel
theorem dX4_close_0 : decode cX4_close 0 = .ok (.iconst 0, 1) := by decide +kernel
theorem dX4_close_1 : decode cX4_close 1 = .ok (.istore 6, 2) := by decide +kernel
theorem dX4_close_3 : decode cX4_close 3 = .ok (.iload 6, 2) := by decide +kernel
theorem dX4_close_5 : decode cX4_close 5 = .ok (.aload_n 1, 1) := by decide +kernel
theorem dX4_close_6 : decode cX4_close 6 = .ok (.getfield 34, 3) := by decide +kernel
theorem dX4_close_9 : decode cX4_close 9 = .ok (.if_icmp .ge 121, 3) := by decide +kernel
theorem dX4_close_12 : decode cX4_close 12 = .ok (.aload_n 1, 1) := by decide +kernel
theorem dX4_close_13 : decode cX4_close 13 = .ok (.iload 6, 2) := by decide +kernel
theorem dX4_close_15 : decode cX4_close 15 = .ok (.iload 4, 2) := by decide +kernel
theorem dX4_close_17 : decode cX4_close 17 = .ok (.invokevirtual 54, 3) := by decide +kernel
theorem dX4_close_20 : decode cX4_close 20 = .ok (.istore 7, 2) := by decide +kernel
theorem dX4_close_22 : decode cX4_close 22 = .ok (.iload 7, 2) := by decide +kernel
theorem dX4_close_24 : decode cX4_close 24 = .ok (.iconst (-1), 1) := by decide +kernel
theorem dX4_close_25 : decode cX4_close 25 = .ok (.if_icmp .eq 99, 3) := by decide +kernel
theorem dX4_close_28 : decode cX4_close 28 = .ok (.iload 7, 2) := by decide +kernel
theorem dX4_close_30 : decode cX4_close 30 = .ok (.bipush 8, 2) := by decide +kernel
theorem dX4_close_32 : decode cX4_close 32 = .ok (.idiv, 1) := by decide +kernel
theorem dX4_close_33 : decode cX4_close 33 = .ok (.iload 5, 2) := by decide +kernel
theorem dX4_close_35 : decode cX4_close 35 = .ok (.bipush 8, 2) := by decide +kernel
theorem dX4_close_37 : decode cX4_close 37 = .ok (.idiv, 1) := by decide +kernel
theorem dX4_close_38 : decode cX4_close 38 = .ok (.if_icmp .ne 86, 3) := by decide +kernel
theorem dX4_close_41 : decode cX4_close 41 = .ok (.aload_n 0, 1) := by decide +kernel
theorem dX4_close_42 : decode cX4_close 42 = .ok (.dup, 1) := by decide +kernel
theorem dX4_close_43 : decode cX4_close 43 = .ok (.getfield 9, 3) := by decide +kernel
theorem dX4_close_46 : decode cX4_close 46 = .ok (.iconst 1, 1) := by decide +kernel
theorem dX4_close_47 : decode cX4_close 47 = .ok (.iadd, 1) := by decide +kernel
theorem dX4_close_48 : decode cX4_close 48 = .ok (.putfield 9, 3) := by decide +kernel
theorem dX4_close_51 : decode cX4_close 51 = .ok (.aload_n 0, 1) := by decide +kernel
theorem dX4_close_52 : decode cX4_close 52 = .ok (.dup, 1) := by decide +kernel
theorem dX4_close_53 : decode cX4_close 53 = .ok (.getfield 15, 3) := by decide +kernel
theorem dX4_close_56 : decode cX4_close 56 = .ok (.iload 7, 2) := by decide +kernel
theorem dX4_close_58 : decode cX4_close 58 = .ok (.iload 5, 2) := by decide +kernel
theorem dX4_close_60 : decode cX4_close 60 = .ok (.if_icmp .ne 7, 3) := by decide +kernel
theorem dX4_close_63 : decode cX4_close 63 = .ok (.iconst 1, 1) := by decide +kernel
theorem dX4_close_64 : decode cX4_close 64 = .ok (.goto 4, 3) := by decide +kernel
theorem dX4_close_67 : decode cX4_close 67 = .ok (.iconst 0, 1) := by decide +kernel
theorem dX4_close_68 : decode cX4_close 68 = .ok (.iadd, 1) := by decide +kernel
theorem dX4_close_69 : decode cX4_close 69 = .ok (.putfield 15, 3) := by decide +kernel
theorem dX4_close_72 : decode cX4_close 72 = .ok (.aload_n 0, 1) := by decide +kernel
theorem dX4_close_73 : decode cX4_close 73 = .ok (.iload_n 2, 1) := by decide +kernel
theorem dX4_close_74 : decode cX4_close 74 = .ok (.iload 7, 2) := by decide +kernel
theorem dX4_close_76 : decode cX4_close 76 = .ok (.iload 5, 2) := by decide +kernel
theorem dX4_close_78 : decode cX4_close 78 = .ok (.if_icmp .eq 7, 3) := by decide +kernel
theorem dX4_close_81 : decode cX4_close 81 = .ok (.iconst 1, 1) := by decide +kernel
theorem dX4_close_82 : decode cX4_close 82 = .ok (.goto 4, 3) := by decide +kernel
theorem dX4_close_85 : decode cX4_close 85 = .ok (.iconst 0, 1) := by decide +kernel
theorem dX4_close_86 : decode cX4_close 86 = .ok (.invokevirtual 61, 3) := by decide +kernel
theorem dX4_close_89 : decode cX4_close 89 = .ok (.aload_n 0, 1) := by decide +kernel
theorem dX4_close_90 : decode cX4_close 90 = .ok (.iload_n 3, 1) := by decide +kernel
theorem dX4_close_91 : decode cX4_close 91 = .ok (.iload 7, 2) := by decide +kernel
theorem dX4_close_93 : decode cX4_close 93 = .ok (.iload 5, 2) := by decide +kernel
theorem dX4_close_95 : decode cX4_close 95 = .ok (.if_icmp .eq 7, 3) := by decide +kernel
theorem dX4_close_98 : decode cX4_close 98 = .ok (.iconst 1, 1) := by decide +kernel
theorem dX4_close_99 : decode cX4_close 99 = .ok (.goto 4, 3) := by decide +kernel
theorem dX4_close_102 : decode cX4_close 102 = .ok (.iconst 0, 1) := by decide +kernel
theorem dX4_close_103 : decode cX4_close 103 = .ok (.invokevirtual 61, 3) := by decide +kernel
theorem dX4_close_106 : decode cX4_close 106 = .ok (.aload_n 0, 1) := by decide +kernel
theorem dX4_close_107 : decode cX4_close 107 = .ok (.iload 6, 2) := by decide +kernel
theorem dX4_close_109 : decode cX4_close 109 = .ok (.iload 7, 2) := by decide +kernel
theorem dX4_close_111 : decode cX4_close 111 = .ok (.iload 5, 2) := by decide +kernel
theorem dX4_close_113 : decode cX4_close 113 = .ok (.if_icmp .eq 7, 3) := by decide +kernel
theorem dX4_close_116 : decode cX4_close 116 = .ok (.iconst 1, 1) := by decide +kernel
theorem dX4_close_117 : decode cX4_close 117 = .ok (.goto 4, 3) := by decide +kernel
theorem dX4_close_120 : decode cX4_close 120 = .ok (.iconst 0, 1) := by decide +kernel
theorem dX4_close_121 : decode cX4_close 121 = .ok (.invokevirtual 61, 3) := by decide +kernel
theorem dX4_close_124 : decode cX4_close 124 = .ok (.iinc 6 1, 3) := by decide +kernel
theorem dX4_close_127 : decode cX4_close 127 = .ok (.goto (-124), 3) := by decide +kernel
theorem dX4_close_130 : decode cX4_close 130 = .ok (.return_, 1) := by decide +kernel
theorem dX4_addTo_0 : decode cX4_addTo 0 = .ok (.aload_n 0, 1) := by decide +kernel
theorem dX4_addTo_1 : decode cX4_addTo 1 = .ok (.getfield 18, 3) := by decide +kernel
theorem dX4_addTo_4 : decode cX4_addTo 4 = .ok (.iload_n 1, 1) := by decide +kernel
theorem dX4_addTo_5 : decode cX4_addTo 5 = .ok (.dup2, 1) := by decide +kernel
theorem dX4_addTo_6 : decode cX4_addTo 6 = .ok (.iaload, 1) := by decide +kernel
theorem dX4_addTo_7 : decode cX4_addTo 7 = .ok (.iconst 1, 1) := by decide +kernel
theorem dX4_addTo_8 : decode cX4_addTo 8 = .ok (.iadd, 1) := by decide +kernel
theorem dX4_addTo_9 : decode cX4_addTo 9 = .ok (.iastore, 1) := by decide +kernel
theorem dX4_addTo_10 : decode cX4_addTo 10 = .ok (.aload_n 0, 1) := by decide +kernel
theorem dX4_addTo_11 : decode cX4_addTo 11 = .ok (.getfield 22, 3) := by decide +kernel
theorem dX4_addTo_14 : decode cX4_addTo 14 = .ok (.iload_n 1, 1) := by decide +kernel
theorem dX4_addTo_15 : decode cX4_addTo 15 = .ok (.dup2, 1) := by decide +kernel
theorem dX4_addTo_16 : decode cX4_addTo 16 = .ok (.iaload, 1) := by decide +kernel
theorem dX4_addTo_17 : decode cX4_addTo 17 = .ok (.iload_n 2, 1) := by decide +kernel
theorem dX4_addTo_18 : decode cX4_addTo 18 = .ok (.ifCond .eq 7, 3) := by decide +kernel
theorem dX4_addTo_21 : decode cX4_addTo 21 = .ok (.iconst 1, 1) := by decide +kernel
theorem dX4_addTo_22 : decode cX4_addTo 22 = .ok (.goto 4, 3) := by decide +kernel
theorem dX4_addTo_25 : decode cX4_addTo 25 = .ok (.iconst 0, 1) := by decide +kernel
theorem dX4_addTo_26 : decode cX4_addTo 26 = .ok (.iadd, 1) := by decide +kernel
theorem dX4_addTo_27 : decode cX4_addTo 27 = .ok (.iastore, 1) := by decide +kernel
theorem dX4_addTo_28 : decode cX4_addTo 28 = .ok (.return_, 1) := by decide +kernel
theorem dX4_isWorse_0 : decode cX4_isWorse 0 = .ok (.aload_n 0, 1) := by decide +kernel
theorem dX4_isWorse_1 : decode cX4_isWorse 1 = .ok (.getfield 22, 3) := by decide +kernel
theorem dX4_isWorse_4 : decode cX4_isWorse 4 = .ok (.iload_n 1, 1) := by decide +kernel
theorem dX4_isWorse_5 : decode cX4_isWorse 5 = .ok (.iaload, 1) := by decide +kernel
theorem dX4_isWorse_6 : decode cX4_isWorse 6 = .ok (.aload_n 0, 1) := by decide +kernel
theorem dX4_isWorse_7 : decode cX4_isWorse 7 = .ok (.getfield 18, 3) := by decide +kernel
theorem dX4_isWorse_10 : decode cX4_isWorse 10 = .ok (.iload_n 2, 1) := by decide +kernel
theorem dX4_isWorse_11 : decode cX4_isWorse 11 = .ok (.iaload, 1) := by decide +kernel
theorem dX4_isWorse_12 : decode cX4_isWorse 12 = .ok (.imul, 1) := by decide +kernel
theorem dX4_isWorse_13 : decode cX4_isWorse 13 = .ok (.aload_n 0, 1) := by decide +kernel
theorem dX4_isWorse_14 : decode cX4_isWorse 14 = .ok (.getfield 22, 3) := by decide +kernel
theorem dX4_isWorse_17 : decode cX4_isWorse 17 = .ok (.iload_n 2, 1) := by decide +kernel
theorem dX4_isWorse_18 : decode cX4_isWorse 18 = .ok (.iaload, 1) := by decide +kernel
theorem dX4_isWorse_19 : decode cX4_isWorse 19 = .ok (.aload_n 0, 1) := by decide +kernel
theorem dX4_isWorse_20 : decode cX4_isWorse 20 = .ok (.getfield 18, 3) := by decide +kernel
theorem dX4_isWorse_23 : decode cX4_isWorse 23 = .ok (.iload_n 1, 1) := by decide +kernel
theorem dX4_isWorse_24 : decode cX4_isWorse 24 = .ok (.iaload, 1) := by decide +kernel
theorem dX4_isWorse_25 : decode cX4_isWorse 25 = .ok (.imul, 1) := by decide +kernel
theorem dX4_isWorse_26 : decode cX4_isWorse 26 = .ok (.if_icmp .le 7, 3) := by decide +kernel
theorem dX4_isWorse_29 : decode cX4_isWorse 29 = .ok (.iconst 1, 1) := by decide +kernel
theorem dX4_isWorse_30 : decode cX4_isWorse 30 = .ok (.goto 4, 3) := by decide +kernel
theorem dX4_isWorse_33 : decode cX4_isWorse 33 = .ok (.iconst 0, 1) := by decide +kernel
theorem dX4_isWorse_34 : decode cX4_isWorse 34 = .ok (.ireturn, 1) := by decide +kernel
theorem dX4_joinSets_0 : decode cX4_joinSets 0 = .ok (.iconst 0, 1) := by decide +kernel
theorem dX4_joinSets_1 : decode cX4_joinSets 1 = .ok (.istore_n 2, 1) := by decide +kernel
theorem dX4_joinSets_2 : decode cX4_joinSets 2 = .ok (.iload_n 2, 1) := by decide +kernel
theorem dX4_joinSets_3 : decode cX4_joinSets 3 = .ok (.bipush 48, 2) := by decide +kernel
theorem dX4_joinSets_5 : decode cX4_joinSets 5 = .ok (.if_icmp .ge 16, 3) := by decide +kernel
theorem dX4_joinSets_8 : decode cX4_joinSets 8 = .ok (.aload_n 0, 1) := by decide +kernel
theorem dX4_joinSets_9 : decode cX4_joinSets 9 = .ok (.getfield 25, 3) := by decide +kernel
theorem dX4_joinSets_12 : decode cX4_joinSets 12 = .ok (.iload_n 2, 1) := by decide +kernel
theorem dX4_joinSets_13 : decode cX4_joinSets 13 = .ok (.iload_n 2, 1) := by decide +kernel
theorem dX4_joinSets_14 : decode cX4_joinSets 14 = .ok (.iastore, 1) := by decide +kernel
theorem dX4_joinSets_15 : decode cX4_joinSets 15 = .ok (.iinc 2 1, 3) := by decide +kernel
theorem dX4_joinSets_18 : decode cX4_joinSets 18 = .ok (.goto (-16), 3) := by decide +kernel
theorem dX4_joinSets_21 : decode cX4_joinSets 21 = .ok (.iconst 0, 1) := by decide +kernel
theorem dX4_joinSets_22 : decode cX4_joinSets 22 = .ok (.istore_n 2, 1) := by decide +kernel
theorem dX4_joinSets_23 : decode cX4_joinSets 23 = .ok (.iload_n 2, 1) := by decide +kernel
theorem dX4_joinSets_24 : decode cX4_joinSets 24 = .ok (.aload_n 1, 1) := by decide +kernel
theorem dX4_joinSets_25 : decode cX4_joinSets 25 = .ok (.getfield 34, 3) := by decide +kernel
theorem dX4_joinSets_28 : decode cX4_joinSets 28 = .ok (.if_icmp .ge 52, 3) := by decide +kernel
theorem dX4_joinSets_31 : decode cX4_joinSets 31 = .ok (.aload_n 0, 1) := by decide +kernel
theorem dX4_joinSets_32 : decode cX4_joinSets 32 = .ok (.getfield 22, 3) := by decide +kernel
theorem dX4_joinSets_35 : decode cX4_joinSets 35 = .ok (.iload_n 2, 1) := by decide +kernel
theorem dX4_joinSets_36 : decode cX4_joinSets 36 = .ok (.iaload, 1) := by decide +kernel
theorem dX4_joinSets_37 : decode cX4_joinSets 37 = .ok (.iconst 2, 1) := by decide +kernel
theorem dX4_joinSets_38 : decode cX4_joinSets 38 = .ok (.imul, 1) := by decide +kernel
theorem dX4_joinSets_39 : decode cX4_joinSets 39 = .ok (.aload_n 0, 1) := by decide +kernel
theorem dX4_joinSets_40 : decode cX4_joinSets 40 = .ok (.getfield 18, 3) := by decide +kernel
theorem dX4_joinSets_43 : decode cX4_joinSets 43 = .ok (.iload_n 2, 1) := by decide +kernel
theorem dX4_joinSets_44 : decode cX4_joinSets 44 = .ok (.iaload, 1) := by decide +kernel
theorem dX4_joinSets_45 : decode cX4_joinSets 45 = .ok (.if_icmp .gt 29, 3) := by decide +kernel
theorem dX4_joinSets_48 : decode cX4_joinSets 48 = .ok (.aload_n 0, 1) := by decide +kernel
theorem dX4_joinSets_49 : decode cX4_joinSets 49 = .ok (.aload_n 0, 1) := by decide +kernel
theorem dX4_joinSets_50 : decode cX4_joinSets 50 = .ok (.getfield 25, 3) := by decide +kernel
theorem dX4_joinSets_53 : decode cX4_joinSets 53 = .ok (.aload_n 1, 1) := by decide +kernel
theorem dX4_joinSets_54 : decode cX4_joinSets 54 = .ok (.getfield 39, 3) := by decide +kernel
theorem dX4_joinSets_57 : decode cX4_joinSets 57 = .ok (.iload_n 2, 1) := by decide +kernel
theorem dX4_joinSets_58 : decode cX4_joinSets 58 = .ok (.iaload, 1) := by decide +kernel
theorem dX4_joinSets_59 : decode cX4_joinSets 59 = .ok (.iaload, 1) := by decide +kernel
theorem dX4_joinSets_60 : decode cX4_joinSets 60 = .ok (.aload_n 0, 1) := by decide +kernel
theorem dX4_joinSets_61 : decode cX4_joinSets 61 = .ok (.getfield 25, 3) := by decide +kernel
theorem dX4_joinSets_64 : decode cX4_joinSets 64 = .ok (.aload_n 1, 1) := by decide +kernel
theorem dX4_joinSets_65 : decode cX4_joinSets 65 = .ok (.getfield 42, 3) := by decide +kernel
theorem dX4_joinSets_68 : decode cX4_joinSets 68 = .ok (.iload_n 2, 1) := by decide +kernel
theorem dX4_joinSets_69 : decode cX4_joinSets 69 = .ok (.iaload, 1) := by decide +kernel
theorem dX4_joinSets_70 : decode cX4_joinSets 70 = .ok (.iaload, 1) := by decide +kernel
theorem dX4_joinSets_71 : decode cX4_joinSets 71 = .ok (.invokevirtual 65, 3) := by decide +kernel
theorem dX4_joinSets_74 : decode cX4_joinSets 74 = .ok (.iinc 2 1, 3) := by decide +kernel
theorem dX4_joinSets_77 : decode cX4_joinSets 77 = .ok (.goto (-54), 3) := by decide +kernel
theorem dX4_joinSets_80 : decode cX4_joinSets 80 = .ok (.return_, 1) := by decide +kernel
theorem dX4_join_0 : decode cX4_join 0 = .ok (.iconst 0, 1) := by decide +kernel
theorem dX4_join_1 : decode cX4_join 1 = .ok (.istore_n 3, 1) := by decide +kernel
theorem dX4_join_2 : decode cX4_join 2 = .ok (.iload_n 3, 1) := by decide +kernel
theorem dX4_join_3 : decode cX4_join 3 = .ok (.bipush 48, 2) := by decide +kernel
theorem dX4_join_5 : decode cX4_join 5 = .ok (.if_icmp .ge 26, 3) := by decide +kernel
theorem dX4_join_8 : decode cX4_join 8 = .ok (.aload_n 0, 1) := by decide +kernel
theorem dX4_join_9 : decode cX4_join 9 = .ok (.getfield 25, 3) := by decide +kernel
theorem dX4_join_12 : decode cX4_join 12 = .ok (.iload_n 3, 1) := by decide +kernel
theorem dX4_join_13 : decode cX4_join 13 = .ok (.iaload, 1) := by decide +kernel
theorem dX4_join_14 : decode cX4_join 14 = .ok (.iload_n 2, 1) := by decide +kernel
theorem dX4_join_15 : decode cX4_join 15 = .ok (.if_icmp .ne 10, 3) := by decide +kernel
theorem dX4_join_18 : decode cX4_join 18 = .ok (.aload_n 0, 1) := by decide +kernel
theorem dX4_join_19 : decode cX4_join 19 = .ok (.getfield 25, 3) := by decide +kernel
theorem dX4_join_22 : decode cX4_join 22 = .ok (.iload_n 3, 1) := by decide +kernel
theorem dX4_join_23 : decode cX4_join 23 = .ok (.iload_n 1, 1) := by decide +kernel
theorem dX4_join_24 : decode cX4_join 24 = .ok (.iastore, 1) := by decide +kernel
theorem dX4_join_25 : decode cX4_join 25 = .ok (.iinc 3 1, 3) := by decide +kernel
theorem dX4_join_28 : decode cX4_join 28 = .ok (.goto (-26), 3) := by decide +kernel
theorem dX4_join_31 : decode cX4_join 31 = .ok (.return_, 1) := by decide +kernel
theorem dX5_init_0 : decode cX5_init 0 = .ok (.aload_n 0, 1) := by decide +kernel
theorem dX5_init_1 : decode cX5_init 1 = .ok (.invokespecial 3, 3) := by decide +kernel
theorem dX5_init_4 : decode cX5_init 4 = .ok (.aload_n 0, 1) := by decide +kernel
theorem dX5_init_5 : decode cX5_init 5 = .ok (.iconst (-1), 1) := by decide +kernel
theorem dX5_init_6 : decode cX5_init 6 = .ok (.putfield 9, 3) := by decide +kernel
theorem dX5_init_9 : decode cX5_init 9 = .ok (.aload_n 0, 1) := by decide +kernel
theorem dX5_init_10 : decode cX5_init 10 = .ok (.iconst 0, 1) := by decide +kernel
theorem dX5_init_11 : decode cX5_init 11 = .ok (.putfield 15, 3) := by decide +kernel
theorem dX5_init_14 : decode cX5_init 14 = .ok (.aload_n 0, 1) := by decide +kernel
theorem dX5_init_15 : decode cX5_init 15 = .ok (.iconst 0, 1) := by decide +kernel
theorem dX5_init_16 : decode cX5_init 16 = .ok (.putfield 18, 3) := by decide +kernel
theorem dX5_init_19 : decode cX5_init 19 = .ok (.aload_n 0, 1) := by decide +kernel
theorem dX5_init_20 : decode cX5_init 20 = .ok (.iconst 0, 1) := by decide +kernel
theorem dX5_init_21 : decode cX5_init 21 = .ok (.putfield 21, 3) := by decide +kernel
theorem dX5_init_24 : decode cX5_init 24 = .ok (.aload_n 0, 1) := by decide +kernel
theorem dX5_init_25 : decode cX5_init 25 = .ok (.iconst 4, 1) := by decide +kernel
theorem dX5_init_26 : decode cX5_init 26 = .ok (.newarray .int, 2) := by decide +kernel
theorem dX5_init_28 : decode cX5_init 28 = .ok (.putfield 24, 3) := by decide +kernel
theorem dX5_init_31 : decode cX5_init 31 = .ok (.aload_n 0, 1) := by decide +kernel
theorem dX5_init_32 : decode cX5_init 32 = .ok (.sipush 200, 3) := by decide +kernel
theorem dX5_init_35 : decode cX5_init 35 = .ok (.newarray .int, 2) := by decide +kernel
theorem dX5_init_37 : decode cX5_init 37 = .ok (.putfield 28, 3) := by decide +kernel
theorem dX5_init_40 : decode cX5_init 40 = .ok (.aload_n 0, 1) := by decide +kernel
theorem dX5_init_41 : decode cX5_init 41 = .ok (.sipush 200, 3) := by decide +kernel
theorem dX5_init_44 : decode cX5_init 44 = .ok (.newarray .int, 2) := by decide +kernel
theorem dX5_init_46 : decode cX5_init 46 = .ok (.putfield 31, 3) := by decide +kernel
theorem dX5_init_49 : decode cX5_init 49 = .ok (.return_, 1) := by decide +kernel
theorem dX5_read_0 : decode cX5_read 0 = .ok (.aload_n 0, 1) := by decide +kernel
theorem dX5_read_1 : decode cX5_read 1 = .ok (.iconst 0, 1) := by decide +kernel
theorem dX5_read_2 : decode cX5_read 2 = .ok (.putfield 15, 3) := by decide +kernel
theorem dX5_read_5 : decode cX5_read 5 = .ok (.aload_n 0, 1) := by decide +kernel
theorem dX5_read_6 : decode cX5_read 6 = .ok (.iconst 0, 1) := by decide +kernel
theorem dX5_read_7 : decode cX5_read 7 = .ok (.putfield 21, 3) := by decide +kernel
theorem dX5_read_10 : decode cX5_read 10 = .ok (.aload_n 0, 1) := by decide +kernel
theorem dX5_read_11 : decode cX5_read 11 = .ok (.iconst 0, 1) := by decide +kernel
theorem dX5_read_12 : decode cX5_read 12 = .ok (.putfield 18, 3) := by decide +kernel
theorem dX5_read_15 : decode cX5_read 15 = .ok (.aload_n 0, 1) := by decide +kernel
theorem dX5_read_16 : decode cX5_read 16 = .ok (.iconst (-1), 1) := by decide +kernel
theorem dX5_read_17 : decode cX5_read 17 = .ok (.putfield 9, 3) := by decide +kernel
theorem dX5_read_20 : decode cX5_read 20 = .ok (.iconst 0, 1) := by decide +kernel
theorem dX5_read_21 : decode cX5_read 21 = .ok (.istore_n 3, 1) := by decide +kernel
theorem dX5_read_22 : decode cX5_read 22 = .ok (.iload_n 3, 1) := by decide +kernel
theorem dX5_read_23 : decode cX5_read 23 = .ok (.aload_n 1, 1) := by decide +kernel
theorem dX5_read_24 : decode cX5_read 24 = .ok (.getfield 34, 3) := by decide +kernel
theorem dX5_read_27 : decode cX5_read 27 = .ok (.if_icmp .ge 40, 3) := by decide +kernel
theorem dX5_read_30 : decode cX5_read 30 = .ok (.aload_n 1, 1) := by decide +kernel
theorem dX5_read_31 : decode cX5_read 31 = .ok (.getfield 39, 3) := by decide +kernel
theorem dX5_read_34 : decode cX5_read 34 = .ok (.iload_n 3, 1) := by decide +kernel
theorem dX5_read_35 : decode cX5_read 35 = .ok (.iaload, 1) := by decide +kernel
theorem dX5_read_36 : decode cX5_read 36 = .ok (.istore 4, 2) := by decide +kernel
theorem dX5_read_38 : decode cX5_read 38 = .ok (.iload 4, 2) := by decide +kernel
theorem dX5_read_40 : decode cX5_read 40 = .ok (.bipush 32, 2) := by decide +kernel
theorem dX5_read_42 : decode cX5_read 42 = .ok (.if_icmp .eq 19, 3) := by decide +kernel
theorem dX5_read_45 : decode cX5_read 45 = .ok (.aload_n 0, 1) := by decide +kernel
theorem dX5_read_46 : decode cX5_read 46 = .ok (.iload 4, 2) := by decide +kernel
theorem dX5_read_48 : decode cX5_read 48 = .ok (.aload_n 2, 1) := by decide +kernel
theorem dX5_read_49 : decode cX5_read 49 = .ok (.invokevirtual 42, 3) := by decide +kernel
theorem dX5_read_52 : decode cX5_read 52 = .ok (.ifCond .ne 9, 3) := by decide +kernel
theorem dX5_read_55 : decode cX5_read 55 = .ok (.aload_n 0, 1) := by decide +kernel
theorem dX5_read_56 : decode cX5_read 56 = .ok (.iload_n 3, 1) := by decide +kernel
theorem dX5_read_57 : decode cX5_read 57 = .ok (.putfield 9, 3) := by decide +kernel
theorem dX5_read_60 : decode cX5_read 60 = .ok (.return_, 1) := by decide +kernel
theorem dX5_read_61 : decode cX5_read 61 = .ok (.iinc 3 1, 3) := by decide +kernel
theorem dX5_read_64 : decode cX5_read 64 = .ok (.goto (-42), 3) := by decide +kernel
theorem dX5_read_67 : decode cX5_read 67 = .ok (.aload_n 0, 1) := by decide +kernel
theorem dX5_read_68 : decode cX5_read 68 = .ok (.getfield 21, 3) := by decide +kernel
theorem dX5_read_71 : decode cX5_read 71 = .ok (.ifCond .gt 18, 3) := by decide +kernel
theorem dX5_read_74 : decode cX5_read 74 = .ok (.aload_n 0, 1) := by decide +kernel
theorem dX5_read_75 : decode cX5_read 75 = .ok (.getfield 18, 3) := by decide +kernel
theorem dX5_read_78 : decode cX5_read 78 = .ok (.ifCond .eq 11, 3) := by decide +kernel
theorem dX5_read_81 : decode cX5_read 81 = .ok (.aload_n 0, 1) := by decide +kernel
theorem dX5_read_82 : decode cX5_read 82 = .ok (.getfield 18, 3) := by decide +kernel
theorem dX5_read_85 : decode cX5_read 85 = .ok (.iconst 3, 1) := by decide +kernel
theorem dX5_read_86 : decode cX5_read 86 = .ok (.if_icmp .ne 11, 3) := by decide +kernel
theorem dX5_read_89 : decode cX5_read 89 = .ok (.aload_n 0, 1) := by decide +kernel
theorem dX5_read_90 : decode cX5_read 90 = .ok (.aload_n 1, 1) := by decide +kernel
theorem dX5_read_91 : decode cX5_read 91 = .ok (.getfield 34, 3) := by decide +kernel
theorem dX5_read_94 : decode cX5_read 94 = .ok (.putfield 9, 3) := by decide +kernel
theorem dX5_read_97 : decode cX5_read 97 = .ok (.return_, 1) := by decide +kernel
theorem dX5_canBeGone_0 : decode cX5_canBeGone 0 = .ok (.aload_n 0, 1) := by decide +kernel
theorem dX5_canBeGone_1 : decode cX5_canBeGone 1 = .ok (.getfield 9, 3) := by decide +kernel
theorem dX5_canBeGone_4 : decode cX5_canBeGone 4 = .ok (.iconst (-1), 1) := by decide +kernel
theorem dX5_canBeGone_5 : decode cX5_canBeGone 5 = .ok (.if_icmp .ne 17, 3) := by decide +kernel
theorem dX5_canBeGone_8 : decode cX5_canBeGone 8 = .ok (.aload_n 0, 1) := by decide +kernel
theorem dX5_canBeGone_9 : decode cX5_canBeGone 9 = .ok (.getfield 15, 3) := by decide +kernel
theorem dX5_canBeGone_12 : decode cX5_canBeGone 12 = .ok (.sipush 200, 3) := by decide +kernel
theorem dX5_canBeGone_15 : decode cX5_canBeGone 15 = .ok (.if_icmp .gt 7, 3) := by decide +kernel
theorem dX5_canBeGone_18 : decode cX5_canBeGone 18 = .ok (.iconst 1, 1) := by decide +kernel
theorem dX5_canBeGone_19 : decode cX5_canBeGone 19 = .ok (.goto 4, 3) := by decide +kernel
theorem dX5_canBeGone_22 : decode cX5_canBeGone 22 = .ok (.iconst 0, 1) := by decide +kernel
theorem dX5_canBeGone_23 : decode cX5_canBeGone 23 = .ok (.ireturn, 1) := by decide +kernel
theorem dX5_goStep_0 : decode cX5_goStep 0 = .ok (.iload_n 2, 1) := by decide +kernel
theorem dX5_goStep_1 : decode cX5_goStep 1 = .ok (.iconst 1, 1) := by decide +kernel
theorem dX5_goStep_2 : decode cX5_goStep 2 = .ok (.aload_n 0, 1) := by decide +kernel
theorem dX5_goStep_3 : decode cX5_goStep 3 = .ok (.getfield 15, 3) := by decide +kernel
theorem dX5_goStep_6 : decode cX5_goStep 6 = .ok (.invokestatic 46, 3) := by decide +kernel
theorem dX5_goStep_9 : decode cX5_goStep 9 = .ok (.ifCond .eq 31, 3) := by decide +kernel
theorem dX5_goStep_12 : decode cX5_goStep 12 = .ok (.iload_n 2, 1) := by decide +kernel
theorem dX5_goStep_13 : decode cX5_goStep 13 = .ok (.sipush 200, 3) := by decide +kernel
theorem dX5_goStep_16 : decode cX5_goStep 16 = .ok (.if_icmp .gt 24, 3) := by decide +kernel
theorem dX5_goStep_19 : decode cX5_goStep 19 = .ok (.aload_n 3, 1) := by decide +kernel
theorem dX5_goStep_20 : decode cX5_goStep 20 = .ok (.aload_n 1, 1) := by decide +kernel
theorem dX5_goStep_21 : decode cX5_goStep 21 = .ok (.aload_n 0, 1) := by decide +kernel
theorem dX5_goStep_22 : decode cX5_goStep 22 = .ok (.getfield 31, 3) := by decide +kernel
theorem dX5_goStep_25 : decode cX5_goStep 25 = .ok (.iload_n 2, 1) := by decide +kernel
theorem dX5_goStep_26 : decode cX5_goStep 26 = .ok (.iconst 1, 1) := by decide +kernel
theorem dX5_goStep_27 : decode cX5_goStep 27 = .ok (.isub, 1) := by decide +kernel
theorem dX5_goStep_28 : decode cX5_goStep 28 = .ok (.iaload, 1) := by decide +kernel
theorem dX5_goStep_29 : decode cX5_goStep 29 = .ok (.aload_n 0, 1) := by decide +kernel
theorem dX5_goStep_30 : decode cX5_goStep 30 = .ok (.getfield 28, 3) := by decide +kernel
theorem dX5_goStep_33 : decode cX5_goStep 33 = .ok (.iload_n 2, 1) := by decide +kernel
theorem dX5_goStep_34 : decode cX5_goStep 34 = .ok (.iconst 1, 1) := by decide +kernel
theorem dX5_goStep_35 : decode cX5_goStep 35 = .ok (.isub, 1) := by decide +kernel
theorem dX5_goStep_36 : decode cX5_goStep 36 = .ok (.iaload, 1) := by decide +kernel
theorem dX5_goStep_37 : decode cX5_goStep 37 = .ok (.invokevirtual 50, 3) := by decide +kernel
theorem dX5_goStep_40 : decode cX5_goStep 40 = .ok (.return_, 1) := by decide +kernel
theorem dX5_takes_0 : decode cX5_takes 0 = .ok (.aload_n 0, 1) := by decide +kernel
theorem dX5_takes_1 : decode cX5_takes 1 = .ok (.getfield 18, 3) := by decide +kernel
theorem dX5_takes_4 : decode cX5_takes 4 = .ok (.iconst 3, 1) := by decide +kernel
theorem dX5_takes_5 : decode cX5_takes 5 = .ok (.if_icmp .ne 9, 3) := by decide +kernel
theorem dX5_takes_8 : decode cX5_takes 8 = .ok (.aload_n 0, 1) := by decide +kernel
theorem dX5_takes_9 : decode cX5_takes 9 = .ok (.iload_n 1, 1) := by decide +kernel
theorem dX5_takes_10 : decode cX5_takes 10 = .ok (.invokevirtual 56, 3) := by decide +kernel
theorem dX5_takes_13 : decode cX5_takes 13 = .ok (.ireturn, 1) := by decide +kernel
theorem dX5_takes_14 : decode cX5_takes 14 = .ok (.iload_n 1, 1) := by decide +kernel
theorem dX5_takes_15 : decode cX5_takes 15 = .ok (.bipush 40, 2) := by decide +kernel
theorem dX5_takes_17 : decode cX5_takes 17 = .ok (.if_icmp .ne 8, 3) := by decide +kernel
theorem dX5_takes_20 : decode cX5_takes 20 = .ok (.aload_n 0, 1) := by decide +kernel
theorem dX5_takes_21 : decode cX5_takes 21 = .ok (.invokevirtual 60, 3) := by decide +kernel
theorem dX5_takes_24 : decode cX5_takes 24 = .ok (.ireturn, 1) := by decide +kernel
theorem dX5_takes_25 : decode cX5_takes 25 = .ok (.iload_n 1, 1) := by decide +kernel
theorem dX5_takes_26 : decode cX5_takes 26 = .ok (.bipush 41, 2) := by decide +kernel
theorem dX5_takes_28 : decode cX5_takes 28 = .ok (.if_icmp .ne 8, 3) := by decide +kernel
theorem dX5_takes_31 : decode cX5_takes 31 = .ok (.aload_n 0, 1) := by decide +kernel
theorem dX5_takes_32 : decode cX5_takes 32 = .ok (.invokevirtual 64, 3) := by decide +kernel
theorem dX5_takes_35 : decode cX5_takes 35 = .ok (.ireturn, 1) := by decide +kernel
theorem dX5_takes_36 : decode cX5_takes 36 = .ok (.iload_n 1, 1) := by decide +kernel
theorem dX5_takes_37 : decode cX5_takes 37 = .ok (.bipush 48, 2) := by decide +kernel
theorem dX5_takes_39 : decode cX5_takes 39 = .ok (.bipush 57, 2) := by decide +kernel
theorem dX5_takes_41 : decode cX5_takes 41 = .ok (.invokestatic 46, 3) := by decide +kernel
theorem dX5_takes_44 : decode cX5_takes 44 = .ok (.ifCond .eq 14, 3) := by decide +kernel
theorem dX5_takes_47 : decode cX5_takes 47 = .ok (.aload_n 0, 1) := by decide +kernel
theorem dX5_takes_48 : decode cX5_takes 48 = .ok (.iload_n 1, 1) := by decide +kernel
theorem dX5_takes_49 : decode cX5_takes 49 = .ok (.bipush 48, 2) := by decide +kernel
theorem dX5_takes_51 : decode cX5_takes 51 = .ok (.isub, 1) := by decide +kernel
theorem dX5_takes_52 : decode cX5_takes 52 = .ok (.invokevirtual 67, 3) := by decide +kernel
theorem dX5_takes_55 : decode cX5_takes 55 = .ok (.goto 12, 3) := by decide +kernel
theorem dX5_takes_58 : decode cX5_takes 58 = .ok (.aload_n 0, 1) := by decide +kernel
theorem dX5_takes_59 : decode cX5_takes 59 = .ok (.iload_n 1, 1) := by decide +kernel
theorem dX5_takes_60 : decode cX5_takes 60 = .ok (.bipush 97, 2) := by decide +kernel
theorem dX5_takes_62 : decode cX5_takes 62 = .ok (.isub, 1) := by decide +kernel
theorem dX5_takes_63 : decode cX5_takes 63 = .ok (.aload_n 2, 1) := by decide +kernel
theorem dX5_takes_64 : decode cX5_takes 64 = .ok (.invokevirtual 70, 3) := by decide +kernel
theorem dX5_takes_67 : decode cX5_takes 67 = .ok (.ireturn, 1) := by decide +kernel
theorem dX5_takesOpening_0 : decode cX5_takesOpening 0 = .ok (.aload_n 0, 1) := by decide +kernel
theorem dX5_takesOpening_1 : decode cX5_takesOpening 1 = .ok (.getfield 21, 3) := by decide +kernel
theorem dX5_takesOpening_4 : decode cX5_takesOpening 4 = .ok (.iconst 4, 1) := by decide +kernel
theorem dX5_takesOpening_5 : decode cX5_takesOpening 5 = .ok (.if_icmp .lt 5, 3) := by decide +kernel
theorem dX5_takesOpening_8 : decode cX5_takesOpening 8 = .ok (.iconst 0, 1) := by decide +kernel
theorem dX5_takesOpening_9 : decode cX5_takesOpening 9 = .ok (.ireturn, 1) := by decide +kernel
theorem dX5_takesOpening_10 : decode cX5_takesOpening 10 = .ok (.aload_n 0, 1) := by decide +kernel
theorem dX5_takesOpening_11 : decode cX5_takesOpening 11 = .ok (.getfield 24, 3) := by decide +kernel
theorem dX5_takesOpening_14 : decode cX5_takesOpening 14 = .ok (.aload_n 0, 1) := by decide +kernel
theorem dX5_takesOpening_15 : decode cX5_takesOpening 15 = .ok (.getfield 21, 3) := by decide +kernel
theorem dX5_takesOpening_18 : decode cX5_takesOpening 18 = .ok (.aload_n 0, 1) := by decide +kernel
theorem dX5_takesOpening_19 : decode cX5_takesOpening 19 = .ok (.getfield 15, 3) := by decide +kernel
theorem dX5_takesOpening_22 : decode cX5_takesOpening 22 = .ok (.iastore, 1) := by decide +kernel
theorem dX5_takesOpening_23 : decode cX5_takesOpening 23 = .ok (.aload_n 0, 1) := by decide +kernel
theorem dX5_takesOpening_24 : decode cX5_takesOpening 24 = .ok (.dup, 1) := by decide +kernel
theorem dX5_takesOpening_25 : decode cX5_takesOpening 25 = .ok (.getfield 21, 3) := by decide +kernel
theorem dX5_takesOpening_28 : decode cX5_takesOpening 28 = .ok (.iconst 1, 1) := by decide +kernel
theorem dX5_takesOpening_29 : decode cX5_takesOpening 29 = .ok (.iadd, 1) := by decide +kernel
theorem dX5_takesOpening_30 : decode cX5_takesOpening 30 = .ok (.putfield 21, 3) := by decide +kernel
theorem dX5_takesOpening_33 : decode cX5_takesOpening 33 = .ok (.aload_n 0, 1) := by decide +kernel
theorem dX5_takesOpening_34 : decode cX5_takesOpening 34 = .ok (.iconst 0, 1) := by decide +kernel
theorem dX5_takesOpening_35 : decode cX5_takesOpening 35 = .ok (.putfield 18, 3) := by decide +kernel
theorem dX5_takesOpening_38 : decode cX5_takesOpening 38 = .ok (.iconst 1, 1) := by decide +kernel
theorem dX5_takesOpening_39 : decode cX5_takesOpening 39 = .ok (.ireturn, 1) := by decide +kernel
theorem dX5_takesClosing_0 : decode cX5_takesClosing 0 = .ok (.aload_n 0, 1) := by decide +kernel
theorem dX5_takesClosing_1 : decode cX5_takesClosing 1 = .ok (.getfield 21, 3) := by decide +kernel
theorem dX5_takesClosing_4 : decode cX5_takesClosing 4 = .ok (.ifCond .eq 10, 3) := by decide +kernel
theorem dX5_takesClosing_7 : decode cX5_takesClosing 7 = .ok (.aload_n 0, 1) := by decide +kernel
theorem dX5_takesClosing_8 : decode cX5_takesClosing 8 = .ok (.getfield 18, 3) := by decide +kernel
theorem dX5_takesClosing_11 : decode cX5_takesClosing 11 = .ok (.ifCond .ne 5, 3) := by decide +kernel
theorem dX5_takesClosing_14 : decode cX5_takesClosing 14 = .ok (.iconst 0, 1) := by decide +kernel
theorem dX5_takesClosing_15 : decode cX5_takesClosing 15 = .ok (.ireturn, 1) := by decide +kernel
theorem dX5_takesClosing_16 : decode cX5_takesClosing 16 = .ok (.aload_n 0, 1) := by decide +kernel
theorem dX5_takesClosing_17 : decode cX5_takesClosing 17 = .ok (.iconst 3, 1) := by decide +kernel
theorem dX5_takesClosing_18 : decode cX5_takesClosing 18 = .ok (.putfield 18, 3) := by decide +kernel
theorem dX5_takesClosing_21 : decode cX5_takesClosing 21 = .ok (.iconst 1, 1) := by decide +kernel
theorem dX5_takesClosing_22 : decode cX5_takesClosing 22 = .ok (.ireturn, 1) := by decide +kernel
theorem dX5_takesRounds_0 : decode cX5_takesRounds 0 = .ok (.aload_n 0, 1) := by decide +kernel
theorem dX5_takesRounds_1 : decode cX5_takesRounds 1 = .ok (.getfield 21, 3) := by decide +kernel
theorem dX5_takesRounds_4 : decode cX5_takesRounds 4 = .ok (.ifCond .eq 14, 3) := by decide +kernel
theorem dX5_takesRounds_7 : decode cX5_takesRounds 7 = .ok (.iload_n 1, 1) := by decide +kernel
theorem dX5_takesRounds_8 : decode cX5_takesRounds 8 = .ok (.bipush 49, 2) := by decide +kernel
theorem dX5_takesRounds_10 : decode cX5_takesRounds 10 = .ok (.bipush 57, 2) := by decide +kernel
theorem dX5_takesRounds_12 : decode cX5_takesRounds 12 = .ok (.invokestatic 46, 3) := by decide +kernel
theorem dX5_takesRounds_15 : decode cX5_takesRounds 15 = .ok (.ifCond .ne 5, 3) := by decide +kernel
theorem dX5_takesRounds_18 : decode cX5_takesRounds 18 = .ok (.iconst 0, 1) := by decide +kernel
theorem dX5_takesRounds_19 : decode cX5_takesRounds 19 = .ok (.ireturn, 1) := by decide +kernel
theorem dX5_takesRounds_20 : decode cX5_takesRounds 20 = .ok (.aload_n 0, 1) := by decide +kernel
theorem dX5_takesRounds_21 : decode cX5_takesRounds 21 = .ok (.dup, 1) := by decide +kernel
theorem dX5_takesRounds_22 : decode cX5_takesRounds 22 = .ok (.getfield 21, 3) := by decide +kernel
theorem dX5_takesRounds_25 : decode cX5_takesRounds 25 = .ok (.iconst 1, 1) := by decide +kernel
theorem dX5_takesRounds_26 : decode cX5_takesRounds 26 = .ok (.isub, 1) := by decide +kernel
theorem dX5_takesRounds_27 : decode cX5_takesRounds 27 = .ok (.putfield 21, 3) := by decide +kernel
theorem dX5_takesRounds_30 : decode cX5_takesRounds 30 = .ok (.aload_n 0, 1) := by decide +kernel
theorem dX5_takesRounds_31 : decode cX5_takesRounds 31 = .ok (.getfield 24, 3) := by decide +kernel
theorem dX5_takesRounds_34 : decode cX5_takesRounds 34 = .ok (.aload_n 0, 1) := by decide +kernel
theorem dX5_takesRounds_35 : decode cX5_takesRounds 35 = .ok (.getfield 21, 3) := by decide +kernel
theorem dX5_takesRounds_38 : decode cX5_takesRounds 38 = .ok (.iaload, 1) := by decide +kernel
theorem dX5_takesRounds_39 : decode cX5_takesRounds 39 = .ok (.istore_n 2, 1) := by decide +kernel
theorem dX5_takesRounds_40 : decode cX5_takesRounds 40 = .ok (.aload_n 0, 1) := by decide +kernel
theorem dX5_takesRounds_41 : decode cX5_takesRounds 41 = .ok (.getfield 15, 3) := by decide +kernel
theorem dX5_takesRounds_44 : decode cX5_takesRounds 44 = .ok (.iload_n 2, 1) := by decide +kernel
theorem dX5_takesRounds_45 : decode cX5_takesRounds 45 = .ok (.isub, 1) := by decide +kernel
theorem dX5_takesRounds_46 : decode cX5_takesRounds 46 = .ok (.iload_n 1, 1) := by decide +kernel
theorem dX5_takesRounds_47 : decode cX5_takesRounds 47 = .ok (.bipush 49, 2) := by decide +kernel
theorem dX5_takesRounds_49 : decode cX5_takesRounds 49 = .ok (.isub, 1) := by decide +kernel
theorem dX5_takesRounds_50 : decode cX5_takesRounds 50 = .ok (.imul, 1) := by decide +kernel
theorem dX5_takesRounds_51 : decode cX5_takesRounds 51 = .ok (.istore_n 3, 1) := by decide +kernel
theorem dX5_takesRounds_52 : decode cX5_takesRounds 52 = .ok (.iload_n 2, 1) := by decide +kernel
theorem dX5_takesRounds_53 : decode cX5_takesRounds 53 = .ok (.istore 4, 2) := by decide +kernel
theorem dX5_takesRounds_55 : decode cX5_takesRounds 55 = .ok (.iload 4, 2) := by decide +kernel
theorem dX5_takesRounds_57 : decode cX5_takesRounds 57 = .ok (.iload_n 2, 1) := by decide +kernel
theorem dX5_takesRounds_58 : decode cX5_takesRounds 58 = .ok (.iload_n 3, 1) := by decide +kernel
theorem dX5_takesRounds_59 : decode cX5_takesRounds 59 = .ok (.iadd, 1) := by decide +kernel
theorem dX5_takesRounds_60 : decode cX5_takesRounds 60 = .ok (.if_icmp .ge 45, 3) := by decide +kernel
theorem dX5_takesRounds_63 : decode cX5_takesRounds 63 = .ok (.aload_n 0, 1) := by decide +kernel
theorem dX5_takesRounds_64 : decode cX5_takesRounds 64 = .ok (.getfield 15, 3) := by decide +kernel
theorem dX5_takesRounds_67 : decode cX5_takesRounds 67 = .ok (.sipush 200, 3) := by decide +kernel
theorem dX5_takesRounds_70 : decode cX5_takesRounds 70 = .ok (.if_icmp .gt 35, 3) := by decide +kernel
theorem dX5_takesRounds_73 : decode cX5_takesRounds 73 = .ok (.iload 4, 2) := by decide +kernel
theorem dX5_takesRounds_75 : decode cX5_takesRounds 75 = .ok (.sipush 200, 3) := by decide +kernel
theorem dX5_takesRounds_78 : decode cX5_takesRounds 78 = .ok (.if_icmp .ge 27, 3) := by decide +kernel
theorem dX5_takesRounds_81 : decode cX5_takesRounds 81 = .ok (.aload_n 0, 1) := by decide +kernel
theorem dX5_takesRounds_82 : decode cX5_takesRounds 82 = .ok (.aload_n 0, 1) := by decide +kernel
theorem dX5_takesRounds_83 : decode cX5_takesRounds 83 = .ok (.getfield 28, 3) := by decide +kernel
theorem dX5_takesRounds_86 : decode cX5_takesRounds 86 = .ok (.iload 4, 2) := by decide +kernel
theorem dX5_takesRounds_88 : decode cX5_takesRounds 88 = .ok (.iaload, 1) := by decide +kernel
theorem dX5_takesRounds_89 : decode cX5_takesRounds 89 = .ok (.aload_n 0, 1) := by decide +kernel
theorem dX5_takesRounds_90 : decode cX5_takesRounds 90 = .ok (.getfield 31, 3) := by decide +kernel
theorem dX5_takesRounds_93 : decode cX5_takesRounds 93 = .ok (.iload 4, 2) := by decide +kernel
theorem dX5_takesRounds_95 : decode cX5_takesRounds 95 = .ok (.iaload, 1) := by decide +kernel
theorem dX5_takesRounds_96 : decode cX5_takesRounds 96 = .ok (.invokevirtual 73, 3) := by decide +kernel
theorem dX5_takesRounds_99 : decode cX5_takesRounds 99 = .ok (.iinc 4 1, 3) := by decide +kernel
theorem dX5_takesRounds_102 : decode cX5_takesRounds 102 = .ok (.goto (-47), 3) := by decide +kernel
theorem dX5_takesRounds_105 : decode cX5_takesRounds 105 = .ok (.aload_n 0, 1) := by decide +kernel
theorem dX5_takesRounds_106 : decode cX5_takesRounds 106 = .ok (.iconst 2, 1) := by decide +kernel
theorem dX5_takesRounds_107 : decode cX5_takesRounds 107 = .ok (.putfield 18, 3) := by decide +kernel
theorem dX5_takesRounds_110 : decode cX5_takesRounds 110 = .ok (.iconst 1, 1) := by decide +kernel
theorem dX5_takesRounds_111 : decode cX5_takesRounds 111 = .ok (.ireturn, 1) := by decide +kernel
theorem dX5_takesKind_0 : decode cX5_takesKind 0 = .ok (.aload_n 0, 1) := by decide +kernel
theorem dX5_takesKind_1 : decode cX5_takesKind 1 = .ok (.getfield 18, 3) := by decide +kernel
theorem dX5_takesKind_4 : decode cX5_takesKind 4 = .ok (.iconst 1, 1) := by decide +kernel
theorem dX5_takesKind_5 : decode cX5_takesKind 5 = .ok (.if_icmp .ne 10, 3) := by decide +kernel
theorem dX5_takesKind_8 : decode cX5_takesKind 8 = .ok (.iload_n 1, 1) := by decide +kernel
theorem dX5_takesKind_9 : decode cX5_takesKind 9 = .ok (.invokestatic 77, 3) := by decide +kernel
theorem dX5_takesKind_12 : decode cX5_takesKind 12 = .ok (.ifCond .ne 5, 3) := by decide +kernel
theorem dX5_takesKind_15 : decode cX5_takesKind 15 = .ok (.iconst 0, 1) := by decide +kernel
theorem dX5_takesKind_16 : decode cX5_takesKind 16 = .ok (.ireturn, 1) := by decide +kernel
theorem dX5_takesKind_17 : decode cX5_takesKind 17 = .ok (.aload_n 0, 1) := by decide +kernel
theorem dX5_takesKind_18 : decode cX5_takesKind 18 = .ok (.getfield 15, 3) := by decide +kernel
theorem dX5_takesKind_21 : decode cX5_takesKind 21 = .ok (.iconst 1, 1) := by decide +kernel
theorem dX5_takesKind_22 : decode cX5_takesKind 22 = .ok (.sipush 200, 3) := by decide +kernel
theorem dX5_takesKind_25 : decode cX5_takesKind 25 = .ok (.invokestatic 46, 3) := by decide +kernel
theorem dX5_takesKind_28 : decode cX5_takesKind 28 = .ok (.ifCond .eq 15, 3) := by decide +kernel
theorem dX5_takesKind_31 : decode cX5_takesKind 31 = .ok (.aload_n 0, 1) := by decide +kernel
theorem dX5_takesKind_32 : decode cX5_takesKind 32 = .ok (.getfield 31, 3) := by decide +kernel
theorem dX5_takesKind_35 : decode cX5_takesKind 35 = .ok (.aload_n 0, 1) := by decide +kernel
theorem dX5_takesKind_36 : decode cX5_takesKind 36 = .ok (.getfield 15, 3) := by decide +kernel
theorem dX5_takesKind_39 : decode cX5_takesKind 39 = .ok (.iconst 1, 1) := by decide +kernel
theorem dX5_takesKind_40 : decode cX5_takesKind 40 = .ok (.isub, 1) := by decide +kernel
theorem dX5_takesKind_41 : decode cX5_takesKind 41 = .ok (.iload_n 1, 1) := by decide +kernel
theorem dX5_takesKind_42 : decode cX5_takesKind 42 = .ok (.iastore, 1) := by decide +kernel
theorem dX5_takesKind_43 : decode cX5_takesKind 43 = .ok (.aload_n 0, 1) := by decide +kernel
theorem dX5_takesKind_44 : decode cX5_takesKind 44 = .ok (.iconst 2, 1) := by decide +kernel
theorem dX5_takesKind_45 : decode cX5_takesKind 45 = .ok (.putfield 18, 3) := by decide +kernel
theorem dX5_takesKind_48 : decode cX5_takesKind 48 = .ok (.iconst 1, 1) := by decide +kernel
theorem dX5_takesKind_49 : decode cX5_takesKind 49 = .ok (.ireturn, 1) := by decide +kernel
theorem dX5_takesLetter_0 : decode cX5_takesLetter 0 = .ok (.aload_n 2, 1) := by decide +kernel
theorem dX5_takesLetter_1 : decode cX5_takesLetter 1 = .ok (.iload_n 1, 1) := by decide +kernel
theorem dX5_takesLetter_2 : decode cX5_takesLetter 2 = .ok (.invokevirtual 80, 3) := by decide +kernel
theorem dX5_takesLetter_5 : decode cX5_takesLetter 5 = .ok (.ifCond .ne 5, 3) := by decide +kernel
theorem dX5_takesLetter_8 : decode cX5_takesLetter 8 = .ok (.iconst 0, 1) := by decide +kernel
theorem dX5_takesLetter_9 : decode cX5_takesLetter 9 = .ok (.ireturn, 1) := by decide +kernel
theorem dX5_takesLetter_10 : decode cX5_takesLetter 10 = .ok (.aload_n 0, 1) := by decide +kernel
theorem dX5_takesLetter_11 : decode cX5_takesLetter 11 = .ok (.iload_n 1, 1) := by decide +kernel
theorem dX5_takesLetter_12 : decode cX5_takesLetter 12 = .ok (.iconst 0, 1) := by decide +kernel
theorem dX5_takesLetter_13 : decode cX5_takesLetter 13 = .ok (.invokevirtual 73, 3) := by decide +kernel
theorem dX5_takesLetter_16 : decode cX5_takesLetter 16 = .ok (.aload_n 0, 1) := by decide +kernel
theorem dX5_takesLetter_17 : decode cX5_takesLetter 17 = .ok (.iconst 1, 1) := by decide +kernel
theorem dX5_takesLetter_18 : decode cX5_takesLetter 18 = .ok (.putfield 18, 3) := by decide +kernel
theorem dX5_takesLetter_21 : decode cX5_takesLetter 21 = .ok (.iconst 1, 1) := by decide +kernel
theorem dX5_takesLetter_22 : decode cX5_takesLetter 22 = .ok (.ireturn, 1) := by decide +kernel
theorem dX5_addStep_0 : decode cX5_addStep 0 = .ok (.aload_n 0, 1) := by decide +kernel
theorem dX5_addStep_1 : decode cX5_addStep 1 = .ok (.getfield 15, 3) := by decide +kernel
theorem dX5_addStep_4 : decode cX5_addStep 4 = .ok (.sipush 200, 3) := by decide +kernel
theorem dX5_addStep_7 : decode cX5_addStep 7 = .ok (.if_icmp .ge 23, 3) := by decide +kernel
theorem dX5_addStep_10 : decode cX5_addStep 10 = .ok (.aload_n 0, 1) := by decide +kernel
theorem dX5_addStep_11 : decode cX5_addStep 11 = .ok (.getfield 28, 3) := by decide +kernel
theorem dX5_addStep_14 : decode cX5_addStep 14 = .ok (.aload_n 0, 1) := by decide +kernel
theorem dX5_addStep_15 : decode cX5_addStep 15 = .ok (.getfield 15, 3) := by decide +kernel
theorem dX5_addStep_18 : decode cX5_addStep 18 = .ok (.iload_n 1, 1) := by decide +kernel
theorem dX5_addStep_19 : decode cX5_addStep 19 = .ok (.iastore, 1) := by decide +kernel
theorem dX5_addStep_20 : decode cX5_addStep 20 = .ok (.aload_n 0, 1) := by decide +kernel
theorem dX5_addStep_21 : decode cX5_addStep 21 = .ok (.getfield 31, 3) := by decide +kernel
theorem dX5_addStep_24 : decode cX5_addStep 24 = .ok (.aload_n 0, 1) := by decide +kernel
theorem dX5_addStep_25 : decode cX5_addStep 25 = .ok (.getfield 15, 3) := by decide +kernel
theorem dX5_addStep_28 : decode cX5_addStep 28 = .ok (.iload_n 2, 1) := by decide +kernel
theorem dX5_addStep_29 : decode cX5_addStep 29 = .ok (.iastore, 1) := by decide +kernel
theorem dX5_addStep_30 : decode cX5_addStep 30 = .ok (.aload_n 0, 1) := by decide +kernel
theorem dX5_addStep_31 : decode cX5_addStep 31 = .ok (.aload_n 0, 1) := by decide +kernel
theorem dX5_addStep_32 : decode cX5_addStep 32 = .ok (.getfield 15, 3) := by decide +kernel
theorem dX5_addStep_35 : decode cX5_addStep 35 = .ok (.iconst 1, 1) := by decide +kernel
theorem dX5_addStep_36 : decode cX5_addStep 36 = .ok (.iadd, 1) := by decide +kernel
theorem dX5_addStep_37 : decode cX5_addStep 37 = .ok (.sipush 201, 3) := by decide +kernel
theorem dX5_addStep_40 : decode cX5_addStep 40 = .ok (.invokestatic 83, 3) := by decide +kernel
theorem dX5_addStep_43 : decode cX5_addStep 43 = .ok (.putfield 15, 3) := by decide +kernel
theorem dX5_addStep_46 : decode cX5_addStep 46 = .ok (.return_, 1) := by decide +kernel
theorem dX6_init_0 : decode cX6_init 0 = .ok (.aload_n 0, 1) := by decide +kernel
theorem dX6_init_1 : decode cX6_init 1 = .ok (.invokespecial 3, 3) := by decide +kernel
theorem dX6_init_4 : decode cX6_init 4 = .ok (.aload_n 0, 1) := by decide +kernel
theorem dX6_init_5 : decode cX6_init 5 = .ok (.iconst 4, 1) := by decide +kernel
theorem dX6_init_6 : decode cX6_init 6 = .ok (.newarray .int, 2) := by decide +kernel
theorem dX6_init_8 : decode cX6_init 8 = .ok (.putfield 9, 3) := by decide +kernel
theorem dX6_init_11 : decode cX6_init 11 = .ok (.aload_n 0, 1) := by decide +kernel
theorem dX6_init_12 : decode cX6_init 12 = .ok (.iconst 4, 1) := by decide +kernel
theorem dX6_init_13 : decode cX6_init 13 = .ok (.newarray .int, 2) := by decide +kernel
theorem dX6_init_15 : decode cX6_init 15 = .ok (.putfield 15, 3) := by decide +kernel
theorem dX6_init_18 : decode cX6_init 18 = .ok (.aload_n 0, 1) := by decide +kernel
theorem dX6_init_19 : decode cX6_init 19 = .ok (.iconst 5, 1) := by decide +kernel
theorem dX6_init_20 : decode cX6_init 20 = .ok (.anewarray 18, 3) := by decide +kernel
theorem dX6_init_23 : decode cX6_init 23 = .ok (.putfield 20, 3) := by decide +kernel
theorem dX6_init_26 : decode cX6_init 26 = .ok (.aload_n 0, 1) := by decide +kernel
theorem dX6_init_27 : decode cX6_init 27 = .ok (.iconst 0, 1) := by decide +kernel
theorem dX6_init_28 : decode cX6_init 28 = .ok (.putfield 24, 3) := by decide +kernel
theorem dX6_init_31 : decode cX6_init 31 = .ok (.aload_n 0, 1) := by decide +kernel
theorem dX6_init_32 : decode cX6_init 32 = .ok (.iconst 0, 1) := by decide +kernel
theorem dX6_init_33 : decode cX6_init 33 = .ok (.putfield 28, 3) := by decide +kernel
theorem dX6_init_36 : decode cX6_init 36 = .ok (.iconst 0, 1) := by decide +kernel
theorem dX6_init_37 : decode cX6_init 37 = .ok (.istore_n 1, 1) := by decide +kernel
theorem dX6_init_38 : decode cX6_init 38 = .ok (.iload_n 1, 1) := by decide +kernel
theorem dX6_init_39 : decode cX6_init 39 = .ok (.aload_n 0, 1) := by decide +kernel
theorem dX6_init_40 : decode cX6_init 40 = .ok (.getfield 20, 3) := by decide +kernel
theorem dX6_init_43 : decode cX6_init 43 = .ok (.arraylength, 1) := by decide +kernel
theorem dX6_init_44 : decode cX6_init 44 = .ok (.if_icmp .ge 22, 3) := by decide +kernel
theorem dX6_init_47 : decode cX6_init 47 = .ok (.aload_n 0, 1) := by decide +kernel
theorem dX6_init_48 : decode cX6_init 48 = .ok (.getfield 20, 3) := by decide +kernel
theorem dX6_init_51 : decode cX6_init 51 = .ok (.iload_n 1, 1) := by decide +kernel
theorem dX6_init_52 : decode cX6_init 52 = .ok (.new 18, 3) := by decide +kernel
theorem dX6_init_55 : decode cX6_init 55 = .ok (.dup, 1) := by decide +kernel
theorem dX6_init_56 : decode cX6_init 56 = .ok (.invokespecial 31, 3) := by decide +kernel
theorem dX6_init_59 : decode cX6_init 59 = .ok (.aastore, 1) := by decide +kernel
theorem dX6_init_60 : decode cX6_init 60 = .ok (.iinc 1 1, 3) := by decide +kernel
theorem dX6_init_63 : decode cX6_init 63 = .ok (.goto (-25), 3) := by decide +kernel
theorem dX6_init_66 : decode cX6_init 66 = .ok (.return_, 1) := by decide +kernel
theorem dX6_begin_0 : decode cX6_begin 0 = .ok (.iload_n 3, 1) := by decide +kernel
theorem dX6_begin_1 : decode cX6_begin 1 = .ok (.iconst 0, 1) := by decide +kernel
theorem dX6_begin_2 : decode cX6_begin 2 = .ok (.iconst 4, 1) := by decide +kernel
theorem dX6_begin_3 : decode cX6_begin 3 = .ok (.invokestatic 32, 3) := by decide +kernel
theorem dX6_begin_6 : decode cX6_begin 6 = .ok (.ifCond .ne 5, 3) := by decide +kernel
theorem dX6_begin_9 : decode cX6_begin 9 = .ok (.iconst 0, 1) := by decide +kernel
theorem dX6_begin_10 : decode cX6_begin 10 = .ok (.ireturn, 1) := by decide +kernel
theorem dX6_begin_11 : decode cX6_begin 11 = .ok (.aload_n 0, 1) := by decide +kernel
theorem dX6_begin_12 : decode cX6_begin 12 = .ok (.iload_n 3, 1) := by decide +kernel
theorem dX6_begin_13 : decode cX6_begin 13 = .ok (.putfield 24, 3) := by decide +kernel
theorem dX6_begin_16 : decode cX6_begin 16 = .ok (.aload_n 0, 1) := by decide +kernel
theorem dX6_begin_17 : decode cX6_begin 17 = .ok (.iload_n 2, 1) := by decide +kernel
theorem dX6_begin_18 : decode cX6_begin 18 = .ok (.putfield 28, 3) := by decide +kernel
theorem dX6_begin_21 : decode cX6_begin 21 = .ok (.aload_n 0, 1) := by decide +kernel
theorem dX6_begin_22 : decode cX6_begin 22 = .ok (.getfield 20, 3) := by decide +kernel
theorem dX6_begin_25 : decode cX6_begin 25 = .ok (.iconst 0, 1) := by decide +kernel
theorem dX6_begin_26 : decode cX6_begin 26 = .ok (.aaload, 1) := by decide +kernel
theorem dX6_begin_27 : decode cX6_begin 27 = .ok (.aload_n 1, 1) := by decide +kernel
theorem dX6_begin_28 : decode cX6_begin 28 = .ok (.getfield 36, 3) := by decide +kernel
theorem dX6_begin_31 : decode cX6_begin 31 = .ok (.invokevirtual 42, 3) := by decide +kernel
theorem dX6_begin_34 : decode cX6_begin 34 = .ok (.aload_n 1, 1) := by decide +kernel
theorem dX6_begin_35 : decode cX6_begin 35 = .ok (.getfield 46, 3) := by decide +kernel
theorem dX6_begin_38 : decode cX6_begin 38 = .ok (.iconst (-1), 1) := by decide +kernel
theorem dX6_begin_39 : decode cX6_begin 39 = .ok (.invokevirtual 50, 3) := by decide +kernel
theorem dX6_begin_42 : decode cX6_begin 42 = .ok (.istore 4, 2) := by decide +kernel
theorem dX6_begin_44 : decode cX6_begin 44 = .ok (.aload_n 0, 1) := by decide +kernel
theorem dX6_begin_45 : decode cX6_begin 45 = .ok (.getfield 24, 3) := by decide +kernel
theorem dX6_begin_48 : decode cX6_begin 48 = .ok (.ifCond .le 11, 3) := by decide +kernel
theorem dX6_begin_51 : decode cX6_begin 51 = .ok (.iload 4, 2) := by decide +kernel
theorem dX6_begin_53 : decode cX6_begin 53 = .ok (.iconst (-1), 1) := by decide +kernel
theorem dX6_begin_54 : decode cX6_begin 54 = .ok (.if_icmp .ne 5, 3) := by decide +kernel
theorem dX6_begin_57 : decode cX6_begin 57 = .ok (.iconst 0, 1) := by decide +kernel
theorem dX6_begin_58 : decode cX6_begin 58 = .ok (.ireturn, 1) := by decide +kernel
theorem dX6_begin_59 : decode cX6_begin 59 = .ok (.aload_n 0, 1) := by decide +kernel
theorem dX6_begin_60 : decode cX6_begin 60 = .ok (.getfield 9, 3) := by decide +kernel
theorem dX6_begin_63 : decode cX6_begin 63 = .ok (.iload 4, 2) := by decide +kernel
theorem dX6_begin_65 : decode cX6_begin 65 = .ok (.invokestatic 56, 3) := by decide +kernel
theorem dX6_begin_68 : decode cX6_begin 68 = .ok (.aload_n 0, 1) := by decide +kernel
theorem dX6_begin_69 : decode cX6_begin 69 = .ok (.iconst 0, 1) := by decide +kernel
theorem dX6_begin_70 : decode cX6_begin 70 = .ok (.aload_n 1, 1) := by decide +kernel
theorem dX6_begin_71 : decode cX6_begin 71 = .ok (.getfield 46, 3) := by decide +kernel
theorem dX6_begin_74 : decode cX6_begin 74 = .ok (.invokevirtual 62, 3) := by decide +kernel
theorem dX6_begin_77 : decode cX6_begin 77 = .ok (.iconst 1, 1) := by decide +kernel
theorem dX6_begin_78 : decode cX6_begin 78 = .ok (.ireturn, 1) := by decide +kernel
theorem dX6_goOn_0 : decode cX6_goOn 0 = .ok (.aload_n 0, 1) := by decide +kernel
theorem dX6_goOn_1 : decode cX6_goOn 1 = .ok (.getfield 24, 3) := by decide +kernel
theorem dX6_goOn_4 : decode cX6_goOn 4 = .ok (.iconst 1, 1) := by decide +kernel
theorem dX6_goOn_5 : decode cX6_goOn 5 = .ok (.isub, 1) := by decide +kernel
theorem dX6_goOn_6 : decode cX6_goOn 6 = .ok (.istore_n 2, 1) := by decide +kernel
theorem dX6_goOn_7 : decode cX6_goOn 7 = .ok (.iload_n 2, 1) := by decide +kernel
theorem dX6_goOn_8 : decode cX6_goOn 8 = .ok (.ifCond .lt 59, 3) := by decide +kernel
theorem dX6_goOn_11 : decode cX6_goOn 11 = .ok (.aload_n 1, 1) := by decide +kernel
theorem dX6_goOn_12 : decode cX6_goOn 12 = .ok (.aload_n 0, 1) := by decide +kernel
theorem dX6_goOn_13 : decode cX6_goOn 13 = .ok (.getfield 9, 3) := by decide +kernel
theorem dX6_goOn_16 : decode cX6_goOn 16 = .ok (.iload_n 2, 1) := by decide +kernel
theorem dX6_goOn_17 : decode cX6_goOn 17 = .ok (.iaload, 1) := by decide +kernel
theorem dX6_goOn_18 : decode cX6_goOn 18 = .ok (.invokevirtual 50, 3) := by decide +kernel
theorem dX6_goOn_21 : decode cX6_goOn 21 = .ok (.istore_n 3, 1) := by decide +kernel
theorem dX6_goOn_22 : decode cX6_goOn 22 = .ok (.iload_n 3, 1) := by decide +kernel
theorem dX6_goOn_23 : decode cX6_goOn 23 = .ok (.iconst (-1), 1) := by decide +kernel
theorem dX6_goOn_24 : decode cX6_goOn 24 = .ok (.if_icmp .eq 37, 3) := by decide +kernel
theorem dX6_goOn_27 : decode cX6_goOn 27 = .ok (.aload_n 0, 1) := by decide +kernel
theorem dX6_goOn_28 : decode cX6_goOn 28 = .ok (.getfield 9, 3) := by decide +kernel
theorem dX6_goOn_31 : decode cX6_goOn 31 = .ok (.iload_n 2, 1) := by decide +kernel
theorem dX6_goOn_32 : decode cX6_goOn 32 = .ok (.iload_n 3, 1) := by decide +kernel
theorem dX6_goOn_33 : decode cX6_goOn 33 = .ok (.iastore, 1) := by decide +kernel
theorem dX6_goOn_34 : decode cX6_goOn 34 = .ok (.aload_n 0, 1) := by decide +kernel
theorem dX6_goOn_35 : decode cX6_goOn 35 = .ok (.getfield 9, 3) := by decide +kernel
theorem dX6_goOn_38 : decode cX6_goOn 38 = .ok (.iload_n 2, 1) := by decide +kernel
theorem dX6_goOn_39 : decode cX6_goOn 39 = .ok (.iconst 1, 1) := by decide +kernel
theorem dX6_goOn_40 : decode cX6_goOn 40 = .ok (.iadd, 1) := by decide +kernel
theorem dX6_goOn_41 : decode cX6_goOn 41 = .ok (.aload_n 0, 1) := by decide +kernel
theorem dX6_goOn_42 : decode cX6_goOn 42 = .ok (.getfield 24, 3) := by decide +kernel
theorem dX6_goOn_45 : decode cX6_goOn 45 = .ok (.aload_n 1, 1) := by decide +kernel
theorem dX6_goOn_46 : decode cX6_goOn 46 = .ok (.iconst (-1), 1) := by decide +kernel
theorem dX6_goOn_47 : decode cX6_goOn 47 = .ok (.invokevirtual 50, 3) := by decide +kernel
theorem dX6_goOn_50 : decode cX6_goOn 50 = .ok (.invokestatic 66, 3) := by decide +kernel
theorem dX6_goOn_53 : decode cX6_goOn 53 = .ok (.aload_n 0, 1) := by decide +kernel
theorem dX6_goOn_54 : decode cX6_goOn 54 = .ok (.iload_n 2, 1) := by decide +kernel
theorem dX6_goOn_55 : decode cX6_goOn 55 = .ok (.aload_n 1, 1) := by decide +kernel
theorem dX6_goOn_56 : decode cX6_goOn 56 = .ok (.invokevirtual 62, 3) := by decide +kernel
theorem dX6_goOn_59 : decode cX6_goOn 59 = .ok (.iconst 1, 1) := by decide +kernel
theorem dX6_goOn_60 : decode cX6_goOn 60 = .ok (.ireturn, 1) := by decide +kernel
theorem dX6_goOn_61 : decode cX6_goOn 61 = .ok (.iinc 2 (-1), 3) := by decide +kernel
theorem dX6_goOn_64 : decode cX6_goOn 64 = .ok (.goto (-57), 3) := by decide +kernel
theorem dX6_goOn_67 : decode cX6_goOn 67 = .ok (.iconst 0, 1) := by decide +kernel
theorem dX6_goOn_68 : decode cX6_goOn 68 = .ok (.ireturn, 1) := by decide +kernel
theorem dX6_goFrom_0 : decode cX6_goFrom 0 = .ok (.iload_n 1, 1) := by decide +kernel
theorem dX6_goFrom_1 : decode cX6_goFrom 1 = .ok (.istore_n 3, 1) := by decide +kernel
theorem dX6_goFrom_2 : decode cX6_goFrom 2 = .ok (.iload_n 3, 1) := by decide +kernel
theorem dX6_goFrom_3 : decode cX6_goFrom 3 = .ok (.aload_n 0, 1) := by decide +kernel
theorem dX6_goFrom_4 : decode cX6_goFrom 4 = .ok (.getfield 24, 3) := by decide +kernel
theorem dX6_goFrom_7 : decode cX6_goFrom 7 = .ok (.if_icmp .ge 48, 3) := by decide +kernel
theorem dX6_goFrom_10 : decode cX6_goFrom 10 = .ok (.aload_n 0, 1) := by decide +kernel
theorem dX6_goFrom_11 : decode cX6_goFrom 11 = .ok (.getfield 20, 3) := by decide +kernel
theorem dX6_goFrom_14 : decode cX6_goFrom 14 = .ok (.iload_n 3, 1) := by decide +kernel
theorem dX6_goFrom_15 : decode cX6_goFrom 15 = .ok (.iconst 1, 1) := by decide +kernel
theorem dX6_goFrom_16 : decode cX6_goFrom 16 = .ok (.iadd, 1) := by decide +kernel
theorem dX6_goFrom_17 : decode cX6_goFrom 17 = .ok (.aaload, 1) := by decide +kernel
theorem dX6_goFrom_18 : decode cX6_goFrom 18 = .ok (.aload_n 0, 1) := by decide +kernel
theorem dX6_goFrom_19 : decode cX6_goFrom 19 = .ok (.getfield 20, 3) := by decide +kernel
theorem dX6_goFrom_22 : decode cX6_goFrom 22 = .ok (.iload_n 3, 1) := by decide +kernel
theorem dX6_goFrom_23 : decode cX6_goFrom 23 = .ok (.aaload, 1) := by decide +kernel
theorem dX6_goFrom_24 : decode cX6_goFrom 24 = .ok (.invokevirtual 42, 3) := by decide +kernel
theorem dX6_goFrom_27 : decode cX6_goFrom 27 = .ok (.aload_n 2, 1) := by decide +kernel
theorem dX6_goFrom_28 : decode cX6_goFrom 28 = .ok (.aload_n 0, 1) := by decide +kernel
theorem dX6_goFrom_29 : decode cX6_goFrom 29 = .ok (.getfield 20, 3) := by decide +kernel
theorem dX6_goFrom_32 : decode cX6_goFrom 32 = .ok (.iload_n 3, 1) := by decide +kernel
theorem dX6_goFrom_33 : decode cX6_goFrom 33 = .ok (.iconst 1, 1) := by decide +kernel
theorem dX6_goFrom_34 : decode cX6_goFrom 34 = .ok (.iadd, 1) := by decide +kernel
theorem dX6_goFrom_35 : decode cX6_goFrom 35 = .ok (.aaload, 1) := by decide +kernel
theorem dX6_goFrom_36 : decode cX6_goFrom 36 = .ok (.aload_n 0, 1) := by decide +kernel
theorem dX6_goFrom_37 : decode cX6_goFrom 37 = .ok (.getfield 28, 3) := by decide +kernel
theorem dX6_goFrom_40 : decode cX6_goFrom 40 = .ok (.aload_n 0, 1) := by decide +kernel
theorem dX6_goFrom_41 : decode cX6_goFrom 41 = .ok (.getfield 9, 3) := by decide +kernel
theorem dX6_goFrom_44 : decode cX6_goFrom 44 = .ok (.iload_n 3, 1) := by decide +kernel
theorem dX6_goFrom_45 : decode cX6_goFrom 45 = .ok (.iaload, 1) := by decide +kernel
theorem dX6_goFrom_46 : decode cX6_goFrom 46 = .ok (.invokevirtual 69, 3) := by decide +kernel
theorem dX6_goFrom_49 : decode cX6_goFrom 49 = .ok (.iinc 3 1, 3) := by decide +kernel
theorem dX6_goFrom_52 : decode cX6_goFrom 52 = .ok (.goto (-50), 3) := by decide +kernel
theorem dX6_goFrom_55 : decode cX6_goFrom 55 = .ok (.return_, 1) := by decide +kernel
theorem dX6_keepFirst_0 : decode cX6_keepFirst 0 = .ok (.aload_n 0, 1) := by decide +kernel
theorem dX6_keepFirst_1 : decode cX6_keepFirst 1 = .ok (.getfield 9, 3) := by decide +kernel
theorem dX6_keepFirst_4 : decode cX6_keepFirst 4 = .ok (.iconst 0, 1) := by decide +kernel
theorem dX6_keepFirst_5 : decode cX6_keepFirst 5 = .ok (.aload_n 0, 1) := by decide +kernel
theorem dX6_keepFirst_6 : decode cX6_keepFirst 6 = .ok (.getfield 15, 3) := by decide +kernel
theorem dX6_keepFirst_9 : decode cX6_keepFirst 9 = .ok (.iconst 0, 1) := by decide +kernel
theorem dX6_keepFirst_10 : decode cX6_keepFirst 10 = .ok (.iconst 4, 1) := by decide +kernel
theorem dX6_keepFirst_11 : decode cX6_keepFirst 11 = .ok (.invokestatic 73, 3) := by decide +kernel
theorem dX6_keepFirst_14 : decode cX6_keepFirst 14 = .ok (.return_, 1) := by decide +kernel
theorem dX7_init_0 : decode cX7_init 0 = .ok (.aload_n 0, 1) := by decide +kernel
theorem dX7_init_1 : decode cX7_init 1 = .ok (.invokespecial 3, 3) := by decide +kernel
theorem dX7_init_4 : decode cX7_init 4 = .ok (.aload_n 0, 1) := by decide +kernel
theorem dX7_init_5 : decode cX7_init 5 = .ok (.iconst 0, 1) := by decide +kernel
theorem dX7_init_6 : decode cX7_init 6 = .ok (.putfield 9, 3) := by decide +kernel
theorem dX7_init_9 : decode cX7_init 9 = .ok (.aload_n 0, 1) := by decide +kernel
theorem dX7_init_10 : decode cX7_init 10 = .ok (.bipush 6, 2) := by decide +kernel
theorem dX7_init_12 : decode cX7_init 12 = .ok (.newarray .int, 2) := by decide +kernel
theorem dX7_init_14 : decode cX7_init 14 = .ok (.putfield 15, 3) := by decide +kernel
theorem dX7_init_17 : decode cX7_init 17 = .ok (.aload_n 0, 1) := by decide +kernel
theorem dX7_init_18 : decode cX7_init 18 = .ok (.bipush 6, 2) := by decide +kernel
theorem dX7_init_20 : decode cX7_init 20 = .ok (.newarray .int, 2) := by decide +kernel
theorem dX7_init_22 : decode cX7_init 22 = .ok (.putfield 19, 3) := by decide +kernel
theorem dX7_init_25 : decode cX7_init 25 = .ok (.aload_n 0, 1) := by decide +kernel
theorem dX7_init_26 : decode cX7_init 26 = .ok (.iconst 4, 1) := by decide +kernel
theorem dX7_init_27 : decode cX7_init 27 = .ok (.newarray .int, 2) := by decide +kernel
theorem dX7_init_29 : decode cX7_init 29 = .ok (.putfield 22, 3) := by decide +kernel
theorem dX7_init_32 : decode cX7_init 32 = .ok (.aload_n 0, 1) := by decide +kernel
theorem dX7_init_33 : decode cX7_init 33 = .ok (.invokevirtual 25, 3) := by decide +kernel
theorem dX7_init_36 : decode cX7_init 36 = .ok (.return_, 1) := by decide +kernel
theorem dX7_empty_0 : decode cX7_empty 0 = .ok (.aload_n 0, 1) := by decide +kernel
theorem dX7_empty_1 : decode cX7_empty 1 = .ok (.iconst 0, 1) := by decide +kernel
theorem dX7_empty_2 : decode cX7_empty 2 = .ok (.putfield 9, 3) := by decide +kernel
theorem dX7_empty_5 : decode cX7_empty 5 = .ok (.aload_n 0, 1) := by decide +kernel
theorem dX7_empty_6 : decode cX7_empty 6 = .ok (.getfield 22, 3) := by decide +kernel
theorem dX7_empty_9 : decode cX7_empty 9 = .ok (.iconst (-1), 1) := by decide +kernel
theorem dX7_empty_10 : decode cX7_empty 10 = .ok (.invokestatic 28, 3) := by decide +kernel
theorem dX7_empty_13 : decode cX7_empty 13 = .ok (.return_, 1) := by decide +kernel
theorem dX7_addPlace_0 : decode cX7_addPlace 0 = .ok (.aload_n 0, 1) := by decide +kernel
theorem dX7_addPlace_1 : decode cX7_addPlace 1 = .ok (.getfield 15, 3) := by decide +kernel
theorem dX7_addPlace_4 : decode cX7_addPlace 4 = .ok (.aload_n 0, 1) := by decide +kernel
theorem dX7_addPlace_5 : decode cX7_addPlace 5 = .ok (.getfield 9, 3) := by decide +kernel
theorem dX7_addPlace_8 : decode cX7_addPlace 8 = .ok (.iload_n 1, 1) := by decide +kernel
theorem dX7_addPlace_9 : decode cX7_addPlace 9 = .ok (.iastore, 1) := by decide +kernel
theorem dX7_addPlace_10 : decode cX7_addPlace 10 = .ok (.aload_n 0, 1) := by decide +kernel
theorem dX7_addPlace_11 : decode cX7_addPlace 11 = .ok (.getfield 19, 3) := by decide +kernel
theorem dX7_addPlace_14 : decode cX7_addPlace 14 = .ok (.aload_n 0, 1) := by decide +kernel
theorem dX7_addPlace_15 : decode cX7_addPlace 15 = .ok (.getfield 9, 3) := by decide +kernel
theorem dX7_addPlace_18 : decode cX7_addPlace 18 = .ok (.iconst (-1), 1) := by decide +kernel
theorem dX7_addPlace_19 : decode cX7_addPlace 19 = .ok (.iastore, 1) := by decide +kernel
theorem dX7_addPlace_20 : decode cX7_addPlace 20 = .ok (.aload_n 0, 1) := by decide +kernel
theorem dX7_addPlace_21 : decode cX7_addPlace 21 = .ok (.dup, 1) := by decide +kernel
theorem dX7_addPlace_22 : decode cX7_addPlace 22 = .ok (.getfield 9, 3) := by decide +kernel
theorem dX7_addPlace_25 : decode cX7_addPlace 25 = .ok (.iconst 1, 1) := by decide +kernel
theorem dX7_addPlace_26 : decode cX7_addPlace 26 = .ok (.iadd, 1) := by decide +kernel
theorem dX7_addPlace_27 : decode cX7_addPlace 27 = .ok (.putfield 9, 3) := by decide +kernel
theorem dX7_addPlace_30 : decode cX7_addPlace 30 = .ok (.aload_n 0, 1) := by decide +kernel
theorem dX7_addPlace_31 : decode cX7_addPlace 31 = .ok (.getfield 9, 3) := by decide +kernel
theorem dX7_addPlace_34 : decode cX7_addPlace 34 = .ok (.iconst 1, 1) := by decide +kernel
theorem dX7_addPlace_35 : decode cX7_addPlace 35 = .ok (.isub, 1) := by decide +kernel
theorem dX7_addPlace_36 : decode cX7_addPlace 36 = .ok (.ireturn, 1) := by decide +kernel
theorem dX7_copyFrom_0 : decode cX7_copyFrom 0 = .ok (.aload_n 0, 1) := by decide +kernel
theorem dX7_copyFrom_1 : decode cX7_copyFrom 1 = .ok (.aload_n 1, 1) := by decide +kernel
theorem dX7_copyFrom_2 : decode cX7_copyFrom 2 = .ok (.getfield 9, 3) := by decide +kernel
theorem dX7_copyFrom_5 : decode cX7_copyFrom 5 = .ok (.putfield 9, 3) := by decide +kernel
theorem dX7_copyFrom_8 : decode cX7_copyFrom 8 = .ok (.aload_n 1, 1) := by decide +kernel
theorem dX7_copyFrom_9 : decode cX7_copyFrom 9 = .ok (.getfield 15, 3) := by decide +kernel
theorem dX7_copyFrom_12 : decode cX7_copyFrom 12 = .ok (.iconst 0, 1) := by decide +kernel
theorem dX7_copyFrom_13 : decode cX7_copyFrom 13 = .ok (.aload_n 0, 1) := by decide +kernel
theorem dX7_copyFrom_14 : decode cX7_copyFrom 14 = .ok (.getfield 15, 3) := by decide +kernel
theorem dX7_copyFrom_17 : decode cX7_copyFrom 17 = .ok (.iconst 0, 1) := by decide +kernel
theorem dX7_copyFrom_18 : decode cX7_copyFrom 18 = .ok (.bipush 6, 2) := by decide +kernel
theorem dX7_copyFrom_20 : decode cX7_copyFrom 20 = .ok (.invokestatic 34, 3) := by decide +kernel
theorem dX7_copyFrom_23 : decode cX7_copyFrom 23 = .ok (.aload_n 1, 1) := by decide +kernel
theorem dX7_copyFrom_24 : decode cX7_copyFrom 24 = .ok (.getfield 19, 3) := by decide +kernel
theorem dX7_copyFrom_27 : decode cX7_copyFrom 27 = .ok (.iconst 0, 1) := by decide +kernel
theorem dX7_copyFrom_28 : decode cX7_copyFrom 28 = .ok (.aload_n 0, 1) := by decide +kernel
theorem dX7_copyFrom_29 : decode cX7_copyFrom 29 = .ok (.getfield 19, 3) := by decide +kernel
theorem dX7_copyFrom_32 : decode cX7_copyFrom 32 = .ok (.iconst 0, 1) := by decide +kernel
theorem dX7_copyFrom_33 : decode cX7_copyFrom 33 = .ok (.bipush 6, 2) := by decide +kernel
theorem dX7_copyFrom_35 : decode cX7_copyFrom 35 = .ok (.invokestatic 34, 3) := by decide +kernel
theorem dX7_copyFrom_38 : decode cX7_copyFrom 38 = .ok (.aload_n 1, 1) := by decide +kernel
theorem dX7_copyFrom_39 : decode cX7_copyFrom 39 = .ok (.getfield 22, 3) := by decide +kernel
theorem dX7_copyFrom_42 : decode cX7_copyFrom 42 = .ok (.iconst 0, 1) := by decide +kernel
theorem dX7_copyFrom_43 : decode cX7_copyFrom 43 = .ok (.aload_n 0, 1) := by decide +kernel
theorem dX7_copyFrom_44 : decode cX7_copyFrom 44 = .ok (.getfield 22, 3) := by decide +kernel
theorem dX7_copyFrom_47 : decode cX7_copyFrom 47 = .ok (.iconst 0, 1) := by decide +kernel
theorem dX7_copyFrom_48 : decode cX7_copyFrom 48 = .ok (.iconst 4, 1) := by decide +kernel
theorem dX7_copyFrom_49 : decode cX7_copyFrom 49 = .ok (.invokestatic 34, 3) := by decide +kernel
theorem dX7_copyFrom_52 : decode cX7_copyFrom 52 = .ok (.return_, 1) := by decide +kernel
theorem dX7_partsBeyond_0 : decode cX7_partsBeyond 0 = .ok (.iconst 0, 1) := by decide +kernel
theorem dX7_partsBeyond_1 : decode cX7_partsBeyond 1 = .ok (.istore_n 2, 1) := by decide +kernel
theorem dX7_partsBeyond_2 : decode cX7_partsBeyond 2 = .ok (.iconst 0, 1) := by decide +kernel
theorem dX7_partsBeyond_3 : decode cX7_partsBeyond 3 = .ok (.istore_n 3, 1) := by decide +kernel
theorem dX7_partsBeyond_4 : decode cX7_partsBeyond 4 = .ok (.iload_n 3, 1) := by decide +kernel
theorem dX7_partsBeyond_5 : decode cX7_partsBeyond 5 = .ok (.aload_n 0, 1) := by decide +kernel
theorem dX7_partsBeyond_6 : decode cX7_partsBeyond 6 = .ok (.getfield 9, 3) := by decide +kernel
theorem dX7_partsBeyond_9 : decode cX7_partsBeyond 9 = .ok (.if_icmp .ge 30, 3) := by decide +kernel
theorem dX7_partsBeyond_12 : decode cX7_partsBeyond 12 = .ok (.iload_n 2, 1) := by decide +kernel
theorem dX7_partsBeyond_13 : decode cX7_partsBeyond 13 = .ok (.aload_n 0, 1) := by decide +kernel
theorem dX7_partsBeyond_14 : decode cX7_partsBeyond 14 = .ok (.getfield 15, 3) := by decide +kernel
theorem dX7_partsBeyond_17 : decode cX7_partsBeyond 17 = .ok (.iload_n 3, 1) := by decide +kernel
theorem dX7_partsBeyond_18 : decode cX7_partsBeyond 18 = .ok (.iaload, 1) := by decide +kernel
theorem dX7_partsBeyond_19 : decode cX7_partsBeyond 19 = .ok (.aload_n 1, 1) := by decide +kernel
theorem dX7_partsBeyond_20 : decode cX7_partsBeyond 20 = .ok (.getfield 15, 3) := by decide +kernel
theorem dX7_partsBeyond_23 : decode cX7_partsBeyond 23 = .ok (.iload_n 3, 1) := by decide +kernel
theorem dX7_partsBeyond_24 : decode cX7_partsBeyond 24 = .ok (.iaload, 1) := by decide +kernel
theorem dX7_partsBeyond_25 : decode cX7_partsBeyond 25 = .ok (.iconst (-1), 1) := by decide +kernel
theorem dX7_partsBeyond_26 : decode cX7_partsBeyond 26 = .ok (.ixor, 1) := by decide +kernel
theorem dX7_partsBeyond_27 : decode cX7_partsBeyond 27 = .ok (.iand, 1) := by decide +kernel
theorem dX7_partsBeyond_28 : decode cX7_partsBeyond 28 = .ok (.invokestatic 40, 3) := by decide +kernel
theorem dX7_partsBeyond_31 : decode cX7_partsBeyond 31 = .ok (.iadd, 1) := by decide +kernel
theorem dX7_partsBeyond_32 : decode cX7_partsBeyond 32 = .ok (.istore_n 2, 1) := by decide +kernel
theorem dX7_partsBeyond_33 : decode cX7_partsBeyond 33 = .ok (.iinc 3 1, 3) := by decide +kernel
theorem dX7_partsBeyond_36 : decode cX7_partsBeyond 36 = .ok (.goto (-32), 3) := by decide +kernel
theorem dX7_partsBeyond_39 : decode cX7_partsBeyond 39 = .ok (.iload_n 2, 1) := by decide +kernel
theorem dX7_partsBeyond_40 : decode cX7_partsBeyond 40 = .ok (.ireturn, 1) := by decide +kernel
theorem dX7_formsBeyond_0 : decode cX7_formsBeyond 0 = .ok (.iconst 0, 1) := by decide +kernel
theorem dX7_formsBeyond_1 : decode cX7_formsBeyond 1 = .ok (.istore_n 2, 1) := by decide +kernel
theorem dX7_formsBeyond_2 : decode cX7_formsBeyond 2 = .ok (.iconst 0, 1) := by decide +kernel
theorem dX7_formsBeyond_3 : decode cX7_formsBeyond 3 = .ok (.istore_n 3, 1) := by decide +kernel
theorem dX7_formsBeyond_4 : decode cX7_formsBeyond 4 = .ok (.iload_n 3, 1) := by decide +kernel
theorem dX7_formsBeyond_5 : decode cX7_formsBeyond 5 = .ok (.iconst 4, 1) := by decide +kernel
theorem dX7_formsBeyond_6 : decode cX7_formsBeyond 6 = .ok (.if_icmp .ge 32, 3) := by decide +kernel
theorem dX7_formsBeyond_9 : decode cX7_formsBeyond 9 = .ok (.aload_n 0, 1) := by decide +kernel
theorem dX7_formsBeyond_10 : decode cX7_formsBeyond 10 = .ok (.getfield 22, 3) := by decide +kernel
theorem dX7_formsBeyond_13 : decode cX7_formsBeyond 13 = .ok (.iload_n 3, 1) := by decide +kernel
theorem dX7_formsBeyond_14 : decode cX7_formsBeyond 14 = .ok (.iaload, 1) := by decide +kernel
theorem dX7_formsBeyond_15 : decode cX7_formsBeyond 15 = .ok (.iconst (-1), 1) := by decide +kernel
theorem dX7_formsBeyond_16 : decode cX7_formsBeyond 16 = .ok (.if_icmp .eq 16, 3) := by decide +kernel
theorem dX7_formsBeyond_19 : decode cX7_formsBeyond 19 = .ok (.aload_n 1, 1) := by decide +kernel
theorem dX7_formsBeyond_20 : decode cX7_formsBeyond 20 = .ok (.getfield 22, 3) := by decide +kernel
theorem dX7_formsBeyond_23 : decode cX7_formsBeyond 23 = .ok (.iload_n 3, 1) := by decide +kernel
theorem dX7_formsBeyond_24 : decode cX7_formsBeyond 24 = .ok (.iaload, 1) := by decide +kernel
theorem dX7_formsBeyond_25 : decode cX7_formsBeyond 25 = .ok (.iconst (-1), 1) := by decide +kernel
theorem dX7_formsBeyond_26 : decode cX7_formsBeyond 26 = .ok (.if_icmp .ne 6, 3) := by decide +kernel
theorem dX7_formsBeyond_29 : decode cX7_formsBeyond 29 = .ok (.iinc 2 1, 3) := by decide +kernel
theorem dX7_formsBeyond_32 : decode cX7_formsBeyond 32 = .ok (.iinc 3 1, 3) := by decide +kernel
theorem dX7_formsBeyond_35 : decode cX7_formsBeyond 35 = .ok (.goto (-31), 3) := by decide +kernel
theorem dX7_formsBeyond_38 : decode cX7_formsBeyond 38 = .ok (.iload_n 2, 1) := by decide +kernel
theorem dX7_formsBeyond_39 : decode cX7_formsBeyond 39 = .ok (.ireturn, 1) := by decide +kernel
theorem dX7_unlikeness_0 : decode cX7_unlikeness 0 = .ok (.aload_n 0, 1) := by decide +kernel
theorem dX7_unlikeness_1 : decode cX7_unlikeness 1 = .ok (.aload_n 1, 1) := by decide +kernel
theorem dX7_unlikeness_2 : decode cX7_unlikeness 2 = .ok (.invokevirtual 46, 3) := by decide +kernel
theorem dX7_unlikeness_5 : decode cX7_unlikeness 5 = .ok (.aload_n 1, 1) := by decide +kernel
theorem dX7_unlikeness_6 : decode cX7_unlikeness 6 = .ok (.aload_n 0, 1) := by decide +kernel
theorem dX7_unlikeness_7 : decode cX7_unlikeness 7 = .ok (.invokevirtual 46, 3) := by decide +kernel
theorem dX7_unlikeness_10 : decode cX7_unlikeness 10 = .ok (.iadd, 1) := by decide +kernel
theorem dX7_unlikeness_11 : decode cX7_unlikeness 11 = .ok (.istore_n 2, 1) := by decide +kernel
theorem dX7_unlikeness_12 : decode cX7_unlikeness 12 = .ok (.iconst 0, 1) := by decide +kernel
theorem dX7_unlikeness_13 : decode cX7_unlikeness 13 = .ok (.istore_n 3, 1) := by decide +kernel
theorem dX7_unlikeness_14 : decode cX7_unlikeness 14 = .ok (.iload_n 3, 1) := by decide +kernel
theorem dX7_unlikeness_15 : decode cX7_unlikeness 15 = .ok (.iconst 4, 1) := by decide +kernel
theorem dX7_unlikeness_16 : decode cX7_unlikeness 16 = .ok (.if_icmp .ge 27, 3) := by decide +kernel
theorem dX7_unlikeness_19 : decode cX7_unlikeness 19 = .ok (.aload_n 0, 1) := by decide +kernel
theorem dX7_unlikeness_20 : decode cX7_unlikeness 20 = .ok (.getfield 22, 3) := by decide +kernel
theorem dX7_unlikeness_23 : decode cX7_unlikeness 23 = .ok (.iload_n 3, 1) := by decide +kernel
theorem dX7_unlikeness_24 : decode cX7_unlikeness 24 = .ok (.iaload, 1) := by decide +kernel
theorem dX7_unlikeness_25 : decode cX7_unlikeness 25 = .ok (.aload_n 1, 1) := by decide +kernel
theorem dX7_unlikeness_26 : decode cX7_unlikeness 26 = .ok (.getfield 22, 3) := by decide +kernel
theorem dX7_unlikeness_29 : decode cX7_unlikeness 29 = .ok (.iload_n 3, 1) := by decide +kernel
theorem dX7_unlikeness_30 : decode cX7_unlikeness 30 = .ok (.iaload, 1) := by decide +kernel
theorem dX7_unlikeness_31 : decode cX7_unlikeness 31 = .ok (.if_icmp .eq 6, 3) := by decide +kernel
theorem dX7_unlikeness_34 : decode cX7_unlikeness 34 = .ok (.iinc 2 1, 3) := by decide +kernel
theorem dX7_unlikeness_37 : decode cX7_unlikeness 37 = .ok (.iinc 3 1, 3) := by decide +kernel
theorem dX7_unlikeness_40 : decode cX7_unlikeness 40 = .ok (.goto (-26), 3) := by decide +kernel
theorem dX7_unlikeness_43 : decode cX7_unlikeness 43 = .ok (.iload_n 2, 1) := by decide +kernel
theorem dX7_unlikeness_44 : decode cX7_unlikeness 44 = .ok (.ireturn, 1) := by decide +kernel
theorem dX7_isSameAs_0 : decode cX7_isSameAs 0 = .ok (.iconst 0, 1) := by decide +kernel
theorem dX7_isSameAs_1 : decode cX7_isSameAs 1 = .ok (.istore_n 2, 1) := by decide +kernel
theorem dX7_isSameAs_2 : decode cX7_isSameAs 2 = .ok (.iload_n 2, 1) := by decide +kernel
theorem dX7_isSameAs_3 : decode cX7_isSameAs 3 = .ok (.aload_n 0, 1) := by decide +kernel
theorem dX7_isSameAs_4 : decode cX7_isSameAs 4 = .ok (.getfield 9, 3) := by decide +kernel
theorem dX7_isSameAs_7 : decode cX7_isSameAs 7 = .ok (.if_icmp .ge 26, 3) := by decide +kernel
theorem dX7_isSameAs_10 : decode cX7_isSameAs 10 = .ok (.aload_n 0, 1) := by decide +kernel
theorem dX7_isSameAs_11 : decode cX7_isSameAs 11 = .ok (.getfield 19, 3) := by decide +kernel
theorem dX7_isSameAs_14 : decode cX7_isSameAs 14 = .ok (.iload_n 2, 1) := by decide +kernel
theorem dX7_isSameAs_15 : decode cX7_isSameAs 15 = .ok (.iaload, 1) := by decide +kernel
theorem dX7_isSameAs_16 : decode cX7_isSameAs 16 = .ok (.aload_n 1, 1) := by decide +kernel
theorem dX7_isSameAs_17 : decode cX7_isSameAs 17 = .ok (.getfield 19, 3) := by decide +kernel
theorem dX7_isSameAs_20 : decode cX7_isSameAs 20 = .ok (.iload_n 2, 1) := by decide +kernel
theorem dX7_isSameAs_21 : decode cX7_isSameAs 21 = .ok (.iaload, 1) := by decide +kernel
theorem dX7_isSameAs_22 : decode cX7_isSameAs 22 = .ok (.if_icmp .eq 5, 3) := by decide +kernel
theorem dX7_isSameAs_25 : decode cX7_isSameAs 25 = .ok (.iconst 0, 1) := by decide +kernel
theorem dX7_isSameAs_26 : decode cX7_isSameAs 26 = .ok (.ireturn, 1) := by decide +kernel
theorem dX7_isSameAs_27 : decode cX7_isSameAs 27 = .ok (.iinc 2 1, 3) := by decide +kernel
theorem dX7_isSameAs_30 : decode cX7_isSameAs 30 = .ok (.goto (-28), 3) := by decide +kernel
theorem dX7_isSameAs_33 : decode cX7_isSameAs 33 = .ok (.aload_n 0, 1) := by decide +kernel
theorem dX7_isSameAs_34 : decode cX7_isSameAs 34 = .ok (.getfield 9, 3) := by decide +kernel
theorem dX7_isSameAs_37 : decode cX7_isSameAs 37 = .ok (.aload_n 1, 1) := by decide +kernel
theorem dX7_isSameAs_38 : decode cX7_isSameAs 38 = .ok (.getfield 9, 3) := by decide +kernel
theorem dX7_isSameAs_41 : decode cX7_isSameAs 41 = .ok (.if_icmp .ne 15, 3) := by decide +kernel
theorem dX7_isSameAs_44 : decode cX7_isSameAs 44 = .ok (.aload_n 0, 1) := by decide +kernel
theorem dX7_isSameAs_45 : decode cX7_isSameAs 45 = .ok (.aload_n 1, 1) := by decide +kernel
theorem dX7_isSameAs_46 : decode cX7_isSameAs 46 = .ok (.invokevirtual 50, 3) := by decide +kernel
theorem dX7_isSameAs_49 : decode cX7_isSameAs 49 = .ok (.ifCond .ne 7, 3) := by decide +kernel
theorem dX7_isSameAs_52 : decode cX7_isSameAs 52 = .ok (.iconst 1, 1) := by decide +kernel
theorem dX7_isSameAs_53 : decode cX7_isSameAs 53 = .ok (.goto 4, 3) := by decide +kernel
theorem dX7_isSameAs_56 : decode cX7_isSameAs 56 = .ok (.iconst 0, 1) := by decide +kernel
theorem dX7_isSameAs_57 : decode cX7_isSameAs 57 = .ok (.ireturn, 1) := by decide +kernel
theorem dX8_init_0 : decode cX8_init 0 = .ok (.aload_n 0, 1) := by decide +kernel
theorem dX8_init_1 : decode cX8_init 1 = .ok (.invokespecial 3, 3) := by decide +kernel
theorem dX8_init_4 : decode cX8_init 4 = .ok (.aload_n 0, 1) := by decide +kernel
theorem dX8_init_5 : decode cX8_init 5 = .ok (.new 9, 3) := by decide +kernel
theorem dX8_init_8 : decode cX8_init 8 = .ok (.dup, 1) := by decide +kernel
theorem dX8_init_9 : decode cX8_init 9 = .ok (.invokespecial 11, 3) := by decide +kernel
theorem dX8_init_12 : decode cX8_init 12 = .ok (.putfield 12, 3) := by decide +kernel
theorem dX8_init_15 : decode cX8_init 15 = .ok (.aload_n 0, 1) := by decide +kernel
theorem dX8_init_16 : decode cX8_init 16 = .ok (.new 18, 3) := by decide +kernel
theorem dX8_init_19 : decode cX8_init 19 = .ok (.dup, 1) := by decide +kernel
theorem dX8_init_20 : decode cX8_init 20 = .ok (.invokespecial 20, 3) := by decide +kernel
theorem dX8_init_23 : decode cX8_init 23 = .ok (.putfield 21, 3) := by decide +kernel
theorem dX8_init_26 : decode cX8_init 26 = .ok (.aload_n 0, 1) := by decide +kernel
theorem dX8_init_27 : decode cX8_init 27 = .ok (.new 25, 3) := by decide +kernel
theorem dX8_init_30 : decode cX8_init 30 = .ok (.dup, 1) := by decide +kernel
theorem dX8_init_31 : decode cX8_init 31 = .ok (.invokespecial 27, 3) := by decide +kernel
theorem dX8_init_34 : decode cX8_init 34 = .ok (.putfield 28, 3) := by decide +kernel
theorem dX8_init_37 : decode cX8_init 37 = .ok (.aload_n 0, 1) := by decide +kernel
theorem dX8_init_38 : decode cX8_init 38 = .ok (.new 32, 3) := by decide +kernel
theorem dX8_init_41 : decode cX8_init 41 = .ok (.dup, 1) := by decide +kernel
theorem dX8_init_42 : decode cX8_init 42 = .ok (.invokespecial 34, 3) := by decide +kernel
theorem dX8_init_45 : decode cX8_init 45 = .ok (.putfield 35, 3) := by decide +kernel
theorem dX8_init_48 : decode cX8_init 48 = .ok (.aload_n 0, 1) := by decide +kernel
theorem dX8_init_49 : decode cX8_init 49 = .ok (.new 39, 3) := by decide +kernel
theorem dX8_init_52 : decode cX8_init 52 = .ok (.dup, 1) := by decide +kernel
theorem dX8_init_53 : decode cX8_init 53 = .ok (.invokespecial 41, 3) := by decide +kernel
theorem dX8_init_56 : decode cX8_init 56 = .ok (.putfield 42, 3) := by decide +kernel
theorem dX8_init_59 : decode cX8_init 59 = .ok (.return_, 1) := by decide +kernel
theorem dX8_copyFrom_0 : decode cX8_copyFrom 0 = .ok (.aload_n 0, 1) := by decide +kernel
theorem dX8_copyFrom_1 : decode cX8_copyFrom 1 = .ok (.getfield 12, 3) := by decide +kernel
theorem dX8_copyFrom_4 : decode cX8_copyFrom 4 = .ok (.aload_n 1, 1) := by decide +kernel
theorem dX8_copyFrom_5 : decode cX8_copyFrom 5 = .ok (.getfield 12, 3) := by decide +kernel
theorem dX8_copyFrom_8 : decode cX8_copyFrom 8 = .ok (.invokevirtual 46, 3) := by decide +kernel
theorem dX8_copyFrom_11 : decode cX8_copyFrom 11 = .ok (.aload_n 0, 1) := by decide +kernel
theorem dX8_copyFrom_12 : decode cX8_copyFrom 12 = .ok (.getfield 21, 3) := by decide +kernel
theorem dX8_copyFrom_15 : decode cX8_copyFrom 15 = .ok (.aload_n 1, 1) := by decide +kernel
theorem dX8_copyFrom_16 : decode cX8_copyFrom 16 = .ok (.getfield 21, 3) := by decide +kernel
theorem dX8_copyFrom_19 : decode cX8_copyFrom 19 = .ok (.invokevirtual 50, 3) := by decide +kernel
theorem dX8_copyFrom_22 : decode cX8_copyFrom 22 = .ok (.aload_n 0, 1) := by decide +kernel
theorem dX8_copyFrom_23 : decode cX8_copyFrom 23 = .ok (.getfield 28, 3) := by decide +kernel
theorem dX8_copyFrom_26 : decode cX8_copyFrom 26 = .ok (.aload_n 1, 1) := by decide +kernel
theorem dX8_copyFrom_27 : decode cX8_copyFrom 27 = .ok (.getfield 28, 3) := by decide +kernel
theorem dX8_copyFrom_30 : decode cX8_copyFrom 30 = .ok (.invokevirtual 53, 3) := by decide +kernel
theorem dX8_copyFrom_33 : decode cX8_copyFrom 33 = .ok (.aload_n 0, 1) := by decide +kernel
theorem dX8_copyFrom_34 : decode cX8_copyFrom 34 = .ok (.getfield 35, 3) := by decide +kernel
theorem dX8_copyFrom_37 : decode cX8_copyFrom 37 = .ok (.aload_n 1, 1) := by decide +kernel
theorem dX8_copyFrom_38 : decode cX8_copyFrom 38 = .ok (.getfield 35, 3) := by decide +kernel
theorem dX8_copyFrom_41 : decode cX8_copyFrom 41 = .ok (.invokevirtual 56, 3) := by decide +kernel
theorem dX8_copyFrom_44 : decode cX8_copyFrom 44 = .ok (.aload_n 0, 1) := by decide +kernel
theorem dX8_copyFrom_45 : decode cX8_copyFrom 45 = .ok (.getfield 42, 3) := by decide +kernel
theorem dX8_copyFrom_48 : decode cX8_copyFrom 48 = .ok (.aload_n 1, 1) := by decide +kernel
theorem dX8_copyFrom_49 : decode cX8_copyFrom 49 = .ok (.getfield 42, 3) := by decide +kernel
theorem dX8_copyFrom_52 : decode cX8_copyFrom 52 = .ok (.invokevirtual 59, 3) := by decide +kernel
theorem dX8_copyFrom_55 : decode cX8_copyFrom 55 = .ok (.return_, 1) := by decide +kernel
theorem dX8_howMany_0 : decode cX8_howMany 0 = .ok (.iload_n 1, 1) := by decide +kernel
theorem dX8_howMany_1 : decode cX8_howMany 1 = .ok (.tableswitch 63 0 3 #[31, 39, 47, 55], 31) := by decide +kernel
theorem dX8_howMany_32 : decode cX8_howMany 32 = .ok (.aload_n 0, 1) := by decide +kernel
theorem dX8_howMany_33 : decode cX8_howMany 33 = .ok (.getfield 12, 3) := by decide +kernel
theorem dX8_howMany_36 : decode cX8_howMany 36 = .ok (.getfield 62, 3) := by decide +kernel
theorem dX8_howMany_39 : decode cX8_howMany 39 = .ok (.ireturn, 1) := by decide +kernel
theorem dX8_howMany_40 : decode cX8_howMany 40 = .ok (.aload_n 0, 1) := by decide +kernel
theorem dX8_howMany_41 : decode cX8_howMany 41 = .ok (.getfield 21, 3) := by decide +kernel
theorem dX8_howMany_44 : decode cX8_howMany 44 = .ok (.getfield 66, 3) := by decide +kernel
theorem dX8_howMany_47 : decode cX8_howMany 47 = .ok (.ireturn, 1) := by decide +kernel
theorem dX8_howMany_48 : decode cX8_howMany 48 = .ok (.aload_n 0, 1) := by decide +kernel
theorem dX8_howMany_49 : decode cX8_howMany 49 = .ok (.getfield 28, 3) := by decide +kernel
theorem dX8_howMany_52 : decode cX8_howMany 52 = .ok (.getfield 69, 3) := by decide +kernel
theorem dX8_howMany_55 : decode cX8_howMany 55 = .ok (.ireturn, 1) := by decide +kernel
theorem dX8_howMany_56 : decode cX8_howMany 56 = .ok (.aload_n 0, 1) := by decide +kernel
theorem dX8_howMany_57 : decode cX8_howMany 57 = .ok (.getfield 42, 3) := by decide +kernel
theorem dX8_howMany_60 : decode cX8_howMany 60 = .ok (.getfield 72, 3) := by decide +kernel
theorem dX8_howMany_63 : decode cX8_howMany 63 = .ok (.ireturn, 1) := by decide +kernel
theorem dX8_howMany_64 : decode cX8_howMany 64 = .ok (.aload_n 0, 1) := by decide +kernel
theorem dX8_howMany_65 : decode cX8_howMany 65 = .ok (.iload_n 1, 1) := by decide +kernel
theorem dX8_howMany_66 : decode cX8_howMany 66 = .ok (.iconst 4, 1) := by decide +kernel
theorem dX8_howMany_67 : decode cX8_howMany 67 = .ok (.isub, 1) := by decide +kernel
theorem dX8_howMany_68 : decode cX8_howMany 68 = .ok (.invokevirtual 73, 3) := by decide +kernel
theorem dX8_howMany_71 : decode cX8_howMany 71 = .ok (.ireturn, 1) := by decide +kernel
theorem dX8_wordsOf_0 : decode cX8_wordsOf 0 = .ok (.aload_n 0, 1) := by decide +kernel
theorem dX8_wordsOf_1 : decode cX8_wordsOf 1 = .ok (.getfield 12, 3) := by decide +kernel
theorem dX8_wordsOf_4 : decode cX8_wordsOf 4 = .ok (.iload_n 1, 1) := by decide +kernel
theorem dX8_wordsOf_5 : decode cX8_wordsOf 5 = .ok (.invokevirtual 77, 3) := by decide +kernel
theorem dX8_wordsOf_8 : decode cX8_wordsOf 8 = .ok (.ifCond .eq 15, 3) := by decide +kernel
theorem dX8_wordsOf_11 : decode cX8_wordsOf 11 = .ok (.aload_n 0, 1) := by decide +kernel
theorem dX8_wordsOf_12 : decode cX8_wordsOf 12 = .ok (.getfield 12, 3) := by decide +kernel
theorem dX8_wordsOf_15 : decode cX8_wordsOf 15 = .ok (.getfield 81, 3) := by decide +kernel
theorem dX8_wordsOf_18 : decode cX8_wordsOf 18 = .ok (.iload_n 1, 1) := by decide +kernel
theorem dX8_wordsOf_19 : decode cX8_wordsOf 19 = .ok (.iaload, 1) := by decide +kernel
theorem dX8_wordsOf_20 : decode cX8_wordsOf 20 = .ok (.goto 4, 3) := by decide +kernel
theorem dX8_wordsOf_23 : decode cX8_wordsOf 23 = .ok (.iconst 0, 1) := by decide +kernel
theorem dX8_wordsOf_24 : decode cX8_wordsOf 24 = .ok (.ireturn, 1) := by decide +kernel
theorem dX8_mixAll_0 : decode cX8_mixAll 0 = .ok (.lload_n 1, 1) := by decide +kernel
theorem dX8_mixAll_1 : decode cX8_mixAll 1 = .ok (.lstore_n 3, 1) := by decide +kernel
theorem dX8_mixAll_2 : decode cX8_mixAll 2 = .ok (.iconst 0, 1) := by decide +kernel
theorem dX8_mixAll_3 : decode cX8_mixAll 3 = .ok (.istore 5, 2) := by decide +kernel
theorem dX8_mixAll_5 : decode cX8_mixAll 5 = .ok (.iload 5, 2) := by decide +kernel
theorem dX8_mixAll_7 : decode cX8_mixAll 7 = .ok (.bipush 10, 2) := by decide +kernel
theorem dX8_mixAll_9 : decode cX8_mixAll 9 = .ok (.if_icmp .ge 21, 3) := by decide +kernel
theorem dX8_mixAll_12 : decode cX8_mixAll 12 = .ok (.lload_n 3, 1) := by decide +kernel
theorem dX8_mixAll_13 : decode cX8_mixAll 13 = .ok (.aload_n 0, 1) := by decide +kernel
theorem dX8_mixAll_14 : decode cX8_mixAll 14 = .ok (.iload 5, 2) := by decide +kernel
theorem dX8_mixAll_16 : decode cX8_mixAll 16 = .ok (.invokevirtual 85, 3) := by decide +kernel
theorem dX8_mixAll_19 : decode cX8_mixAll 19 = .ok (.i2l, 1) := by decide +kernel
theorem dX8_mixAll_20 : decode cX8_mixAll 20 = .ok (.invokestatic 88, 3) := by decide +kernel
theorem dX8_mixAll_23 : decode cX8_mixAll 23 = .ok (.lstore_n 3, 1) := by decide +kernel
theorem dX8_mixAll_24 : decode cX8_mixAll 24 = .ok (.iinc 5 1, 3) := by decide +kernel
theorem dX8_mixAll_27 : decode cX8_mixAll 27 = .ok (.goto (-22), 3) := by decide +kernel
theorem dX8_mixAll_30 : decode cX8_mixAll 30 = .ok (.aload_n 0, 1) := by decide +kernel
theorem dX8_mixAll_31 : decode cX8_mixAll 31 = .ok (.getfield 12, 3) := by decide +kernel
theorem dX8_mixAll_34 : decode cX8_mixAll 34 = .ok (.lload_n 3, 1) := by decide +kernel
theorem dX8_mixAll_35 : decode cX8_mixAll 35 = .ok (.invokevirtual 92, 3) := by decide +kernel
theorem dX8_mixAll_38 : decode cX8_mixAll 38 = .ok (.lstore_n 3, 1) := by decide +kernel
theorem dX8_mixAll_39 : decode cX8_mixAll 39 = .ok (.lload_n 3, 1) := by decide +kernel
theorem dX8_mixAll_40 : decode cX8_mixAll 40 = .ok (.aload_n 0, 1) := by decide +kernel
theorem dX8_mixAll_41 : decode cX8_mixAll 41 = .ok (.getfield 21, 3) := by decide +kernel
theorem dX8_mixAll_44 : decode cX8_mixAll 44 = .ok (.getfield 96, 3) := by decide +kernel
theorem dX8_mixAll_47 : decode cX8_mixAll 47 = .ok (.aload_n 0, 1) := by decide +kernel
theorem dX8_mixAll_48 : decode cX8_mixAll 48 = .ok (.getfield 21, 3) := by decide +kernel
theorem dX8_mixAll_51 : decode cX8_mixAll 51 = .ok (.getfield 66, 3) := by decide +kernel
theorem dX8_mixAll_54 : decode cX8_mixAll 54 = .ok (.invokestatic 99, 3) := by decide +kernel
theorem dX8_mixAll_57 : decode cX8_mixAll 57 = .ok (.lstore_n 3, 1) := by decide +kernel
theorem dX8_mixAll_58 : decode cX8_mixAll 58 = .ok (.lload_n 3, 1) := by decide +kernel
theorem dX8_mixAll_59 : decode cX8_mixAll 59 = .ok (.aload_n 0, 1) := by decide +kernel
theorem dX8_mixAll_60 : decode cX8_mixAll 60 = .ok (.getfield 21, 3) := by decide +kernel
theorem dX8_mixAll_63 : decode cX8_mixAll 63 = .ok (.getfield 103, 3) := by decide +kernel
theorem dX8_mixAll_66 : decode cX8_mixAll 66 = .ok (.iconst 4, 1) := by decide +kernel
theorem dX8_mixAll_67 : decode cX8_mixAll 67 = .ok (.invokestatic 99, 3) := by decide +kernel
theorem dX8_mixAll_70 : decode cX8_mixAll 70 = .ok (.lstore_n 3, 1) := by decide +kernel
theorem dX8_mixAll_71 : decode cX8_mixAll 71 = .ok (.lload_n 3, 1) := by decide +kernel
theorem dX8_mixAll_72 : decode cX8_mixAll 72 = .ok (.aload_n 0, 1) := by decide +kernel
theorem dX8_mixAll_73 : decode cX8_mixAll 73 = .ok (.getfield 28, 3) := by decide +kernel
theorem dX8_mixAll_76 : decode cX8_mixAll 76 = .ok (.getfield 106, 3) := by decide +kernel
theorem dX8_mixAll_79 : decode cX8_mixAll 79 = .ok (.aload_n 0, 1) := by decide +kernel
theorem dX8_mixAll_80 : decode cX8_mixAll 80 = .ok (.getfield 28, 3) := by decide +kernel
theorem dX8_mixAll_83 : decode cX8_mixAll 83 = .ok (.getfield 69, 3) := by decide +kernel
theorem dX8_mixAll_86 : decode cX8_mixAll 86 = .ok (.invokestatic 99, 3) := by decide +kernel
theorem dX8_mixAll_89 : decode cX8_mixAll 89 = .ok (.lstore_n 3, 1) := by decide +kernel
theorem dX8_mixAll_90 : decode cX8_mixAll 90 = .ok (.lload_n 3, 1) := by decide +kernel
theorem dX8_mixAll_91 : decode cX8_mixAll 91 = .ok (.aload_n 0, 1) := by decide +kernel
theorem dX8_mixAll_92 : decode cX8_mixAll 92 = .ok (.getfield 35, 3) := by decide +kernel
theorem dX8_mixAll_95 : decode cX8_mixAll 95 = .ok (.getfield 109, 3) := by decide +kernel
theorem dX8_mixAll_98 : decode cX8_mixAll 98 = .ok (.bipush 6, 2) := by decide +kernel
theorem dX8_mixAll_100 : decode cX8_mixAll 100 = .ok (.invokestatic 99, 3) := by decide +kernel
theorem dX8_mixAll_103 : decode cX8_mixAll 103 = .ok (.lstore_n 3, 1) := by decide +kernel
theorem dX8_mixAll_104 : decode cX8_mixAll 104 = .ok (.lload_n 3, 1) := by decide +kernel
theorem dX8_mixAll_105 : decode cX8_mixAll 105 = .ok (.aload_n 0, 1) := by decide +kernel
theorem dX8_mixAll_106 : decode cX8_mixAll 106 = .ok (.getfield 35, 3) := by decide +kernel
theorem dX8_mixAll_109 : decode cX8_mixAll 109 = .ok (.getfield 110, 3) := by decide +kernel
theorem dX8_mixAll_112 : decode cX8_mixAll 112 = .ok (.iconst 4, 1) := by decide +kernel
theorem dX8_mixAll_113 : decode cX8_mixAll 113 = .ok (.invokestatic 99, 3) := by decide +kernel
theorem dX8_mixAll_116 : decode cX8_mixAll 116 = .ok (.lstore_n 3, 1) := by decide +kernel
theorem dX8_mixAll_117 : decode cX8_mixAll 117 = .ok (.aload_n 0, 1) := by decide +kernel
theorem dX8_mixAll_118 : decode cX8_mixAll 118 = .ok (.getfield 42, 3) := by decide +kernel
theorem dX8_mixAll_121 : decode cX8_mixAll 121 = .ok (.lload_n 3, 1) := by decide +kernel
theorem dX8_mixAll_122 : decode cX8_mixAll 122 = .ok (.invokevirtual 111, 3) := by decide +kernel
theorem dX8_mixAll_125 : decode cX8_mixAll 125 = .ok (.lreturn, 1) := by decide +kernel
theorem dJ6_bitCount_0f7a4_0 : decode cJ6_bitCount_0f7a4 0 = .ok (.iload_n 0, 1) := by decide +kernel
theorem dJ6_bitCount_0f7a4_1 : decode cJ6_bitCount_0f7a4 1 = .ok (.iload_n 0, 1) := by decide +kernel
theorem dJ6_bitCount_0f7a4_2 : decode cJ6_bitCount_0f7a4 2 = .ok (.iconst 1, 1) := by decide +kernel
theorem dJ6_bitCount_0f7a4_3 : decode cJ6_bitCount_0f7a4 3 = .ok (.iushr, 1) := by decide +kernel
theorem dJ6_bitCount_0f7a4_4 : decode cJ6_bitCount_0f7a4 4 = .ok (.ldc_w 265, 3) := by decide +kernel
theorem dJ6_bitCount_0f7a4_7 : decode cJ6_bitCount_0f7a4 7 = .ok (.iand, 1) := by decide +kernel
theorem dJ6_bitCount_0f7a4_8 : decode cJ6_bitCount_0f7a4 8 = .ok (.isub, 1) := by decide +kernel
theorem dJ6_bitCount_0f7a4_9 : decode cJ6_bitCount_0f7a4 9 = .ok (.istore_n 0, 1) := by decide +kernel
theorem dJ6_bitCount_0f7a4_10 : decode cJ6_bitCount_0f7a4 10 = .ok (.iload_n 0, 1) := by decide +kernel
theorem dJ6_bitCount_0f7a4_11 : decode cJ6_bitCount_0f7a4 11 = .ok (.ldc_w 266, 3) := by decide +kernel
theorem dJ6_bitCount_0f7a4_14 : decode cJ6_bitCount_0f7a4 14 = .ok (.iand, 1) := by decide +kernel
theorem dJ6_bitCount_0f7a4_15 : decode cJ6_bitCount_0f7a4 15 = .ok (.iload_n 0, 1) := by decide +kernel
theorem dJ6_bitCount_0f7a4_16 : decode cJ6_bitCount_0f7a4 16 = .ok (.iconst 2, 1) := by decide +kernel
theorem dJ6_bitCount_0f7a4_17 : decode cJ6_bitCount_0f7a4 17 = .ok (.iushr, 1) := by decide +kernel
theorem dJ6_bitCount_0f7a4_18 : decode cJ6_bitCount_0f7a4 18 = .ok (.ldc_w 266, 3) := by decide +kernel
theorem dJ6_bitCount_0f7a4_21 : decode cJ6_bitCount_0f7a4 21 = .ok (.iand, 1) := by decide +kernel
theorem dJ6_bitCount_0f7a4_22 : decode cJ6_bitCount_0f7a4 22 = .ok (.iadd, 1) := by decide +kernel
theorem dJ6_bitCount_0f7a4_23 : decode cJ6_bitCount_0f7a4 23 = .ok (.istore_n 0, 1) := by decide +kernel
theorem dJ6_bitCount_0f7a4_24 : decode cJ6_bitCount_0f7a4 24 = .ok (.iload_n 0, 1) := by decide +kernel
theorem dJ6_bitCount_0f7a4_25 : decode cJ6_bitCount_0f7a4 25 = .ok (.iload_n 0, 1) := by decide +kernel
theorem dJ6_bitCount_0f7a4_26 : decode cJ6_bitCount_0f7a4 26 = .ok (.iconst 4, 1) := by decide +kernel
theorem dJ6_bitCount_0f7a4_27 : decode cJ6_bitCount_0f7a4 27 = .ok (.iushr, 1) := by decide +kernel
theorem dJ6_bitCount_0f7a4_28 : decode cJ6_bitCount_0f7a4 28 = .ok (.iadd, 1) := by decide +kernel
theorem dJ6_bitCount_0f7a4_29 : decode cJ6_bitCount_0f7a4 29 = .ok (.ldc_w 267, 3) := by decide +kernel
theorem dJ6_bitCount_0f7a4_32 : decode cJ6_bitCount_0f7a4 32 = .ok (.iand, 1) := by decide +kernel
theorem dJ6_bitCount_0f7a4_33 : decode cJ6_bitCount_0f7a4 33 = .ok (.istore_n 0, 1) := by decide +kernel
theorem dJ6_bitCount_0f7a4_34 : decode cJ6_bitCount_0f7a4 34 = .ok (.iload_n 0, 1) := by decide +kernel
theorem dJ6_bitCount_0f7a4_35 : decode cJ6_bitCount_0f7a4 35 = .ok (.iload_n 0, 1) := by decide +kernel
theorem dJ6_bitCount_0f7a4_36 : decode cJ6_bitCount_0f7a4 36 = .ok (.bipush 8, 2) := by decide +kernel
theorem dJ6_bitCount_0f7a4_38 : decode cJ6_bitCount_0f7a4 38 = .ok (.iushr, 1) := by decide +kernel
theorem dJ6_bitCount_0f7a4_39 : decode cJ6_bitCount_0f7a4 39 = .ok (.iadd, 1) := by decide +kernel
theorem dJ6_bitCount_0f7a4_40 : decode cJ6_bitCount_0f7a4 40 = .ok (.istore_n 0, 1) := by decide +kernel
theorem dJ6_bitCount_0f7a4_41 : decode cJ6_bitCount_0f7a4 41 = .ok (.iload_n 0, 1) := by decide +kernel
theorem dJ6_bitCount_0f7a4_42 : decode cJ6_bitCount_0f7a4 42 = .ok (.iload_n 0, 1) := by decide +kernel
theorem dJ6_bitCount_0f7a4_43 : decode cJ6_bitCount_0f7a4 43 = .ok (.bipush 16, 2) := by decide +kernel
theorem dJ6_bitCount_0f7a4_45 : decode cJ6_bitCount_0f7a4 45 = .ok (.iushr, 1) := by decide +kernel
theorem dJ6_bitCount_0f7a4_46 : decode cJ6_bitCount_0f7a4 46 = .ok (.iadd, 1) := by decide +kernel
theorem dJ6_bitCount_0f7a4_47 : decode cJ6_bitCount_0f7a4 47 = .ok (.istore_n 0, 1) := by decide +kernel
theorem dJ6_bitCount_0f7a4_48 : decode cJ6_bitCount_0f7a4 48 = .ok (.iload_n 0, 1) := by decide +kernel
theorem dJ6_bitCount_0f7a4_49 : decode cJ6_bitCount_0f7a4 49 = .ok (.bipush 63, 2) := by decide +kernel
theorem dJ6_bitCount_0f7a4_51 : decode cJ6_bitCount_0f7a4 51 = .ok (.iand, 1) := by decide +kernel
theorem dJ6_bitCount_0f7a4_52 : decode cJ6_bitCount_0f7a4 52 = .ok (.ireturn, 1) := by decide +kernel
theorem dJ9_abs_0f7a4_0 : decode cJ9_abs_0f7a4 0 = .ok (.iload_n 0, 1) := by decide +kernel
theorem dJ9_abs_0f7a4_1 : decode cJ9_abs_0f7a4 1 = .ok (.ifCond .ge 8, 3) := by decide +kernel
theorem dJ9_abs_0f7a4_4 : decode cJ9_abs_0f7a4 4 = .ok (.iload_n 0, 1) := by decide +kernel
theorem dJ9_abs_0f7a4_5 : decode cJ9_abs_0f7a4 5 = .ok (.ineg, 1) := by decide +kernel
theorem dJ9_abs_0f7a4_6 : decode cJ9_abs_0f7a4 6 = .ok (.goto 4, 3) := by decide +kernel
theorem dJ9_abs_0f7a4_9 : decode cJ9_abs_0f7a4 9 = .ok (.iload_n 0, 1) := by decide +kernel
theorem dJ9_abs_0f7a4_10 : decode cJ9_abs_0f7a4 10 = .ok (.ireturn, 1) := by decide +kernel
theorem dJ9_max_7cf53_0 : decode cJ9_max_7cf53 0 = .ok (.iload_n 0, 1) := by decide +kernel
theorem dJ9_max_7cf53_1 : decode cJ9_max_7cf53 1 = .ok (.iload_n 1, 1) := by decide +kernel
theorem dJ9_max_7cf53_2 : decode cJ9_max_7cf53 2 = .ok (.if_icmp .lt 7, 3) := by decide +kernel
theorem dJ9_max_7cf53_5 : decode cJ9_max_7cf53 5 = .ok (.iload_n 0, 1) := by decide +kernel
theorem dJ9_max_7cf53_6 : decode cJ9_max_7cf53 6 = .ok (.goto 4, 3) := by decide +kernel
theorem dJ9_max_7cf53_9 : decode cJ9_max_7cf53 9 = .ok (.iload_n 1, 1) := by decide +kernel
theorem dJ9_max_7cf53_10 : decode cJ9_max_7cf53 10 = .ok (.ireturn, 1) := by decide +kernel
theorem dJ9_min_7cf53_0 : decode cJ9_min_7cf53 0 = .ok (.iload_n 0, 1) := by decide +kernel
theorem dJ9_min_7cf53_1 : decode cJ9_min_7cf53 1 = .ok (.iload_n 1, 1) := by decide +kernel
theorem dJ9_min_7cf53_2 : decode cJ9_min_7cf53 2 = .ok (.if_icmp .gt 7, 3) := by decide +kernel
theorem dJ9_min_7cf53_5 : decode cJ9_min_7cf53 5 = .ok (.iload_n 0, 1) := by decide +kernel
theorem dJ9_min_7cf53_6 : decode cJ9_min_7cf53 6 = .ok (.goto 4, 3) := by decide +kernel
theorem dJ9_min_7cf53_9 : decode cJ9_min_7cf53 9 = .ok (.iload_n 1, 1) := by decide +kernel
theorem dJ9_min_7cf53_10 : decode cJ9_min_7cf53 10 = .ok (.ireturn, 1) := by decide +kernel
theorem dJ7_rangeCheck_23922_0 : decode cJ7_rangeCheck_23922 0 = .ok (.iload_n 1, 1) := by decide +kernel
theorem dJ7_rangeCheck_23922_1 : decode cJ7_rangeCheck_23922 1 = .ok (.iload_n 2, 1) := by decide +kernel
theorem dJ7_rangeCheck_23922_2 : decode cJ7_rangeCheck_23922 2 = .ok (.if_icmp .le 44, 3) := by decide +kernel
theorem dJ7_rangeCheck_23922_5 : decode cJ7_rangeCheck_23922 5 = .ok (.new 43, 3) := by decide +kernel
theorem dJ7_rangeCheck_23922_8 : decode cJ7_rangeCheck_23922 8 = .ok (.dup, 1) := by decide +kernel
theorem dJ7_rangeCheck_23922_9 : decode cJ7_rangeCheck_23922 9 = .ok (.new 45, 3) := by decide +kernel
theorem dJ7_rangeCheck_23922_12 : decode cJ7_rangeCheck_23922 12 = .ok (.dup, 1) := by decide +kernel
theorem dJ7_rangeCheck_23922_13 : decode cJ7_rangeCheck_23922 13 = .ok (.invokespecial 47, 3) := by decide +kernel
theorem dJ7_rangeCheck_23922_16 : decode cJ7_rangeCheck_23922 16 = .ok (.ldc 48, 2) := by decide +kernel
theorem dJ7_rangeCheck_23922_18 : decode cJ7_rangeCheck_23922 18 = .ok (.invokevirtual 50, 3) := by decide +kernel
theorem dJ7_rangeCheck_23922_21 : decode cJ7_rangeCheck_23922 21 = .ok (.iload_n 1, 1) := by decide +kernel
theorem dJ7_rangeCheck_23922_22 : decode cJ7_rangeCheck_23922 22 = .ok (.invokevirtual 54, 3) := by decide +kernel
theorem dJ7_rangeCheck_23922_25 : decode cJ7_rangeCheck_23922 25 = .ok (.ldc 57, 2) := by decide +kernel
theorem dJ7_rangeCheck_23922_27 : decode cJ7_rangeCheck_23922 27 = .ok (.invokevirtual 50, 3) := by decide +kernel
theorem dJ7_rangeCheck_23922_30 : decode cJ7_rangeCheck_23922 30 = .ok (.iload_n 2, 1) := by decide +kernel
theorem dJ7_rangeCheck_23922_31 : decode cJ7_rangeCheck_23922 31 = .ok (.invokevirtual 54, 3) := by decide +kernel
theorem dJ7_rangeCheck_23922_34 : decode cJ7_rangeCheck_23922 34 = .ok (.ldc 59, 2) := by decide +kernel
theorem dJ7_rangeCheck_23922_36 : decode cJ7_rangeCheck_23922 36 = .ok (.invokevirtual 50, 3) := by decide +kernel
theorem dJ7_rangeCheck_23922_39 : decode cJ7_rangeCheck_23922 39 = .ok (.invokevirtual 61, 3) := by decide +kernel
theorem dJ7_rangeCheck_23922_42 : decode cJ7_rangeCheck_23922 42 = .ok (.invokespecial 65, 3) := by decide +kernel
theorem dJ7_rangeCheck_23922_45 : decode cJ7_rangeCheck_23922 45 = .ok (.athrow, 1) := by decide +kernel
theorem dJ7_rangeCheck_23922_46 : decode cJ7_rangeCheck_23922 46 = .ok (.iload_n 1, 1) := by decide +kernel
theorem dJ7_rangeCheck_23922_47 : decode cJ7_rangeCheck_23922 47 = .ok (.ifCond .ge 12, 3) := by decide +kernel
theorem dJ7_rangeCheck_23922_50 : decode cJ7_rangeCheck_23922 50 = .ok (.new 68, 3) := by decide +kernel
theorem dJ7_rangeCheck_23922_53 : decode cJ7_rangeCheck_23922 53 = .ok (.dup, 1) := by decide +kernel
theorem dJ7_rangeCheck_23922_54 : decode cJ7_rangeCheck_23922 54 = .ok (.iload_n 1, 1) := by decide +kernel
theorem dJ7_rangeCheck_23922_55 : decode cJ7_rangeCheck_23922 55 = .ok (.invokespecial 70, 3) := by decide +kernel
theorem dJ7_rangeCheck_23922_58 : decode cJ7_rangeCheck_23922 58 = .ok (.athrow, 1) := by decide +kernel
theorem dJ7_rangeCheck_23922_59 : decode cJ7_rangeCheck_23922 59 = .ok (.iload_n 2, 1) := by decide +kernel
theorem dJ7_rangeCheck_23922_60 : decode cJ7_rangeCheck_23922 60 = .ok (.iload_n 0, 1) := by decide +kernel
theorem dJ7_rangeCheck_23922_61 : decode cJ7_rangeCheck_23922 61 = .ok (.if_icmp .le 12, 3) := by decide +kernel
theorem dJ7_rangeCheck_23922_64 : decode cJ7_rangeCheck_23922 64 = .ok (.new 68, 3) := by decide +kernel
theorem dJ7_rangeCheck_23922_67 : decode cJ7_rangeCheck_23922 67 = .ok (.dup, 1) := by decide +kernel
theorem dJ7_rangeCheck_23922_68 : decode cJ7_rangeCheck_23922 68 = .ok (.iload_n 2, 1) := by decide +kernel
theorem dJ7_rangeCheck_23922_69 : decode cJ7_rangeCheck_23922 69 = .ok (.invokespecial 70, 3) := by decide +kernel
theorem dJ7_rangeCheck_23922_72 : decode cJ7_rangeCheck_23922 72 = .ok (.athrow, 1) := by decide +kernel
theorem dJ7_rangeCheck_23922_73 : decode cJ7_rangeCheck_23922 73 = .ok (.return_, 1) := by decide +kernel
theorem dJ7_fill_53178_0 : decode cJ7_fill_53178 0 = .ok (.iconst 0, 1) := by decide +kernel
theorem dJ7_fill_53178_1 : decode cJ7_fill_53178 1 = .ok (.istore_n 2, 1) := by decide +kernel
theorem dJ7_fill_53178_2 : decode cJ7_fill_53178 2 = .ok (.aload_n 0, 1) := by decide +kernel
theorem dJ7_fill_53178_3 : decode cJ7_fill_53178 3 = .ok (.arraylength, 1) := by decide +kernel
theorem dJ7_fill_53178_4 : decode cJ7_fill_53178 4 = .ok (.istore_n 3, 1) := by decide +kernel
theorem dJ7_fill_53178_5 : decode cJ7_fill_53178 5 = .ok (.iload_n 2, 1) := by decide +kernel
theorem dJ7_fill_53178_6 : decode cJ7_fill_53178 6 = .ok (.iload_n 3, 1) := by decide +kernel
theorem dJ7_fill_53178_7 : decode cJ7_fill_53178 7 = .ok (.if_icmp .ge 13, 3) := by decide +kernel
theorem dJ7_fill_53178_10 : decode cJ7_fill_53178 10 = .ok (.aload_n 0, 1) := by decide +kernel
theorem dJ7_fill_53178_11 : decode cJ7_fill_53178 11 = .ok (.iload_n 2, 1) := by decide +kernel
theorem dJ7_fill_53178_12 : decode cJ7_fill_53178 12 = .ok (.iload_n 1, 1) := by decide +kernel
theorem dJ7_fill_53178_13 : decode cJ7_fill_53178 13 = .ok (.iastore, 1) := by decide +kernel
theorem dJ7_fill_53178_14 : decode cJ7_fill_53178 14 = .ok (.iinc 2 1, 3) := by decide +kernel
theorem dJ7_fill_53178_17 : decode cJ7_fill_53178 17 = .ok (.goto (-12), 3) := by decide +kernel
theorem dJ7_fill_53178_20 : decode cJ7_fill_53178 20 = .ok (.return_, 1) := by decide +kernel
theorem dJ7_fill_fda19_0 : decode cJ7_fill_fda19 0 = .ok (.aload_n 0, 1) := by decide +kernel
theorem dJ7_fill_fda19_1 : decode cJ7_fill_fda19 1 = .ok (.arraylength, 1) := by decide +kernel
theorem dJ7_fill_fda19_2 : decode cJ7_fill_fda19 2 = .ok (.iload_n 1, 1) := by decide +kernel
theorem dJ7_fill_fda19_3 : decode cJ7_fill_fda19 3 = .ok (.iload_n 2, 1) := by decide +kernel
theorem dJ7_fill_fda19_4 : decode cJ7_fill_fda19 4 = .ok (.invokestatic 13, 3) := by decide +kernel
theorem dJ7_fill_fda19_7 : decode cJ7_fill_fda19 7 = .ok (.iload_n 1, 1) := by decide +kernel
theorem dJ7_fill_fda19_8 : decode cJ7_fill_fda19 8 = .ok (.istore 4, 2) := by decide +kernel
theorem dJ7_fill_fda19_10 : decode cJ7_fill_fda19 10 = .ok (.iload 4, 2) := by decide +kernel
theorem dJ7_fill_fda19_12 : decode cJ7_fill_fda19 12 = .ok (.iload_n 2, 1) := by decide +kernel
theorem dJ7_fill_fda19_13 : decode cJ7_fill_fda19 13 = .ok (.if_icmp .ge 14, 3) := by decide +kernel
theorem dJ7_fill_fda19_16 : decode cJ7_fill_fda19 16 = .ok (.aload_n 0, 1) := by decide +kernel
theorem dJ7_fill_fda19_17 : decode cJ7_fill_fda19 17 = .ok (.iload 4, 2) := by decide +kernel
theorem dJ7_fill_fda19_19 : decode cJ7_fill_fda19 19 = .ok (.iload_n 3, 1) := by decide +kernel
theorem dJ7_fill_fda19_20 : decode cJ7_fill_fda19 20 = .ok (.iastore, 1) := by decide +kernel
theorem dJ7_fill_fda19_21 : decode cJ7_fill_fda19 21 = .ok (.iinc 4 1, 3) := by decide +kernel
theorem dJ7_fill_fda19_24 : decode cJ7_fill_fda19 24 = .ok (.goto (-14), 3) := by decide +kernel
theorem dJ7_fill_fda19_27 : decode cJ7_fill_fda19 27 = .ok (.return_, 1) := by decide +kernel
