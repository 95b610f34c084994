theorem dX9_init_0 : decode cX9_init 0 = .ok (.aload_n 0, 1) := by decide +kernel
theorem dX9_init_1 : decode cX9_init 1 = .ok (.invokespecial 3, 3) := by decide +kernel
theorem dX9_init_4 : decode cX9_init 4 = .ok (.aload_n 0, 1) := by decide +kernel
theorem dX9_init_5 : decode cX9_init 5 = .ok (.new 9, 3) := by decide +kernel
theorem dX9_init_8 : decode cX9_init 8 = .ok (.dup, 1) := by decide +kernel
theorem dX9_init_9 : decode cX9_init 9 = .ok (.invokespecial 11, 3) := by decide +kernel
theorem dX9_init_12 : decode cX9_init 12 = .ok (.putfield 12, 3) := by decide +kernel
theorem dX9_init_15 : decode cX9_init 15 = .ok (.aload_n 0, 1) := by decide +kernel
theorem dX9_init_16 : decode cX9_init 16 = .ok (.iconst 2, 1) := by decide +kernel
theorem dX9_init_17 : decode cX9_init 17 = .ok (.anewarray 9, 3) := by decide +kernel
theorem dX9_init_20 : decode cX9_init 20 = .ok (.putfield 16, 3) := by decide +kernel
theorem dX9_init_23 : decode cX9_init 23 = .ok (.aload_n 0, 1) := by decide +kernel
theorem dX9_init_24 : decode cX9_init 24 = .ok (.iconst 2, 1) := by decide +kernel
theorem dX9_init_25 : decode cX9_init 25 = .ok (.newarray .boolean, 2) := by decide +kernel
theorem dX9_init_27 : decode cX9_init 27 = .ok (.putfield 20, 3) := by decide +kernel
theorem dX9_init_30 : decode cX9_init 30 = .ok (.aload_n 0, 1) := by decide +kernel
theorem dX9_init_31 : decode cX9_init 31 = .ok (.iconst 3, 1) := by decide +kernel
theorem dX9_init_32 : decode cX9_init 32 = .ok (.newarray .int, 2) := by decide +kernel
theorem dX9_init_34 : decode cX9_init 34 = .ok (.putfield 24, 3) := by decide +kernel
theorem dX9_init_37 : decode cX9_init 37 = .ok (.aload_n 0, 1) := by decide +kernel
theorem dX9_init_38 : decode cX9_init 38 = .ok (.iconst 0, 1) := by decide +kernel
theorem dX9_init_39 : decode cX9_init 39 = .ok (.putfield 28, 3) := by decide +kernel
theorem dX9_init_42 : decode cX9_init 42 = .ok (.aload_n 0, 1) := by decide +kernel
theorem dX9_init_43 : decode cX9_init 43 = .ok (.iconst 1, 1) := by decide +kernel
theorem dX9_init_44 : decode cX9_init 44 = .ok (.putfield 32, 3) := by decide +kernel
theorem dX9_init_47 : decode cX9_init 47 = .ok (.aload_n 0, 1) := by decide +kernel
theorem dX9_init_48 : decode cX9_init 48 = .ok (.new 35, 3) := by decide +kernel
theorem dX9_init_51 : decode cX9_init 51 = .ok (.dup, 1) := by decide +kernel
theorem dX9_init_52 : decode cX9_init 52 = .ok (.invokespecial 37, 3) := by decide +kernel
theorem dX9_init_55 : decode cX9_init 55 = .ok (.putfield 38, 3) := by decide +kernel
theorem dX9_init_58 : decode cX9_init 58 = .ok (.aload_n 0, 1) := by decide +kernel
theorem dX9_init_59 : decode cX9_init 59 = .ok (.new 42, 3) := by decide +kernel
theorem dX9_init_62 : decode cX9_init 62 = .ok (.dup, 1) := by decide +kernel
theorem dX9_init_63 : decode cX9_init 63 = .ok (.invokespecial 44, 3) := by decide +kernel
theorem dX9_init_66 : decode cX9_init 66 = .ok (.putfield 45, 3) := by decide +kernel
theorem dX9_init_69 : decode cX9_init 69 = .ok (.aload_n 0, 1) := by decide +kernel
theorem dX9_init_70 : decode cX9_init 70 = .ok (.bipush 6, 2) := by decide +kernel
theorem dX9_init_72 : decode cX9_init 72 = .ok (.newarray .int, 2) := by decide +kernel
theorem dX9_init_74 : decode cX9_init 74 = .ok (.putfield 49, 3) := by decide +kernel
theorem dX9_init_77 : decode cX9_init 77 = .ok (.aload_n 0, 1) := by decide +kernel
theorem dX9_init_78 : decode cX9_init 78 = .ok (.new 52, 3) := by decide +kernel
theorem dX9_init_81 : decode cX9_init 81 = .ok (.dup, 1) := by decide +kernel
theorem dX9_init_82 : decode cX9_init 82 = .ok (.invokespecial 54, 3) := by decide +kernel
theorem dX9_init_85 : decode cX9_init 85 = .ok (.putfield 55, 3) := by decide +kernel
theorem dX9_init_88 : decode cX9_init 88 = .ok (.aload_n 0, 1) := by decide +kernel
theorem dX9_init_89 : decode cX9_init 89 = .ok (.new 59, 3) := by decide +kernel
theorem dX9_init_92 : decode cX9_init 92 = .ok (.dup, 1) := by decide +kernel
theorem dX9_init_93 : decode cX9_init 93 = .ok (.invokespecial 61, 3) := by decide +kernel
theorem dX9_init_96 : decode cX9_init 96 = .ok (.putfield 62, 3) := by decide +kernel
theorem dX9_init_99 : decode cX9_init 99 = .ok (.aload_n 0, 1) := by decide +kernel
theorem dX9_init_100 : decode cX9_init 100 = .ok (.new 59, 3) := by decide +kernel
theorem dX9_init_103 : decode cX9_init 103 = .ok (.dup, 1) := by decide +kernel
theorem dX9_init_104 : decode cX9_init 104 = .ok (.invokespecial 61, 3) := by decide +kernel
theorem dX9_init_107 : decode cX9_init 107 = .ok (.putfield 66, 3) := by decide +kernel
theorem dX9_init_110 : decode cX9_init 110 = .ok (.iconst 0, 1) := by decide +kernel
theorem dX9_init_111 : decode cX9_init 111 = .ok (.istore_n 1, 1) := by decide +kernel
theorem dX9_init_112 : decode cX9_init 112 = .ok (.iload_n 1, 1) := by decide +kernel
theorem dX9_init_113 : decode cX9_init 113 = .ok (.iconst 2, 1) := by decide +kernel
theorem dX9_init_114 : decode cX9_init 114 = .ok (.if_icmp .ge 22, 3) := by decide +kernel
theorem dX9_init_117 : decode cX9_init 117 = .ok (.aload_n 0, 1) := by decide +kernel
theorem dX9_init_118 : decode cX9_init 118 = .ok (.getfield 16, 3) := by decide +kernel
theorem dX9_init_121 : decode cX9_init 121 = .ok (.iload_n 1, 1) := by decide +kernel
theorem dX9_init_122 : decode cX9_init 122 = .ok (.new 9, 3) := by decide +kernel
theorem dX9_init_125 : decode cX9_init 125 = .ok (.dup, 1) := by decide +kernel
theorem dX9_init_126 : decode cX9_init 126 = .ok (.invokespecial 11, 3) := by decide +kernel
theorem dX9_init_129 : decode cX9_init 129 = .ok (.aastore, 1) := by decide +kernel
theorem dX9_init_130 : decode cX9_init 130 = .ok (.iinc 1 1, 3) := by decide +kernel
theorem dX9_init_133 : decode cX9_init 133 = .ok (.goto (-21), 3) := by decide +kernel
theorem dX9_init_136 : decode cX9_init 136 = .ok (.return_, 1) := by decide +kernel
theorem dX9_tongue_0 : decode cX9_tongue 0 = .ok (.iload_n 1, 1) := by decide +kernel
theorem dX9_tongue_1 : decode cX9_tongue 1 = .ok (.iconst 0, 1) := by decide +kernel
theorem dX9_tongue_2 : decode cX9_tongue 2 = .ok (.bipush 15, 2) := by decide +kernel
theorem dX9_tongue_4 : decode cX9_tongue 4 = .ok (.invokestatic 69, 3) := by decide +kernel
theorem dX9_tongue_7 : decode cX9_tongue 7 = .ok (.ifCond .eq 27, 3) := by decide +kernel
theorem dX9_tongue_10 : decode cX9_tongue 10 = .ok (.iload_n 2, 1) := by decide +kernel
theorem dX9_tongue_11 : decode cX9_tongue 11 = .ok (.iconst 0, 1) := by decide +kernel
theorem dX9_tongue_12 : decode cX9_tongue 12 = .ok (.bipush 15, 2) := by decide +kernel
theorem dX9_tongue_14 : decode cX9_tongue 14 = .ok (.invokestatic 69, 3) := by decide +kernel
theorem dX9_tongue_17 : decode cX9_tongue 17 = .ok (.ifCond .eq 17, 3) := by decide +kernel
theorem dX9_tongue_20 : decode cX9_tongue 20 = .ok (.iload_n 3, 1) := by decide +kernel
theorem dX9_tongue_21 : decode cX9_tongue 21 = .ok (.iconst 0, 1) := by decide +kernel
theorem dX9_tongue_22 : decode cX9_tongue 22 = .ok (.bipush 15, 2) := by decide +kernel
theorem dX9_tongue_24 : decode cX9_tongue 24 = .ok (.invokestatic 69, 3) := by decide +kernel
theorem dX9_tongue_27 : decode cX9_tongue 27 = .ok (.ifCond .eq 7, 3) := by decide +kernel
theorem dX9_tongue_30 : decode cX9_tongue 30 = .ok (.iconst 1, 1) := by decide +kernel
theorem dX9_tongue_31 : decode cX9_tongue 31 = .ok (.goto 4, 3) := by decide +kernel
theorem dX9_tongue_34 : decode cX9_tongue 34 = .ok (.iconst 0, 1) := by decide +kernel
theorem dX9_tongue_35 : decode cX9_tongue 35 = .ok (.istore 4, 2) := by decide +kernel
theorem dX9_tongue_37 : decode cX9_tongue 37 = .ok (.iload 4, 2) := by decide +kernel
theorem dX9_tongue_39 : decode cX9_tongue 39 = .ok (.ifCond .eq 11, 3) := by decide +kernel
theorem dX9_tongue_42 : decode cX9_tongue 42 = .ok (.iload_n 1, 1) := by decide +kernel
theorem dX9_tongue_43 : decode cX9_tongue 43 = .ok (.iload_n 2, 1) := by decide +kernel
theorem dX9_tongue_44 : decode cX9_tongue 44 = .ok (.iconst (-1), 1) := by decide +kernel
theorem dX9_tongue_45 : decode cX9_tongue 45 = .ok (.ixor, 1) := by decide +kernel
theorem dX9_tongue_46 : decode cX9_tongue 46 = .ok (.iand, 1) := by decide +kernel
theorem dX9_tongue_47 : decode cX9_tongue 47 = .ok (.ifCond .eq 10, 3) := by decide +kernel
theorem dX9_tongue_50 : decode cX9_tongue 50 = .ok (.aload_n 0, 1) := by decide +kernel
theorem dX9_tongue_51 : decode cX9_tongue 51 = .ok (.bipush (-2), 2) := by decide +kernel
theorem dX9_tongue_53 : decode cX9_tongue 53 = .ok (.invokevirtual 73, 3) := by decide +kernel
theorem dX9_tongue_56 : decode cX9_tongue 56 = .ok (.ireturn, 1) := by decide +kernel
theorem dX9_tongue_57 : decode cX9_tongue 57 = .ok (.aload_n 0, 1) := by decide +kernel
theorem dX9_tongue_58 : decode cX9_tongue 58 = .ok (.getfield 12, 3) := by decide +kernel
theorem dX9_tongue_61 : decode cX9_tongue 61 = .ok (.getfield 77, 3) := by decide +kernel
theorem dX9_tongue_64 : decode cX9_tongue 64 = .ok (.getfield 81, 3) := by decide +kernel
theorem dX9_tongue_67 : decode cX9_tongue 67 = .ok (.bipush 6, 2) := by decide +kernel
theorem dX9_tongue_69 : decode cX9_tongue 69 = .ok (.if_icmp .lt 10, 3) := by decide +kernel
theorem dX9_tongue_72 : decode cX9_tongue 72 = .ok (.aload_n 0, 1) := by decide +kernel
theorem dX9_tongue_73 : decode cX9_tongue 73 = .ok (.bipush (-4), 2) := by decide +kernel
theorem dX9_tongue_75 : decode cX9_tongue 75 = .ok (.invokevirtual 73, 3) := by decide +kernel
theorem dX9_tongue_78 : decode cX9_tongue 78 = .ok (.ireturn, 1) := by decide +kernel
theorem dX9_tongue_79 : decode cX9_tongue 79 = .ok (.aload_n 0, 1) := by decide +kernel
theorem dX9_tongue_80 : decode cX9_tongue 80 = .ok (.getfield 12, 3) := by decide +kernel
theorem dX9_tongue_83 : decode cX9_tongue 83 = .ok (.getfield 77, 3) := by decide +kernel
theorem dX9_tongue_86 : decode cX9_tongue 86 = .ok (.iload_n 1, 1) := by decide +kernel
theorem dX9_tongue_87 : decode cX9_tongue 87 = .ok (.iload_n 2, 1) := by decide +kernel
theorem dX9_tongue_88 : decode cX9_tongue 88 = .ok (.iload_n 3, 1) := by decide +kernel
theorem dX9_tongue_89 : decode cX9_tongue 89 = .ok (.invokevirtual 86, 3) := by decide +kernel
theorem dX9_tongue_92 : decode cX9_tongue 92 = .ok (.ireturn, 1) := by decide +kernel
theorem dX9_word_0 : decode cX9_word 0 = .ok (.iload_n 2, 1) := by decide +kernel
theorem dX9_word_1 : decode cX9_word 1 = .ok (.iconst 1, 1) := by decide +kernel
theorem dX9_word_2 : decode cX9_word 2 = .ok (.sipush 255, 3) := by decide +kernel
theorem dX9_word_5 : decode cX9_word 5 = .ok (.invokestatic 69, 3) := by decide +kernel
theorem dX9_word_8 : decode cX9_word 8 = .ok (.ifCond .eq 28, 3) := by decide +kernel
theorem dX9_word_11 : decode cX9_word 11 = .ok (.iload_n 3, 1) := by decide +kernel
theorem dX9_word_12 : decode cX9_word 12 = .ok (.iconst 0, 1) := by decide +kernel
theorem dX9_word_13 : decode cX9_word 13 = .ok (.bipush 9, 2) := by decide +kernel
theorem dX9_word_15 : decode cX9_word 15 = .ok (.invokestatic 69, 3) := by decide +kernel
theorem dX9_word_18 : decode cX9_word 18 = .ok (.ifCond .eq 18, 3) := by decide +kernel
theorem dX9_word_21 : decode cX9_word 21 = .ok (.iload 4, 2) := by decide +kernel
theorem dX9_word_23 : decode cX9_word 23 = .ok (.iconst 0, 1) := by decide +kernel
theorem dX9_word_24 : decode cX9_word 24 = .ok (.bipush 9, 2) := by decide +kernel
theorem dX9_word_26 : decode cX9_word 26 = .ok (.invokestatic 69, 3) := by decide +kernel
theorem dX9_word_29 : decode cX9_word 29 = .ok (.ifCond .eq 7, 3) := by decide +kernel
theorem dX9_word_32 : decode cX9_word 32 = .ok (.iconst 1, 1) := by decide +kernel
theorem dX9_word_33 : decode cX9_word 33 = .ok (.goto 4, 3) := by decide +kernel
theorem dX9_word_36 : decode cX9_word 36 = .ok (.iconst 0, 1) := by decide +kernel
theorem dX9_word_37 : decode cX9_word 37 = .ok (.istore 5, 2) := by decide +kernel
theorem dX9_word_39 : decode cX9_word 39 = .ok (.iload 5, 2) := by decide +kernel
theorem dX9_word_41 : decode cX9_word 41 = .ok (.ifCond .eq 17, 3) := by decide +kernel
theorem dX9_word_44 : decode cX9_word 44 = .ok (.aload_n 0, 1) := by decide +kernel
theorem dX9_word_45 : decode cX9_word 45 = .ok (.getfield 12, 3) := by decide +kernel
theorem dX9_word_48 : decode cX9_word 48 = .ok (.getfield 77, 3) := by decide +kernel
theorem dX9_word_51 : decode cX9_word 51 = .ok (.iload_n 1, 1) := by decide +kernel
theorem dX9_word_52 : decode cX9_word 52 = .ok (.invokevirtual 90, 3) := by decide +kernel
theorem dX9_word_55 : decode cX9_word 55 = .ok (.ifCond .ne 10, 3) := by decide +kernel
theorem dX9_word_58 : decode cX9_word 58 = .ok (.aload_n 0, 1) := by decide +kernel
theorem dX9_word_59 : decode cX9_word 59 = .ok (.bipush (-2), 2) := by decide +kernel
theorem dX9_word_61 : decode cX9_word 61 = .ok (.invokevirtual 73, 3) := by decide +kernel
theorem dX9_word_64 : decode cX9_word 64 = .ok (.ireturn, 1) := by decide +kernel
theorem dX9_word_65 : decode cX9_word 65 = .ok (.aload_n 0, 1) := by decide +kernel
theorem dX9_word_66 : decode cX9_word 66 = .ok (.getfield 12, 3) := by decide +kernel
theorem dX9_word_69 : decode cX9_word 69 = .ok (.getfield 77, 3) := by decide +kernel
theorem dX9_word_72 : decode cX9_word 72 = .ok (.getfield 94, 3) := by decide +kernel
theorem dX9_word_75 : decode cX9_word 75 = .ok (.iload_n 1, 1) := by decide +kernel
theorem dX9_word_76 : decode cX9_word 76 = .ok (.iaload, 1) := by decide +kernel
theorem dX9_word_77 : decode cX9_word 77 = .ok (.bipush 8, 2) := by decide +kernel
theorem dX9_word_79 : decode cX9_word 79 = .ok (.if_icmp .lt 10, 3) := by decide +kernel
theorem dX9_word_82 : decode cX9_word 82 = .ok (.aload_n 0, 1) := by decide +kernel
theorem dX9_word_83 : decode cX9_word 83 = .ok (.bipush (-4), 2) := by decide +kernel
theorem dX9_word_85 : decode cX9_word 85 = .ok (.invokevirtual 73, 3) := by decide +kernel
theorem dX9_word_88 : decode cX9_word 88 = .ok (.ireturn, 1) := by decide +kernel
theorem dX9_word_89 : decode cX9_word 89 = .ok (.aload_n 0, 1) := by decide +kernel
theorem dX9_word_90 : decode cX9_word 90 = .ok (.getfield 12, 3) := by decide +kernel
theorem dX9_word_93 : decode cX9_word 93 = .ok (.getfield 77, 3) := by decide +kernel
theorem dX9_word_96 : decode cX9_word 96 = .ok (.iload_n 1, 1) := by decide +kernel
theorem dX9_word_97 : decode cX9_word 97 = .ok (.iload_n 2, 1) := by decide +kernel
theorem dX9_word_98 : decode cX9_word 98 = .ok (.iload_n 3, 1) := by decide +kernel
theorem dX9_word_99 : decode cX9_word 99 = .ok (.iload 4, 2) := by decide +kernel
theorem dX9_word_101 : decode cX9_word 101 = .ok (.invokevirtual 97, 3) := by decide +kernel
theorem dX9_word_104 : decode cX9_word 104 = .ok (.ireturn, 1) := by decide +kernel
theorem dX9_put_0 : decode cX9_put 0 = .ok (.iload_n 1, 1) := by decide +kernel
theorem dX9_put_1 : decode cX9_put 1 = .ok (.iconst 0, 1) := by decide +kernel
theorem dX9_put_2 : decode cX9_put 2 = .ok (.iconst 1, 1) := by decide +kernel
theorem dX9_put_3 : decode cX9_put 3 = .ok (.invokestatic 69, 3) := by decide +kernel
theorem dX9_put_6 : decode cX9_put 6 = .ok (.ifCond .eq 13, 3) := by decide +kernel
theorem dX9_put_9 : decode cX9_put 9 = .ok (.iload_n 2, 1) := by decide +kernel
theorem dX9_put_10 : decode cX9_put 10 = .ok (.iconst 0, 1) := by decide +kernel
theorem dX9_put_11 : decode cX9_put 11 = .ok (.bipush 9, 2) := by decide +kernel
theorem dX9_put_13 : decode cX9_put 13 = .ok (.invokestatic 69, 3) := by decide +kernel
theorem dX9_put_16 : decode cX9_put 16 = .ok (.ifCond .ne 10, 3) := by decide +kernel
theorem dX9_put_19 : decode cX9_put 19 = .ok (.aload_n 0, 1) := by decide +kernel
theorem dX9_put_20 : decode cX9_put 20 = .ok (.bipush (-2), 2) := by decide +kernel
theorem dX9_put_22 : decode cX9_put 22 = .ok (.invokevirtual 73, 3) := by decide +kernel
theorem dX9_put_25 : decode cX9_put 25 = .ok (.ireturn, 1) := by decide +kernel
theorem dX9_put_26 : decode cX9_put 26 = .ok (.iload_n 1, 1) := by decide +kernel
theorem dX9_put_27 : decode cX9_put 27 = .ok (.ifCond .ne 16, 3) := by decide +kernel
theorem dX9_put_30 : decode cX9_put 30 = .ok (.aload_n 0, 1) := by decide +kernel
theorem dX9_put_31 : decode cX9_put 31 = .ok (.getfield 12, 3) := by decide +kernel
theorem dX9_put_34 : decode cX9_put 34 = .ok (.getfield 77, 3) := by decide +kernel
theorem dX9_put_37 : decode cX9_put 37 = .ok (.getfield 101, 3) := by decide +kernel
theorem dX9_put_40 : decode cX9_put 40 = .ok (.goto 13, 3) := by decide +kernel
theorem dX9_put_43 : decode cX9_put 43 = .ok (.aload_n 0, 1) := by decide +kernel
theorem dX9_put_44 : decode cX9_put 44 = .ok (.getfield 12, 3) := by decide +kernel
theorem dX9_put_47 : decode cX9_put 47 = .ok (.getfield 77, 3) := by decide +kernel
theorem dX9_put_50 : decode cX9_put 50 = .ok (.getfield 104, 3) := by decide +kernel
theorem dX9_put_53 : decode cX9_put 53 = .ok (.istore_n 3, 1) := by decide +kernel
theorem dX9_put_54 : decode cX9_put 54 = .ok (.iload_n 1, 1) := by decide +kernel
theorem dX9_put_55 : decode cX9_put 55 = .ok (.ifCond .ne 17, 3) := by decide +kernel
theorem dX9_put_58 : decode cX9_put 58 = .ok (.aload_n 0, 1) := by decide +kernel
theorem dX9_put_59 : decode cX9_put 59 = .ok (.getfield 12, 3) := by decide +kernel
theorem dX9_put_62 : decode cX9_put 62 = .ok (.getfield 77, 3) := by decide +kernel
theorem dX9_put_65 : decode cX9_put 65 = .ok (.iload_n 2, 1) := by decide +kernel
theorem dX9_put_66 : decode cX9_put 66 = .ok (.putfield 101, 3) := by decide +kernel
theorem dX9_put_69 : decode cX9_put 69 = .ok (.goto 14, 3) := by decide +kernel
theorem dX9_put_72 : decode cX9_put 72 = .ok (.aload_n 0, 1) := by decide +kernel
theorem dX9_put_73 : decode cX9_put 73 = .ok (.getfield 12, 3) := by decide +kernel
theorem dX9_put_76 : decode cX9_put 76 = .ok (.getfield 77, 3) := by decide +kernel
theorem dX9_put_79 : decode cX9_put 79 = .ok (.iload_n 2, 1) := by decide +kernel
theorem dX9_put_80 : decode cX9_put 80 = .ok (.putfield 104, 3) := by decide +kernel
theorem dX9_put_83 : decode cX9_put 83 = .ok (.iload_n 3, 1) := by decide +kernel
theorem dX9_put_84 : decode cX9_put 84 = .ok (.ireturn, 1) := by decide +kernel
theorem dX9_say_0 : decode cX9_say 0 = .ok (.iload_n 1, 1) := by decide +kernel
theorem dX9_say_1 : decode cX9_say 1 = .ok (.iconst 1, 1) := by decide +kernel
theorem dX9_say_2 : decode cX9_say 2 = .ok (.sipush 255, 3) := by decide +kernel
theorem dX9_say_5 : decode cX9_say 5 = .ok (.invokestatic 69, 3) := by decide +kernel
theorem dX9_say_8 : decode cX9_say 8 = .ok (.ifCond .ne 10, 3) := by decide +kernel
theorem dX9_say_11 : decode cX9_say 11 = .ok (.aload_n 0, 1) := by decide +kernel
theorem dX9_say_12 : decode cX9_say 12 = .ok (.bipush (-2), 2) := by decide +kernel
theorem dX9_say_14 : decode cX9_say 14 = .ok (.invokevirtual 73, 3) := by decide +kernel
theorem dX9_say_17 : decode cX9_say 17 = .ok (.ireturn, 1) := by decide +kernel
theorem dX9_say_18 : decode cX9_say 18 = .ok (.aload_n 0, 1) := by decide +kernel
theorem dX9_say_19 : decode cX9_say 19 = .ok (.getfield 12, 3) := by decide +kernel
theorem dX9_say_22 : decode cX9_say 22 = .ok (.getfield 107, 3) := by decide +kernel
theorem dX9_say_25 : decode cX9_say 25 = .ok (.getfield 110, 3) := by decide +kernel
theorem dX9_say_28 : decode cX9_say 28 = .ok (.bipush 6, 2) := by decide +kernel
theorem dX9_say_30 : decode cX9_say 30 = .ok (.if_icmp .lt 10, 3) := by decide +kernel
theorem dX9_say_33 : decode cX9_say 33 = .ok (.aload_n 0, 1) := by decide +kernel
theorem dX9_say_34 : decode cX9_say 34 = .ok (.bipush (-4), 2) := by decide +kernel
theorem dX9_say_36 : decode cX9_say 36 = .ok (.invokevirtual 73, 3) := by decide +kernel
theorem dX9_say_39 : decode cX9_say 39 = .ok (.ireturn, 1) := by decide +kernel
theorem dX9_say_40 : decode cX9_say 40 = .ok (.aload_n 0, 1) := by decide +kernel
theorem dX9_say_41 : decode cX9_say 41 = .ok (.getfield 12, 3) := by decide +kernel
theorem dX9_say_44 : decode cX9_say 44 = .ok (.getfield 107, 3) := by decide +kernel
theorem dX9_say_47 : decode cX9_say 47 = .ok (.iload_n 1, 1) := by decide +kernel
theorem dX9_say_48 : decode cX9_say 48 = .ok (.invokevirtual 113, 3) := by decide +kernel
theorem dX9_say_51 : decode cX9_say 51 = .ok (.ireturn, 1) := by decide +kernel
theorem dX9_form_0 : decode cX9_form 0 = .ok (.iload_n 1, 1) := by decide +kernel
theorem dX9_form_1 : decode cX9_form 1 = .ok (.iconst 0, 1) := by decide +kernel
theorem dX9_form_2 : decode cX9_form 2 = .ok (.iconst 3, 1) := by decide +kernel
theorem dX9_form_3 : decode cX9_form 3 = .ok (.invokestatic 69, 3) := by decide +kernel
theorem dX9_form_6 : decode cX9_form 6 = .ok (.ifCond .eq 12, 3) := by decide +kernel
theorem dX9_form_9 : decode cX9_form 9 = .ok (.iload_n 2, 1) := by decide +kernel
theorem dX9_form_10 : decode cX9_form 10 = .ok (.iconst (-1), 1) := by decide +kernel
theorem dX9_form_11 : decode cX9_form 11 = .ok (.iconst 1, 1) := by decide +kernel
theorem dX9_form_12 : decode cX9_form 12 = .ok (.invokestatic 69, 3) := by decide +kernel
theorem dX9_form_15 : decode cX9_form 15 = .ok (.ifCond .ne 12, 3) := by decide +kernel
theorem dX9_form_18 : decode cX9_form 18 = .ok (.aload_n 0, 1) := by decide +kernel
theorem dX9_form_19 : decode cX9_form 19 = .ok (.bipush (-2), 2) := by decide +kernel
theorem dX9_form_21 : decode cX9_form 21 = .ok (.bipush (-10), 2) := by decide +kernel
theorem dX9_form_23 : decode cX9_form 23 = .ok (.invokevirtual 116, 3) := by decide +kernel
theorem dX9_form_26 : decode cX9_form 26 = .ok (.ireturn, 1) := by decide +kernel
theorem dX9_form_27 : decode cX9_form 27 = .ok (.aload_n 0, 1) := by decide +kernel
theorem dX9_form_28 : decode cX9_form 28 = .ok (.getfield 12, 3) := by decide +kernel
theorem dX9_form_31 : decode cX9_form 31 = .ok (.getfield 107, 3) := by decide +kernel
theorem dX9_form_34 : decode cX9_form 34 = .ok (.getfield 119, 3) := by decide +kernel
theorem dX9_form_37 : decode cX9_form 37 = .ok (.iload_n 1, 1) := by decide +kernel
theorem dX9_form_38 : decode cX9_form 38 = .ok (.iaload, 1) := by decide +kernel
theorem dX9_form_39 : decode cX9_form 39 = .ok (.istore_n 3, 1) := by decide +kernel
theorem dX9_form_40 : decode cX9_form 40 = .ok (.aload_n 0, 1) := by decide +kernel
theorem dX9_form_41 : decode cX9_form 41 = .ok (.getfield 12, 3) := by decide +kernel
theorem dX9_form_44 : decode cX9_form 44 = .ok (.getfield 107, 3) := by decide +kernel
theorem dX9_form_47 : decode cX9_form 47 = .ok (.getfield 119, 3) := by decide +kernel
theorem dX9_form_50 : decode cX9_form 50 = .ok (.iload_n 1, 1) := by decide +kernel
theorem dX9_form_51 : decode cX9_form 51 = .ok (.iload_n 2, 1) := by decide +kernel
theorem dX9_form_52 : decode cX9_form 52 = .ok (.iastore, 1) := by decide +kernel
theorem dX9_form_53 : decode cX9_form 53 = .ok (.iload_n 3, 1) := by decide +kernel
theorem dX9_form_54 : decode cX9_form 54 = .ok (.ireturn, 1) := by decide +kernel
theorem dX9_hush_0 : decode cX9_hush 0 = .ok (.aload_n 0, 1) := by decide +kernel
theorem dX9_hush_1 : decode cX9_hush 1 = .ok (.getfield 12, 3) := by decide +kernel
theorem dX9_hush_4 : decode cX9_hush 4 = .ok (.getfield 107, 3) := by decide +kernel
theorem dX9_hush_7 : decode cX9_hush 7 = .ok (.getfield 110, 3) := by decide +kernel
theorem dX9_hush_10 : decode cX9_hush 10 = .ok (.istore_n 1, 1) := by decide +kernel
theorem dX9_hush_11 : decode cX9_hush 11 = .ok (.aload_n 0, 1) := by decide +kernel
theorem dX9_hush_12 : decode cX9_hush 12 = .ok (.getfield 12, 3) := by decide +kernel
theorem dX9_hush_15 : decode cX9_hush 15 = .ok (.getfield 107, 3) := by decide +kernel
theorem dX9_hush_18 : decode cX9_hush 18 = .ok (.invokevirtual 122, 3) := by decide +kernel
theorem dX9_hush_21 : decode cX9_hush 21 = .ok (.iload_n 1, 1) := by decide +kernel
theorem dX9_hush_22 : decode cX9_hush 22 = .ok (.ireturn, 1) := by decide +kernel
theorem dX9_cost_0 : decode cX9_cost 0 = .ok (.iload_n 1, 1) := by decide +kernel
theorem dX9_cost_1 : decode cX9_cost 1 = .ok (.invokestatic 125, 3) := by decide +kernel
theorem dX9_cost_4 : decode cX9_cost 4 = .ok (.ifCond .eq 27, 3) := by decide +kernel
theorem dX9_cost_7 : decode cX9_cost 7 = .ok (.aload_n 0, 1) := by decide +kernel
theorem dX9_cost_8 : decode cX9_cost 8 = .ok (.iload_n 2, 1) := by decide +kernel
theorem dX9_cost_9 : decode cX9_cost 9 = .ok (.invokevirtual 128, 3) := by decide +kernel
theorem dX9_cost_12 : decode cX9_cost 12 = .ok (.ifCond .eq 19, 3) := by decide +kernel
theorem dX9_cost_15 : decode cX9_cost 15 = .ok (.aload_n 0, 1) := by decide +kernel
theorem dX9_cost_16 : decode cX9_cost 16 = .ok (.getfield 12, 3) := by decide +kernel
theorem dX9_cost_19 : decode cX9_cost 19 = .ok (.getfield 77, 3) := by decide +kernel
theorem dX9_cost_22 : decode cX9_cost 22 = .ok (.iload_n 3, 1) := by decide +kernel
theorem dX9_cost_23 : decode cX9_cost 23 = .ok (.iload 4, 2) := by decide +kernel
theorem dX9_cost_25 : decode cX9_cost 25 = .ok (.invokevirtual 131, 3) := by decide +kernel
theorem dX9_cost_28 : decode cX9_cost 28 = .ok (.ifCond .ne 13, 3) := by decide +kernel
theorem dX9_cost_31 : decode cX9_cost 31 = .ok (.aload_n 0, 1) := by decide +kernel
theorem dX9_cost_32 : decode cX9_cost 32 = .ok (.bipush (-2), 2) := by decide +kernel
theorem dX9_cost_34 : decode cX9_cost 34 = .ok (.sipush (-1000), 3) := by decide +kernel
theorem dX9_cost_37 : decode cX9_cost 37 = .ok (.invokevirtual 116, 3) := by decide +kernel
theorem dX9_cost_40 : decode cX9_cost 40 = .ok (.ireturn, 1) := by decide +kernel
theorem dX9_cost_41 : decode cX9_cost 41 = .ok (.aload_n 0, 1) := by decide +kernel
theorem dX9_cost_42 : decode cX9_cost 42 = .ok (.getfield 12, 3) := by decide +kernel
theorem dX9_cost_45 : decode cX9_cost 45 = .ok (.getfield 107, 3) := by decide +kernel
theorem dX9_cost_48 : decode cX9_cost 48 = .ok (.astore 5, 2) := by decide +kernel
theorem dX9_cost_50 : decode cX9_cost 50 = .ok (.aload_n 0, 1) := by decide +kernel
theorem dX9_cost_51 : decode cX9_cost 51 = .ok (.getfield 12, 3) := by decide +kernel
theorem dX9_cost_54 : decode cX9_cost 54 = .ok (.getfield 77, 3) := by decide +kernel
theorem dX9_cost_57 : decode cX9_cost 57 = .ok (.iload_n 1, 1) := by decide +kernel
theorem dX9_cost_58 : decode cX9_cost 58 = .ok (.aload 5, 2) := by decide +kernel
theorem dX9_cost_60 : decode cX9_cost 60 = .ok (.getfield 135, 3) := by decide +kernel
theorem dX9_cost_63 : decode cX9_cost 63 = .ok (.iload_n 2, 1) := by decide +kernel
theorem dX9_cost_64 : decode cX9_cost 64 = .ok (.iaload, 1) := by decide +kernel
theorem dX9_cost_65 : decode cX9_cost 65 = .ok (.aload 5, 2) := by decide +kernel
theorem dX9_cost_67 : decode cX9_cost 67 = .ok (.getfield 138, 3) := by decide +kernel
theorem dX9_cost_70 : decode cX9_cost 70 = .ok (.iload_n 2, 1) := by decide +kernel
theorem dX9_cost_71 : decode cX9_cost 71 = .ok (.iaload, 1) := by decide +kernel
theorem dX9_cost_72 : decode cX9_cost 72 = .ok (.iload_n 3, 1) := by decide +kernel
theorem dX9_cost_73 : decode cX9_cost 73 = .ok (.bipush 8, 2) := by decide +kernel
theorem dX9_cost_75 : decode cX9_cost 75 = .ok (.imul, 1) := by decide +kernel
theorem dX9_cost_76 : decode cX9_cost 76 = .ok (.iload 4, 2) := by decide +kernel
theorem dX9_cost_78 : decode cX9_cost 78 = .ok (.iadd, 1) := by decide +kernel
theorem dX9_cost_79 : decode cX9_cost 79 = .ok (.invokevirtual 141, 3) := by decide +kernel
theorem dX9_cost_82 : decode cX9_cost 82 = .ok (.ireturn, 1) := by decide +kernel
theorem dX9_type_0 : decode cX9_type 0 = .ok (.iload_n 3, 1) := by decide +kernel
theorem dX9_type_1 : decode cX9_type 1 = .ok (.iconst 1, 1) := by decide +kernel
theorem dX9_type_2 : decode cX9_type 2 = .ok (.bipush 8, 2) := by decide +kernel
theorem dX9_type_4 : decode cX9_type 4 = .ok (.invokestatic 69, 3) := by decide +kernel
theorem dX9_type_7 : decode cX9_type 7 = .ok (.ifCond .ne 10, 3) := by decide +kernel
theorem dX9_type_10 : decode cX9_type 10 = .ok (.aload_n 0, 1) := by decide +kernel
theorem dX9_type_11 : decode cX9_type 11 = .ok (.bipush (-2), 2) := by decide +kernel
theorem dX9_type_13 : decode cX9_type 13 = .ok (.invokevirtual 73, 3) := by decide +kernel
theorem dX9_type_16 : decode cX9_type 16 = .ok (.ireturn, 1) := by decide +kernel
theorem dX9_type_17 : decode cX9_type 17 = .ok (.aload_n 0, 1) := by decide +kernel
theorem dX9_type_18 : decode cX9_type 18 = .ok (.getfield 12, 3) := by decide +kernel
theorem dX9_type_21 : decode cX9_type 21 = .ok (.getfield 144, 3) := by decide +kernel
theorem dX9_type_24 : decode cX9_type 24 = .ok (.getfield 148, 3) := by decide +kernel
theorem dX9_type_27 : decode cX9_type 27 = .ok (.iload_n 3, 1) := by decide +kernel
theorem dX9_type_28 : decode cX9_type 28 = .ok (.iadd, 1) := by decide +kernel
theorem dX9_type_29 : decode cX9_type 29 = .ok (.bipush 60, 2) := by decide +kernel
theorem dX9_type_31 : decode cX9_type 31 = .ok (.if_icmp .le 10, 3) := by decide +kernel
theorem dX9_type_34 : decode cX9_type 34 = .ok (.aload_n 0, 1) := by decide +kernel
theorem dX9_type_35 : decode cX9_type 35 = .ok (.bipush (-4), 2) := by decide +kernel
theorem dX9_type_37 : decode cX9_type 37 = .ok (.invokevirtual 73, 3) := by decide +kernel
theorem dX9_type_40 : decode cX9_type 40 = .ok (.ireturn, 1) := by decide +kernel
theorem dX9_type_41 : decode cX9_type 41 = .ok (.aload_n 0, 1) := by decide +kernel
theorem dX9_type_42 : decode cX9_type 42 = .ok (.getfield 12, 3) := by decide +kernel
theorem dX9_type_45 : decode cX9_type 45 = .ok (.getfield 144, 3) := by decide +kernel
theorem dX9_type_48 : decode cX9_type 48 = .ok (.lload_n 1, 1) := by decide +kernel
theorem dX9_type_49 : decode cX9_type 49 = .ok (.iload_n 3, 1) := by decide +kernel
theorem dX9_type_50 : decode cX9_type 50 = .ok (.invokevirtual 153, 3) := by decide +kernel
theorem dX9_type_53 : decode cX9_type 53 = .ok (.aload_n 0, 1) := by decide +kernel
theorem dX9_type_54 : decode cX9_type 54 = .ok (.getfield 12, 3) := by decide +kernel
theorem dX9_type_57 : decode cX9_type 57 = .ok (.getfield 144, 3) := by decide +kernel
theorem dX9_type_60 : decode cX9_type 60 = .ok (.getfield 148, 3) := by decide +kernel
theorem dX9_type_63 : decode cX9_type 63 = .ok (.ireturn, 1) := by decide +kernel
theorem dX9_clear_0 : decode cX9_clear 0 = .ok (.aload_n 0, 1) := by decide +kernel
theorem dX9_clear_1 : decode cX9_clear 1 = .ok (.getfield 12, 3) := by decide +kernel
theorem dX9_clear_4 : decode cX9_clear 4 = .ok (.getfield 144, 3) := by decide +kernel
theorem dX9_clear_7 : decode cX9_clear 7 = .ok (.getfield 148, 3) := by decide +kernel
theorem dX9_clear_10 : decode cX9_clear 10 = .ok (.istore_n 1, 1) := by decide +kernel
theorem dX9_clear_11 : decode cX9_clear 11 = .ok (.aload_n 0, 1) := by decide +kernel
theorem dX9_clear_12 : decode cX9_clear 12 = .ok (.getfield 12, 3) := by decide +kernel
theorem dX9_clear_15 : decode cX9_clear 15 = .ok (.getfield 144, 3) := by decide +kernel
theorem dX9_clear_18 : decode cX9_clear 18 = .ok (.iconst 0, 1) := by decide +kernel
theorem dX9_clear_19 : decode cX9_clear 19 = .ok (.putfield 148, 3) := by decide +kernel
theorem dX9_clear_22 : decode cX9_clear 22 = .ok (.iload_n 1, 1) := by decide +kernel
theorem dX9_clear_23 : decode cX9_clear 23 = .ok (.ireturn, 1) := by decide +kernel
theorem dX9_fault_0 : decode cX9_fault 0 = .ok (.aload_n 0, 1) := by decide +kernel
theorem dX9_fault_1 : decode cX9_fault 1 = .ok (.getfield 38, 3) := by decide +kernel
theorem dX9_fault_4 : decode cX9_fault 4 = .ok (.aload_n 0, 1) := by decide +kernel
theorem dX9_fault_5 : decode cX9_fault 5 = .ok (.getfield 12, 3) := by decide +kernel
theorem dX9_fault_8 : decode cX9_fault 8 = .ok (.getfield 144, 3) := by decide +kernel
theorem dX9_fault_11 : decode cX9_fault 11 = .ok (.aload_n 0, 1) := by decide +kernel
theorem dX9_fault_12 : decode cX9_fault 12 = .ok (.getfield 12, 3) := by decide +kernel
theorem dX9_fault_15 : decode cX9_fault 15 = .ok (.getfield 77, 3) := by decide +kernel
theorem dX9_fault_18 : decode cX9_fault 18 = .ok (.invokevirtual 157, 3) := by decide +kernel
theorem dX9_fault_21 : decode cX9_fault 21 = .ok (.aload_n 0, 1) := by decide +kernel
theorem dX9_fault_22 : decode cX9_fault 22 = .ok (.getfield 38, 3) := by decide +kernel
theorem dX9_fault_25 : decode cX9_fault 25 = .ok (.getfield 161, 3) := by decide +kernel
theorem dX9_fault_28 : decode cX9_fault 28 = .ok (.ireturn, 1) := by decide +kernel
theorem dX9_length_0 : decode cX9_length 0 = .ok (.aload_n 0, 1) := by decide +kernel
theorem dX9_length_1 : decode cX9_length 1 = .ok (.getfield 38, 3) := by decide +kernel
theorem dX9_length_4 : decode cX9_length 4 = .ok (.aload_n 0, 1) := by decide +kernel
theorem dX9_length_5 : decode cX9_length 5 = .ok (.getfield 12, 3) := by decide +kernel
theorem dX9_length_8 : decode cX9_length 8 = .ok (.getfield 144, 3) := by decide +kernel
theorem dX9_length_11 : decode cX9_length 11 = .ok (.aload_n 0, 1) := by decide +kernel
theorem dX9_length_12 : decode cX9_length 12 = .ok (.getfield 12, 3) := by decide +kernel
theorem dX9_length_15 : decode cX9_length 15 = .ok (.getfield 77, 3) := by decide +kernel
theorem dX9_length_18 : decode cX9_length 18 = .ok (.invokevirtual 157, 3) := by decide +kernel
theorem dX9_length_21 : decode cX9_length 21 = .ok (.aload_n 0, 1) := by decide +kernel
theorem dX9_length_22 : decode cX9_length 22 = .ok (.getfield 38, 3) := by decide +kernel
theorem dX9_length_25 : decode cX9_length 25 = .ok (.invokevirtual 164, 3) := by decide +kernel
theorem dX9_length_28 : decode cX9_length 28 = .ok (.ifCond .eq 13, 3) := by decide +kernel
theorem dX9_length_31 : decode cX9_length 31 = .ok (.aload_n 0, 1) := by decide +kernel
theorem dX9_length_32 : decode cX9_length 32 = .ok (.getfield 38, 3) := by decide +kernel
theorem dX9_length_35 : decode cX9_length 35 = .ok (.getfield 168, 3) := by decide +kernel
theorem dX9_length_38 : decode cX9_length 38 = .ok (.goto 9, 3) := by decide +kernel
theorem dX9_length_41 : decode cX9_length 41 = .ok (.aload_n 0, 1) := by decide +kernel
theorem dX9_length_42 : decode cX9_length 42 = .ok (.bipush (-3), 2) := by decide +kernel
theorem dX9_length_44 : decode cX9_length 44 = .ok (.invokevirtual 73, 3) := by decide +kernel
theorem dX9_length_47 : decode cX9_length 47 = .ok (.ireturn, 1) := by decide +kernel
theorem dX9_parts_0 : decode cX9_parts 0 = .ok (.aload_n 0, 1) := by decide +kernel
theorem dX9_parts_1 : decode cX9_parts 1 = .ok (.invokevirtual 171, 3) := by decide +kernel
theorem dX9_parts_4 : decode cX9_parts 4 = .ok (.ifCond .ne 10, 3) := by decide +kernel
theorem dX9_parts_7 : decode cX9_parts 7 = .ok (.aload_n 0, 1) := by decide +kernel
theorem dX9_parts_8 : decode cX9_parts 8 = .ok (.bipush (-3), 2) := by decide +kernel
theorem dX9_parts_10 : decode cX9_parts 10 = .ok (.invokevirtual 73, 3) := by decide +kernel
theorem dX9_parts_13 : decode cX9_parts 13 = .ok (.ireturn, 1) := by decide +kernel
theorem dX9_parts_14 : decode cX9_parts 14 = .ok (.aload_n 0, 1) := by decide +kernel
theorem dX9_parts_15 : decode cX9_parts 15 = .ok (.iload_n 1, 1) := by decide +kernel
theorem dX9_parts_16 : decode cX9_parts 16 = .ok (.invokevirtual 174, 3) := by decide +kernel
theorem dX9_parts_19 : decode cX9_parts 19 = .ok (.ifCond .eq 11, 3) := by decide +kernel
theorem dX9_parts_22 : decode cX9_parts 22 = .ok (.aload_n 0, 1) := by decide +kernel
theorem dX9_parts_23 : decode cX9_parts 23 = .ok (.iload_n 2, 1) := by decide +kernel
theorem dX9_parts_24 : decode cX9_parts 24 = .ok (.invokevirtual 128, 3) := by decide +kernel
theorem dX9_parts_27 : decode cX9_parts 27 = .ok (.ifCond .ne 10, 3) := by decide +kernel
theorem dX9_parts_30 : decode cX9_parts 30 = .ok (.aload_n 0, 1) := by decide +kernel
theorem dX9_parts_31 : decode cX9_parts 31 = .ok (.bipush (-2), 2) := by decide +kernel
theorem dX9_parts_33 : decode cX9_parts 33 = .ok (.invokevirtual 73, 3) := by decide +kernel
theorem dX9_parts_36 : decode cX9_parts 36 = .ok (.ireturn, 1) := by decide +kernel
theorem dX9_parts_37 : decode cX9_parts 37 = .ok (.aload_n 0, 1) := by decide +kernel
theorem dX9_parts_38 : decode cX9_parts 38 = .ok (.aload_n 0, 1) := by decide +kernel
theorem dX9_parts_39 : decode cX9_parts 39 = .ok (.getfield 62, 3) := by decide +kernel
theorem dX9_parts_42 : decode cX9_parts 42 = .ok (.iload_n 1, 1) := by decide +kernel
theorem dX9_parts_43 : decode cX9_parts 43 = .ok (.invokevirtual 177, 3) := by decide +kernel
theorem dX9_parts_46 : decode cX9_parts 46 = .ok (.aload_n 0, 1) := by decide +kernel
theorem dX9_parts_47 : decode cX9_parts 47 = .ok (.getfield 62, 3) := by decide +kernel
theorem dX9_parts_50 : decode cX9_parts 50 = .ok (.getfield 135, 3) := by decide +kernel
theorem dX9_parts_53 : decode cX9_parts 53 = .ok (.iload_n 2, 1) := by decide +kernel
theorem dX9_parts_54 : decode cX9_parts 54 = .ok (.iaload, 1) := by decide +kernel
theorem dX9_parts_55 : decode cX9_parts 55 = .ok (.ireturn, 1) := by decide +kernel
theorem dX9_formOf_0 : decode cX9_formOf 0 = .ok (.aload_n 0, 1) := by decide +kernel
theorem dX9_formOf_1 : decode cX9_formOf 1 = .ok (.invokevirtual 171, 3) := by decide +kernel
theorem dX9_formOf_4 : decode cX9_formOf 4 = .ok (.ifCond .ne 10, 3) := by decide +kernel
theorem dX9_formOf_7 : decode cX9_formOf 7 = .ok (.aload_n 0, 1) := by decide +kernel
theorem dX9_formOf_8 : decode cX9_formOf 8 = .ok (.bipush (-3), 2) := by decide +kernel
theorem dX9_formOf_10 : decode cX9_formOf 10 = .ok (.invokevirtual 73, 3) := by decide +kernel
theorem dX9_formOf_13 : decode cX9_formOf 13 = .ok (.ireturn, 1) := by decide +kernel
theorem dX9_formOf_14 : decode cX9_formOf 14 = .ok (.aload_n 0, 1) := by decide +kernel
theorem dX9_formOf_15 : decode cX9_formOf 15 = .ok (.iload_n 1, 1) := by decide +kernel
theorem dX9_formOf_16 : decode cX9_formOf 16 = .ok (.invokevirtual 174, 3) := by decide +kernel
theorem dX9_formOf_19 : decode cX9_formOf 19 = .ok (.ifCond .eq 12, 3) := by decide +kernel
theorem dX9_formOf_22 : decode cX9_formOf 22 = .ok (.iload_n 2, 1) := by decide +kernel
theorem dX9_formOf_23 : decode cX9_formOf 23 = .ok (.iconst 0, 1) := by decide +kernel
theorem dX9_formOf_24 : decode cX9_formOf 24 = .ok (.iconst 3, 1) := by decide +kernel
theorem dX9_formOf_25 : decode cX9_formOf 25 = .ok (.invokestatic 69, 3) := by decide +kernel
theorem dX9_formOf_28 : decode cX9_formOf 28 = .ok (.ifCond .ne 12, 3) := by decide +kernel
theorem dX9_formOf_31 : decode cX9_formOf 31 = .ok (.aload_n 0, 1) := by decide +kernel
theorem dX9_formOf_32 : decode cX9_formOf 32 = .ok (.bipush (-2), 2) := by decide +kernel
theorem dX9_formOf_34 : decode cX9_formOf 34 = .ok (.bipush (-10), 2) := by decide +kernel
theorem dX9_formOf_36 : decode cX9_formOf 36 = .ok (.invokevirtual 116, 3) := by decide +kernel
theorem dX9_formOf_39 : decode cX9_formOf 39 = .ok (.ireturn, 1) := by decide +kernel
theorem dX9_formOf_40 : decode cX9_formOf 40 = .ok (.aload_n 0, 1) := by decide +kernel
theorem dX9_formOf_41 : decode cX9_formOf 41 = .ok (.aload_n 0, 1) := by decide +kernel
theorem dX9_formOf_42 : decode cX9_formOf 42 = .ok (.getfield 62, 3) := by decide +kernel
theorem dX9_formOf_45 : decode cX9_formOf 45 = .ok (.iload_n 1, 1) := by decide +kernel
theorem dX9_formOf_46 : decode cX9_formOf 46 = .ok (.invokevirtual 177, 3) := by decide +kernel
theorem dX9_formOf_49 : decode cX9_formOf 49 = .ok (.aload_n 0, 1) := by decide +kernel
theorem dX9_formOf_50 : decode cX9_formOf 50 = .ok (.getfield 62, 3) := by decide +kernel
theorem dX9_formOf_53 : decode cX9_formOf 53 = .ok (.getfield 119, 3) := by decide +kernel
theorem dX9_formOf_56 : decode cX9_formOf 56 = .ok (.iload_n 2, 1) := by decide +kernel
theorem dX9_formOf_57 : decode cX9_formOf 57 = .ok (.iaload, 1) := by decide +kernel
theorem dX9_formOf_58 : decode cX9_formOf 58 = .ok (.ireturn, 1) := by decide +kernel
theorem dX9_step_0 : decode cX9_step 0 = .ok (.aload_n 0, 1) := by decide +kernel
theorem dX9_step_1 : decode cX9_step 1 = .ok (.invokevirtual 171, 3) := by decide +kernel
theorem dX9_step_4 : decode cX9_step 4 = .ok (.ifCond .ne 10, 3) := by decide +kernel
theorem dX9_step_7 : decode cX9_step 7 = .ok (.aload_n 0, 1) := by decide +kernel
theorem dX9_step_8 : decode cX9_step 8 = .ok (.bipush (-3), 2) := by decide +kernel
theorem dX9_step_10 : decode cX9_step 10 = .ok (.invokevirtual 73, 3) := by decide +kernel
theorem dX9_step_13 : decode cX9_step 13 = .ok (.ireturn, 1) := by decide +kernel
theorem dX9_step_14 : decode cX9_step 14 = .ok (.iload_n 1, 1) := by decide +kernel
theorem dX9_step_15 : decode cX9_step 15 = .ok (.iconst 1, 1) := by decide +kernel
theorem dX9_step_16 : decode cX9_step 16 = .ok (.aload_n 0, 1) := by decide +kernel
theorem dX9_step_17 : decode cX9_step 17 = .ok (.getfield 38, 3) := by decide +kernel
theorem dX9_step_20 : decode cX9_step 20 = .ok (.getfield 168, 3) := by decide +kernel
theorem dX9_step_23 : decode cX9_step 23 = .ok (.invokestatic 69, 3) := by decide +kernel
theorem dX9_step_26 : decode cX9_step 26 = .ok (.ifCond .eq 12, 3) := by decide +kernel
theorem dX9_step_29 : decode cX9_step 29 = .ok (.iload_n 2, 1) := by decide +kernel
theorem dX9_step_30 : decode cX9_step 30 = .ok (.iconst 0, 1) := by decide +kernel
theorem dX9_step_31 : decode cX9_step 31 = .ok (.iconst 3, 1) := by decide +kernel
theorem dX9_step_32 : decode cX9_step 32 = .ok (.invokestatic 69, 3) := by decide +kernel
theorem dX9_step_35 : decode cX9_step 35 = .ok (.ifCond .ne 10, 3) := by decide +kernel
theorem dX9_step_38 : decode cX9_step 38 = .ok (.aload_n 0, 1) := by decide +kernel
theorem dX9_step_39 : decode cX9_step 39 = .ok (.bipush (-2), 2) := by decide +kernel
theorem dX9_step_41 : decode cX9_step 41 = .ok (.invokevirtual 73, 3) := by decide +kernel
theorem dX9_step_44 : decode cX9_step 44 = .ok (.ireturn, 1) := by decide +kernel
theorem dX9_step_45 : decode cX9_step 45 = .ok (.aload_n 0, 1) := by decide +kernel
theorem dX9_step_46 : decode cX9_step 46 = .ok (.aload_n 0, 1) := by decide +kernel
theorem dX9_step_47 : decode cX9_step 47 = .ok (.getfield 66, 3) := by decide +kernel
theorem dX9_step_50 : decode cX9_step 50 = .ok (.iload_n 1, 1) := by decide +kernel
theorem dX9_step_51 : decode cX9_step 51 = .ok (.iconst 1, 1) := by decide +kernel
theorem dX9_step_52 : decode cX9_step 52 = .ok (.isub, 1) := by decide +kernel
theorem dX9_step_53 : decode cX9_step 53 = .ok (.invokevirtual 177, 3) := by decide +kernel
theorem dX9_step_56 : decode cX9_step 56 = .ok (.aload_n 0, 1) := by decide +kernel
theorem dX9_step_57 : decode cX9_step 57 = .ok (.getfield 62, 3) := by decide +kernel
theorem dX9_step_60 : decode cX9_step 60 = .ok (.aload_n 0, 1) := by decide +kernel
theorem dX9_step_61 : decode cX9_step 61 = .ok (.getfield 66, 3) := by decide +kernel
theorem dX9_step_64 : decode cX9_step 64 = .ok (.invokevirtual 181, 3) := by decide +kernel
theorem dX9_step_67 : decode cX9_step 67 = .ok (.aload_n 0, 1) := by decide +kernel
theorem dX9_step_68 : decode cX9_step 68 = .ok (.getfield 38, 3) := by decide +kernel
theorem dX9_step_71 : decode cX9_step 71 = .ok (.aload_n 0, 1) := by decide +kernel
theorem dX9_step_72 : decode cX9_step 72 = .ok (.getfield 62, 3) := by decide +kernel
theorem dX9_step_75 : decode cX9_step 75 = .ok (.iload_n 1, 1) := by decide +kernel
theorem dX9_step_76 : decode cX9_step 76 = .ok (.aload_n 0, 1) := by decide +kernel
theorem dX9_step_77 : decode cX9_step 77 = .ok (.getfield 12, 3) := by decide +kernel
theorem dX9_step_80 : decode cX9_step 80 = .ok (.getfield 77, 3) := by decide +kernel
theorem dX9_step_83 : decode cX9_step 83 = .ok (.invokevirtual 185, 3) := by decide +kernel
theorem dX9_step_86 : decode cX9_step 86 = .ok (.iload_n 2, 1) := by decide +kernel
theorem dX9_step_87 : decode cX9_step 87 = .ok (.tableswitch 61 0 2 #[25, 37, 49], 25) := by decide +kernel
theorem dX9_step_112 : decode cX9_step 112 = .ok (.aload_n 0, 1) := by decide +kernel
theorem dX9_step_113 : decode cX9_step 113 = .ok (.getfield 66, 3) := by decide +kernel
theorem dX9_step_116 : decode cX9_step 116 = .ok (.aload_n 0, 1) := by decide +kernel
theorem dX9_step_117 : decode cX9_step 117 = .ok (.getfield 62, 3) := by decide +kernel
theorem dX9_step_120 : decode cX9_step 120 = .ok (.invokevirtual 189, 3) := by decide +kernel
theorem dX9_step_123 : decode cX9_step 123 = .ok (.ireturn, 1) := by decide +kernel
theorem dX9_step_124 : decode cX9_step 124 = .ok (.aload_n 0, 1) := by decide +kernel
theorem dX9_step_125 : decode cX9_step 125 = .ok (.getfield 62, 3) := by decide +kernel
theorem dX9_step_128 : decode cX9_step 128 = .ok (.aload_n 0, 1) := by decide +kernel
theorem dX9_step_129 : decode cX9_step 129 = .ok (.getfield 66, 3) := by decide +kernel
theorem dX9_step_132 : decode cX9_step 132 = .ok (.invokevirtual 189, 3) := by decide +kernel
theorem dX9_step_135 : decode cX9_step 135 = .ok (.ireturn, 1) := by decide +kernel
theorem dX9_step_136 : decode cX9_step 136 = .ok (.aload_n 0, 1) := by decide +kernel
theorem dX9_step_137 : decode cX9_step 137 = .ok (.getfield 62, 3) := by decide +kernel
theorem dX9_step_140 : decode cX9_step 140 = .ok (.aload_n 0, 1) := by decide +kernel
theorem dX9_step_141 : decode cX9_step 141 = .ok (.getfield 66, 3) := by decide +kernel
theorem dX9_step_144 : decode cX9_step 144 = .ok (.invokevirtual 193, 3) := by decide +kernel
theorem dX9_step_147 : decode cX9_step 147 = .ok (.ireturn, 1) := by decide +kernel
theorem dX9_step_148 : decode cX9_step 148 = .ok (.aload_n 0, 1) := by decide +kernel
theorem dX9_step_149 : decode cX9_step 149 = .ok (.getfield 66, 3) := by decide +kernel
theorem dX9_step_152 : decode cX9_step 152 = .ok (.aload_n 0, 1) := by decide +kernel
theorem dX9_step_153 : decode cX9_step 153 = .ok (.getfield 62, 3) := by decide +kernel
theorem dX9_step_156 : decode cX9_step 156 = .ok (.invokevirtual 193, 3) := by decide +kernel
theorem dX9_step_159 : decode cX9_step 159 = .ok (.ireturn, 1) := by decide +kernel
theorem dX9_unlike_0 : decode cX9_unlike 0 = .ok (.aload_n 0, 1) := by decide +kernel
theorem dX9_unlike_1 : decode cX9_unlike 1 = .ok (.invokevirtual 171, 3) := by decide +kernel
theorem dX9_unlike_4 : decode cX9_unlike 4 = .ok (.ifCond .ne 10, 3) := by decide +kernel
theorem dX9_unlike_7 : decode cX9_unlike 7 = .ok (.aload_n 0, 1) := by decide +kernel
theorem dX9_unlike_8 : decode cX9_unlike 8 = .ok (.bipush (-3), 2) := by decide +kernel
theorem dX9_unlike_10 : decode cX9_unlike 10 = .ok (.invokevirtual 73, 3) := by decide +kernel
theorem dX9_unlike_13 : decode cX9_unlike 13 = .ok (.ireturn, 1) := by decide +kernel
theorem dX9_unlike_14 : decode cX9_unlike 14 = .ok (.aload_n 0, 1) := by decide +kernel
theorem dX9_unlike_15 : decode cX9_unlike 15 = .ok (.iload_n 1, 1) := by decide +kernel
theorem dX9_unlike_16 : decode cX9_unlike 16 = .ok (.invokevirtual 174, 3) := by decide +kernel
theorem dX9_unlike_19 : decode cX9_unlike 19 = .ok (.ifCond .eq 11, 3) := by decide +kernel
theorem dX9_unlike_22 : decode cX9_unlike 22 = .ok (.aload_n 0, 1) := by decide +kernel
theorem dX9_unlike_23 : decode cX9_unlike 23 = .ok (.iload_n 2, 1) := by decide +kernel
theorem dX9_unlike_24 : decode cX9_unlike 24 = .ok (.invokevirtual 174, 3) := by decide +kernel
theorem dX9_unlike_27 : decode cX9_unlike 27 = .ok (.ifCond .ne 10, 3) := by decide +kernel
theorem dX9_unlike_30 : decode cX9_unlike 30 = .ok (.aload_n 0, 1) := by decide +kernel
theorem dX9_unlike_31 : decode cX9_unlike 31 = .ok (.bipush (-2), 2) := by decide +kernel
theorem dX9_unlike_33 : decode cX9_unlike 33 = .ok (.invokevirtual 73, 3) := by decide +kernel
theorem dX9_unlike_36 : decode cX9_unlike 36 = .ok (.ireturn, 1) := by decide +kernel
theorem dX9_unlike_37 : decode cX9_unlike 37 = .ok (.aload_n 0, 1) := by decide +kernel
theorem dX9_unlike_38 : decode cX9_unlike 38 = .ok (.aload_n 0, 1) := by decide +kernel
theorem dX9_unlike_39 : decode cX9_unlike 39 = .ok (.getfield 62, 3) := by decide +kernel
theorem dX9_unlike_42 : decode cX9_unlike 42 = .ok (.iload_n 1, 1) := by decide +kernel
theorem dX9_unlike_43 : decode cX9_unlike 43 = .ok (.invokevirtual 177, 3) := by decide +kernel
theorem dX9_unlike_46 : decode cX9_unlike 46 = .ok (.aload_n 0, 1) := by decide +kernel
theorem dX9_unlike_47 : decode cX9_unlike 47 = .ok (.aload_n 0, 1) := by decide +kernel
theorem dX9_unlike_48 : decode cX9_unlike 48 = .ok (.getfield 66, 3) := by decide +kernel
theorem dX9_unlike_51 : decode cX9_unlike 51 = .ok (.iload_n 2, 1) := by decide +kernel
theorem dX9_unlike_52 : decode cX9_unlike 52 = .ok (.invokevirtual 177, 3) := by decide +kernel
theorem dX9_unlike_55 : decode cX9_unlike 55 = .ok (.aload_n 0, 1) := by decide +kernel
theorem dX9_unlike_56 : decode cX9_unlike 56 = .ok (.getfield 62, 3) := by decide +kernel
theorem dX9_unlike_59 : decode cX9_unlike 59 = .ok (.aload_n 0, 1) := by decide +kernel
theorem dX9_unlike_60 : decode cX9_unlike 60 = .ok (.getfield 66, 3) := by decide +kernel
theorem dX9_unlike_63 : decode cX9_unlike 63 = .ok (.invokevirtual 196, 3) := by decide +kernel
theorem dX9_unlike_66 : decode cX9_unlike 66 = .ok (.ireturn, 1) := by decide +kernel
theorem dX9_gone_0 : decode cX9_gone 0 = .ok (.aload_n 0, 1) := by decide +kernel
theorem dX9_gone_1 : decode cX9_gone 1 = .ok (.invokevirtual 171, 3) := by decide +kernel
theorem dX9_gone_4 : decode cX9_gone 4 = .ok (.ifCond .ne 10, 3) := by decide +kernel
theorem dX9_gone_7 : decode cX9_gone 7 = .ok (.aload_n 0, 1) := by decide +kernel
theorem dX9_gone_8 : decode cX9_gone 8 = .ok (.bipush (-3), 2) := by decide +kernel
theorem dX9_gone_10 : decode cX9_gone 10 = .ok (.invokevirtual 73, 3) := by decide +kernel
theorem dX9_gone_13 : decode cX9_gone 13 = .ok (.ireturn, 1) := by decide +kernel
theorem dX9_gone_14 : decode cX9_gone 14 = .ok (.aload_n 0, 1) := by decide +kernel
theorem dX9_gone_15 : decode cX9_gone 15 = .ok (.iload_n 1, 1) := by decide +kernel
theorem dX9_gone_16 : decode cX9_gone 16 = .ok (.invokevirtual 128, 3) := by decide +kernel
theorem dX9_gone_19 : decode cX9_gone 19 = .ok (.ifCond .eq 13, 3) := by decide +kernel
theorem dX9_gone_22 : decode cX9_gone 22 = .ok (.iload_n 2, 1) := by decide +kernel
theorem dX9_gone_23 : decode cX9_gone 23 = .ok (.iconst 0, 1) := by decide +kernel
theorem dX9_gone_24 : decode cX9_gone 24 = .ok (.bipush 7, 2) := by decide +kernel
theorem dX9_gone_26 : decode cX9_gone 26 = .ok (.invokestatic 69, 3) := by decide +kernel
theorem dX9_gone_29 : decode cX9_gone 29 = .ok (.ifCond .ne 10, 3) := by decide +kernel
theorem dX9_gone_32 : decode cX9_gone 32 = .ok (.aload_n 0, 1) := by decide +kernel
theorem dX9_gone_33 : decode cX9_gone 33 = .ok (.bipush (-2), 2) := by decide +kernel
theorem dX9_gone_35 : decode cX9_gone 35 = .ok (.invokevirtual 73, 3) := by decide +kernel
theorem dX9_gone_38 : decode cX9_gone 38 = .ok (.ireturn, 1) := by decide +kernel
theorem dX9_gone_39 : decode cX9_gone 39 = .ok (.iconst 0, 1) := by decide +kernel
theorem dX9_gone_40 : decode cX9_gone 40 = .ok (.istore_n 3, 1) := by decide +kernel
theorem dX9_gone_41 : decode cX9_gone 41 = .ok (.aload_n 0, 1) := by decide +kernel
theorem dX9_gone_42 : decode cX9_gone 42 = .ok (.getfield 62, 3) := by decide +kernel
theorem dX9_gone_45 : decode cX9_gone 45 = .ok (.aload_n 0, 1) := by decide +kernel
theorem dX9_gone_46 : decode cX9_gone 46 = .ok (.getfield 12, 3) := by decide +kernel
theorem dX9_gone_49 : decode cX9_gone 49 = .ok (.getfield 107, 3) := by decide +kernel
theorem dX9_gone_52 : decode cX9_gone 52 = .ok (.invokevirtual 181, 3) := by decide +kernel
theorem dX9_gone_55 : decode cX9_gone 55 = .ok (.iconst 0, 1) := by decide +kernel
theorem dX9_gone_56 : decode cX9_gone 56 = .ok (.istore 4, 2) := by decide +kernel
theorem dX9_gone_58 : decode cX9_gone 58 = .ok (.iload 4, 2) := by decide +kernel
theorem dX9_gone_60 : decode cX9_gone 60 = .ok (.aload_n 0, 1) := by decide +kernel
theorem dX9_gone_61 : decode cX9_gone 61 = .ok (.getfield 38, 3) := by decide +kernel
theorem dX9_gone_64 : decode cX9_gone 64 = .ok (.getfield 168, 3) := by decide +kernel
theorem dX9_gone_67 : decode cX9_gone 67 = .ok (.if_icmp .gt 55, 3) := by decide +kernel
theorem dX9_gone_70 : decode cX9_gone 70 = .ok (.iload 4, 2) := by decide +kernel
theorem dX9_gone_72 : decode cX9_gone 72 = .ok (.ifCond .le 23, 3) := by decide +kernel
theorem dX9_gone_75 : decode cX9_gone 75 = .ok (.aload_n 0, 1) := by decide +kernel
theorem dX9_gone_76 : decode cX9_gone 76 = .ok (.getfield 38, 3) := by decide +kernel
theorem dX9_gone_79 : decode cX9_gone 79 = .ok (.aload_n 0, 1) := by decide +kernel
theorem dX9_gone_80 : decode cX9_gone 80 = .ok (.getfield 62, 3) := by decide +kernel
theorem dX9_gone_83 : decode cX9_gone 83 = .ok (.iload 4, 2) := by decide +kernel
theorem dX9_gone_85 : decode cX9_gone 85 = .ok (.aload_n 0, 1) := by decide +kernel
theorem dX9_gone_86 : decode cX9_gone 86 = .ok (.getfield 12, 3) := by decide +kernel
theorem dX9_gone_89 : decode cX9_gone 89 = .ok (.getfield 77, 3) := by decide +kernel
theorem dX9_gone_92 : decode cX9_gone 92 = .ok (.invokevirtual 185, 3) := by decide +kernel
theorem dX9_gone_95 : decode cX9_gone 95 = .ok (.aload_n 0, 1) := by decide +kernel
theorem dX9_gone_96 : decode cX9_gone 96 = .ok (.getfield 62, 3) := by decide +kernel
theorem dX9_gone_99 : decode cX9_gone 99 = .ok (.getfield 135, 3) := by decide +kernel
theorem dX9_gone_102 : decode cX9_gone 102 = .ok (.iload_n 1, 1) := by decide +kernel
theorem dX9_gone_103 : decode cX9_gone 103 = .ok (.iaload, 1) := by decide +kernel
theorem dX9_gone_104 : decode cX9_gone 104 = .ok (.iload_n 2, 1) := by decide +kernel
theorem dX9_gone_105 : decode cX9_gone 105 = .ok (.ishr, 1) := by decide +kernel
theorem dX9_gone_106 : decode cX9_gone 106 = .ok (.iconst 1, 1) := by decide +kernel
theorem dX9_gone_107 : decode cX9_gone 107 = .ok (.iand, 1) := by decide +kernel
theorem dX9_gone_108 : decode cX9_gone 108 = .ok (.ifCond .eq 8, 3) := by decide +kernel
theorem dX9_gone_111 : decode cX9_gone 111 = .ok (.iload 4, 2) := by decide +kernel
theorem dX9_gone_113 : decode cX9_gone 113 = .ok (.iconst 1, 1) := by decide +kernel
theorem dX9_gone_114 : decode cX9_gone 114 = .ok (.iadd, 1) := by decide +kernel
theorem dX9_gone_115 : decode cX9_gone 115 = .ok (.istore_n 3, 1) := by decide +kernel
theorem dX9_gone_116 : decode cX9_gone 116 = .ok (.iinc 4 1, 3) := by decide +kernel
theorem dX9_gone_119 : decode cX9_gone 119 = .ok (.goto (-61), 3) := by decide +kernel
theorem dX9_gone_122 : decode cX9_gone 122 = .ok (.iload_n 3, 1) := by decide +kernel
theorem dX9_gone_123 : decode cX9_gone 123 = .ok (.aload_n 0, 1) := by decide +kernel
theorem dX9_gone_124 : decode cX9_gone 124 = .ok (.getfield 38, 3) := by decide +kernel
theorem dX9_gone_127 : decode cX9_gone 127 = .ok (.getfield 168, 3) := by decide +kernel
theorem dX9_gone_130 : decode cX9_gone 130 = .ok (.if_icmp .le 7, 3) := by decide +kernel
theorem dX9_gone_133 : decode cX9_gone 133 = .ok (.iconst (-1), 1) := by decide +kernel
theorem dX9_gone_134 : decode cX9_gone 134 = .ok (.goto 4, 3) := by decide +kernel
theorem dX9_gone_137 : decode cX9_gone 137 = .ok (.iload_n 3, 1) := by decide +kernel
theorem dX9_gone_138 : decode cX9_gone 138 = .ok (.ireturn, 1) := by decide +kernel
theorem dX9_best_0 : decode cX9_best 0 = .ok (.iload_n 1, 1) := by decide +kernel
theorem dX9_best_1 : decode cX9_best 1 = .ok (.invokestatic 125, 3) := by decide +kernel
theorem dX9_best_4 : decode cX9_best 4 = .ok (.ifCond .eq 38, 3) := by decide +kernel
theorem dX9_best_7 : decode cX9_best 7 = .ok (.aload_n 0, 1) := by decide +kernel
theorem dX9_best_8 : decode cX9_best 8 = .ok (.getfield 12, 3) := by decide +kernel
theorem dX9_best_11 : decode cX9_best 11 = .ok (.getfield 77, 3) := by decide +kernel
theorem dX9_best_14 : decode cX9_best 14 = .ok (.iload_n 2, 1) := by decide +kernel
theorem dX9_best_15 : decode cX9_best 15 = .ok (.invokevirtual 90, 3) := by decide +kernel
theorem dX9_best_18 : decode cX9_best 18 = .ok (.ifCond .eq 24, 3) := by decide +kernel
theorem dX9_best_21 : decode cX9_best 21 = .ok (.iload_n 3, 1) := by decide +kernel
theorem dX9_best_22 : decode cX9_best 22 = .ok (.iconst 0, 1) := by decide +kernel
theorem dX9_best_23 : decode cX9_best 23 = .ok (.iconst 3, 1) := by decide +kernel
theorem dX9_best_24 : decode cX9_best 24 = .ok (.invokestatic 69, 3) := by decide +kernel
theorem dX9_best_27 : decode cX9_best 27 = .ok (.ifCond .eq 15, 3) := by decide +kernel
theorem dX9_best_30 : decode cX9_best 30 = .ok (.iload 4, 2) := by decide +kernel
theorem dX9_best_32 : decode cX9_best 32 = .ok (.iconst (-1), 1) := by decide +kernel
theorem dX9_best_33 : decode cX9_best 33 = .ok (.iload_n 3, 1) := by decide +kernel
theorem dX9_best_34 : decode cX9_best 34 = .ok (.iconst 1, 1) := by decide +kernel
theorem dX9_best_35 : decode cX9_best 35 = .ok (.isub, 1) := by decide +kernel
theorem dX9_best_36 : decode cX9_best 36 = .ok (.invokestatic 69, 3) := by decide +kernel
theorem dX9_best_39 : decode cX9_best 39 = .ok (.ifCond .ne 10, 3) := by decide +kernel
theorem dX9_best_42 : decode cX9_best 42 = .ok (.aload_n 0, 1) := by decide +kernel
theorem dX9_best_43 : decode cX9_best 43 = .ok (.bipush (-2), 2) := by decide +kernel
theorem dX9_best_45 : decode cX9_best 45 = .ok (.invokevirtual 73, 3) := by decide +kernel
theorem dX9_best_48 : decode cX9_best 48 = .ok (.ireturn, 1) := by decide +kernel
theorem dX9_best_49 : decode cX9_best 49 = .ok (.aload_n 0, 1) := by decide +kernel
theorem dX9_best_50 : decode cX9_best 50 = .ok (.getfield 12, 3) := by decide +kernel
theorem dX9_best_53 : decode cX9_best 53 = .ok (.getfield 107, 3) := by decide +kernel
theorem dX9_best_56 : decode cX9_best 56 = .ok (.getfield 110, 3) := by decide +kernel
theorem dX9_best_59 : decode cX9_best 59 = .ok (.ifCond .eq 17, 3) := by decide +kernel
theorem dX9_best_62 : decode cX9_best 62 = .ok (.aload_n 0, 1) := by decide +kernel
theorem dX9_best_63 : decode cX9_best 63 = .ok (.getfield 12, 3) := by decide +kernel
theorem dX9_best_66 : decode cX9_best 66 = .ok (.getfield 77, 3) := by decide +kernel
theorem dX9_best_69 : decode cX9_best 69 = .ok (.iload_n 2, 1) := by decide +kernel
theorem dX9_best_70 : decode cX9_best 70 = .ok (.invokevirtual 199, 3) := by decide +kernel
theorem dX9_best_73 : decode cX9_best 73 = .ok (.ifCond .ne 10, 3) := by decide +kernel
theorem dX9_best_76 : decode cX9_best 76 = .ok (.aload_n 0, 1) := by decide +kernel
theorem dX9_best_77 : decode cX9_best 77 = .ok (.bipush (-3), 2) := by decide +kernel
theorem dX9_best_79 : decode cX9_best 79 = .ok (.invokevirtual 73, 3) := by decide +kernel
theorem dX9_best_82 : decode cX9_best 82 = .ok (.ireturn, 1) := by decide +kernel
theorem dX9_best_83 : decode cX9_best 83 = .ok (.aload_n 0, 1) := by decide +kernel
theorem dX9_best_84 : decode cX9_best 84 = .ok (.iload_n 1, 1) := by decide +kernel
theorem dX9_best_85 : decode cX9_best 85 = .ok (.iload_n 2, 1) := by decide +kernel
theorem dX9_best_86 : decode cX9_best 86 = .ok (.iload_n 3, 1) := by decide +kernel
theorem dX9_best_87 : decode cX9_best 87 = .ok (.invokevirtual 202, 3) := by decide +kernel
theorem dX9_best_90 : decode cX9_best 90 = .ok (.istore 5, 2) := by decide +kernel
theorem dX9_best_92 : decode cX9_best 92 = .ok (.iload 4, 2) := by decide +kernel
theorem dX9_best_94 : decode cX9_best 94 = .ok (.iconst (-1), 1) := by decide +kernel
theorem dX9_best_95 : decode cX9_best 95 = .ok (.if_icmp .ne 8, 3) := by decide +kernel
theorem dX9_best_98 : decode cX9_best 98 = .ok (.iload 5, 2) := by decide +kernel
theorem dX9_best_100 : decode cX9_best 100 = .ok (.goto 13, 3) := by decide +kernel
theorem dX9_best_103 : decode cX9_best 103 = .ok (.aload_n 0, 1) := by decide +kernel
theorem dX9_best_104 : decode cX9_best 104 = .ok (.getfield 45, 3) := by decide +kernel
theorem dX9_best_107 : decode cX9_best 107 = .ok (.getfield 205, 3) := by decide +kernel
theorem dX9_best_110 : decode cX9_best 110 = .ok (.iload 4, 2) := by decide +kernel
theorem dX9_best_112 : decode cX9_best 112 = .ok (.iaload, 1) := by decide +kernel
theorem dX9_best_113 : decode cX9_best 113 = .ok (.ireturn, 1) := by decide +kernel
theorem dX9_third_0 : decode cX9_third 0 = .ok (.iload_n 1, 1) := by decide +kernel
theorem dX9_third_1 : decode cX9_third 1 = .ok (.invokestatic 125, 3) := by decide +kernel
theorem dX9_third_4 : decode cX9_third 4 = .ok (.ifCond .eq 17, 3) := by decide +kernel
theorem dX9_third_7 : decode cX9_third 7 = .ok (.aload_n 0, 1) := by decide +kernel
theorem dX9_third_8 : decode cX9_third 8 = .ok (.getfield 12, 3) := by decide +kernel
theorem dX9_third_11 : decode cX9_third 11 = .ok (.getfield 77, 3) := by decide +kernel
theorem dX9_third_14 : decode cX9_third 14 = .ok (.iload_n 2, 1) := by decide +kernel
theorem dX9_third_15 : decode cX9_third 15 = .ok (.invokevirtual 90, 3) := by decide +kernel
theorem dX9_third_18 : decode cX9_third 18 = .ok (.ifCond .ne 10, 3) := by decide +kernel
theorem dX9_third_21 : decode cX9_third 21 = .ok (.aload_n 0, 1) := by decide +kernel
theorem dX9_third_22 : decode cX9_third 22 = .ok (.bipush (-2), 2) := by decide +kernel
theorem dX9_third_24 : decode cX9_third 24 = .ok (.invokevirtual 73, 3) := by decide +kernel
theorem dX9_third_27 : decode cX9_third 27 = .ok (.ireturn, 1) := by decide +kernel
theorem dX9_third_28 : decode cX9_third 28 = .ok (.aload_n 0, 1) := by decide +kernel
theorem dX9_third_29 : decode cX9_third 29 = .ok (.getfield 12, 3) := by decide +kernel
theorem dX9_third_32 : decode cX9_third 32 = .ok (.getfield 107, 3) := by decide +kernel
theorem dX9_third_35 : decode cX9_third 35 = .ok (.getfield 110, 3) := by decide +kernel
theorem dX9_third_38 : decode cX9_third 38 = .ok (.ifCond .eq 17, 3) := by decide +kernel
theorem dX9_third_41 : decode cX9_third 41 = .ok (.aload_n 0, 1) := by decide +kernel
theorem dX9_third_42 : decode cX9_third 42 = .ok (.getfield 12, 3) := by decide +kernel
theorem dX9_third_45 : decode cX9_third 45 = .ok (.getfield 77, 3) := by decide +kernel
theorem dX9_third_48 : decode cX9_third 48 = .ok (.iload_n 2, 1) := by decide +kernel
theorem dX9_third_49 : decode cX9_third 49 = .ok (.invokevirtual 199, 3) := by decide +kernel
theorem dX9_third_52 : decode cX9_third 52 = .ok (.ifCond .ne 10, 3) := by decide +kernel
theorem dX9_third_55 : decode cX9_third 55 = .ok (.aload_n 0, 1) := by decide +kernel
theorem dX9_third_56 : decode cX9_third 56 = .ok (.bipush (-3), 2) := by decide +kernel
theorem dX9_third_58 : decode cX9_third 58 = .ok (.invokevirtual 73, 3) := by decide +kernel
theorem dX9_third_61 : decode cX9_third 61 = .ok (.ireturn, 1) := by decide +kernel
theorem dX9_third_62 : decode cX9_third 62 = .ok (.aload_n 0, 1) := by decide +kernel
theorem dX9_third_63 : decode cX9_third 63 = .ok (.iload_n 1, 1) := by decide +kernel
theorem dX9_third_64 : decode cX9_third 64 = .ok (.iload_n 2, 1) := by decide +kernel
theorem dX9_third_65 : decode cX9_third 65 = .ok (.iconst 1, 1) := by decide +kernel
theorem dX9_third_66 : decode cX9_third 66 = .ok (.invokevirtual 202, 3) := by decide +kernel
theorem dX9_third_69 : decode cX9_third 69 = .ok (.aload_n 0, 1) := by decide +kernel
theorem dX9_third_70 : decode cX9_third 70 = .ok (.iload_n 1, 1) := by decide +kernel
theorem dX9_third_71 : decode cX9_third 71 = .ok (.iload_n 2, 1) := by decide +kernel
theorem dX9_third_72 : decode cX9_third 72 = .ok (.iconst 0, 1) := by decide +kernel
theorem dX9_third_73 : decode cX9_third 73 = .ok (.invokevirtual 202, 3) := by decide +kernel
theorem dX9_third_76 : decode cX9_third 76 = .ok (.if_icmp .ge 7, 3) := by decide +kernel
theorem dX9_third_79 : decode cX9_third 79 = .ok (.iconst 1, 1) := by decide +kernel
theorem dX9_third_80 : decode cX9_third 80 = .ok (.goto 4, 3) := by decide +kernel
theorem dX9_third_83 : decode cX9_third 83 = .ok (.iconst 0, 1) := by decide +kernel
theorem dX9_third_84 : decode cX9_third 84 = .ok (.ireturn, 1) := by decide +kernel
theorem dX9_round_0 : decode cX9_round 0 = .ok (.iload_n 1, 1) := by decide +kernel
theorem dX9_round_1 : decode cX9_round 1 = .ok (.invokestatic 125, 3) := by decide +kernel
theorem dX9_round_4 : decode cX9_round 4 = .ok (.ifCond .eq 41, 3) := by decide +kernel
theorem dX9_round_7 : decode cX9_round 7 = .ok (.aload_n 0, 1) := by decide +kernel
theorem dX9_round_8 : decode cX9_round 8 = .ok (.getfield 12, 3) := by decide +kernel
theorem dX9_round_11 : decode cX9_round 11 = .ok (.getfield 77, 3) := by decide +kernel
theorem dX9_round_14 : decode cX9_round 14 = .ok (.iload_n 2, 1) := by decide +kernel
theorem dX9_round_15 : decode cX9_round 15 = .ok (.invokevirtual 90, 3) := by decide +kernel
theorem dX9_round_18 : decode cX9_round 18 = .ok (.ifCond .eq 27, 3) := by decide +kernel
theorem dX9_round_21 : decode cX9_round 21 = .ok (.aload_n 0, 1) := by decide +kernel
theorem dX9_round_22 : decode cX9_round 22 = .ok (.getfield 12, 3) := by decide +kernel
theorem dX9_round_25 : decode cX9_round 25 = .ok (.getfield 77, 3) := by decide +kernel
theorem dX9_round_28 : decode cX9_round 28 = .ok (.iload_n 3, 1) := by decide +kernel
theorem dX9_round_29 : decode cX9_round 29 = .ok (.invokevirtual 90, 3) := by decide +kernel
theorem dX9_round_32 : decode cX9_round 32 = .ok (.ifCond .eq 13, 3) := by decide +kernel
theorem dX9_round_35 : decode cX9_round 35 = .ok (.iload 4, 2) := by decide +kernel
theorem dX9_round_37 : decode cX9_round 37 = .ok (.iconst 0, 1) := by decide +kernel
theorem dX9_round_38 : decode cX9_round 38 = .ok (.iconst 1, 1) := by decide +kernel
theorem dX9_round_39 : decode cX9_round 39 = .ok (.invokestatic 69, 3) := by decide +kernel
theorem dX9_round_42 : decode cX9_round 42 = .ok (.ifCond .ne 10, 3) := by decide +kernel
theorem dX9_round_45 : decode cX9_round 45 = .ok (.aload_n 0, 1) := by decide +kernel
theorem dX9_round_46 : decode cX9_round 46 = .ok (.bipush (-2), 2) := by decide +kernel
theorem dX9_round_48 : decode cX9_round 48 = .ok (.invokevirtual 73, 3) := by decide +kernel
theorem dX9_round_51 : decode cX9_round 51 = .ok (.ireturn, 1) := by decide +kernel
theorem dX9_round_52 : decode cX9_round 52 = .ok (.aload_n 0, 1) := by decide +kernel
theorem dX9_round_53 : decode cX9_round 53 = .ok (.getfield 12, 3) := by decide +kernel
theorem dX9_round_56 : decode cX9_round 56 = .ok (.getfield 107, 3) := by decide +kernel
theorem dX9_round_59 : decode cX9_round 59 = .ok (.getfield 110, 3) := by decide +kernel
theorem dX9_round_62 : decode cX9_round 62 = .ok (.ifCond .eq 31, 3) := by decide +kernel
theorem dX9_round_65 : decode cX9_round 65 = .ok (.aload_n 0, 1) := by decide +kernel
theorem dX9_round_66 : decode cX9_round 66 = .ok (.getfield 12, 3) := by decide +kernel
theorem dX9_round_69 : decode cX9_round 69 = .ok (.getfield 77, 3) := by decide +kernel
theorem dX9_round_72 : decode cX9_round 72 = .ok (.iload_n 2, 1) := by decide +kernel
theorem dX9_round_73 : decode cX9_round 73 = .ok (.invokevirtual 199, 3) := by decide +kernel
theorem dX9_round_76 : decode cX9_round 76 = .ok (.ifCond .eq 17, 3) := by decide +kernel
theorem dX9_round_79 : decode cX9_round 79 = .ok (.aload_n 0, 1) := by decide +kernel
theorem dX9_round_80 : decode cX9_round 80 = .ok (.getfield 12, 3) := by decide +kernel
theorem dX9_round_83 : decode cX9_round 83 = .ok (.getfield 77, 3) := by decide +kernel
theorem dX9_round_86 : decode cX9_round 86 = .ok (.iload_n 3, 1) := by decide +kernel
theorem dX9_round_87 : decode cX9_round 87 = .ok (.invokevirtual 199, 3) := by decide +kernel
theorem dX9_round_90 : decode cX9_round 90 = .ok (.ifCond .ne 10, 3) := by decide +kernel
theorem dX9_round_93 : decode cX9_round 93 = .ok (.aload_n 0, 1) := by decide +kernel
theorem dX9_round_94 : decode cX9_round 94 = .ok (.bipush (-3), 2) := by decide +kernel
theorem dX9_round_96 : decode cX9_round 96 = .ok (.invokevirtual 73, 3) := by decide +kernel
theorem dX9_round_99 : decode cX9_round 99 = .ok (.ireturn, 1) := by decide +kernel
theorem dX9_round_100 : decode cX9_round 100 = .ok (.aload_n 0, 1) := by decide +kernel
theorem dX9_round_101 : decode cX9_round 101 = .ok (.getfield 62, 3) := by decide +kernel
theorem dX9_round_104 : decode cX9_round 104 = .ok (.aload_n 0, 1) := by decide +kernel
theorem dX9_round_105 : decode cX9_round 105 = .ok (.getfield 12, 3) := by decide +kernel
theorem dX9_round_108 : decode cX9_round 108 = .ok (.getfield 107, 3) := by decide +kernel
theorem dX9_round_111 : decode cX9_round 111 = .ok (.invokevirtual 181, 3) := by decide +kernel
theorem dX9_round_114 : decode cX9_round 114 = .ok (.iconst 1, 1) := by decide +kernel
theorem dX9_round_115 : decode cX9_round 115 = .ok (.istore 5, 2) := by decide +kernel
theorem dX9_round_117 : decode cX9_round 117 = .ok (.iload 5, 2) := by decide +kernel
theorem dX9_round_119 : decode cX9_round 119 = .ok (.sipush 1000, 3) := by decide +kernel
theorem dX9_round_122 : decode cX9_round 122 = .ok (.if_icmp .gt 53, 3) := by decide +kernel
theorem dX9_round_125 : decode cX9_round 125 = .ok (.aload_n 0, 1) := by decide +kernel
theorem dX9_round_126 : decode cX9_round 126 = .ok (.aload_n 0, 1) := by decide +kernel
theorem dX9_round_127 : decode cX9_round 127 = .ok (.getfield 62, 3) := by decide +kernel
theorem dX9_round_130 : decode cX9_round 130 = .ok (.iload_n 1, 1) := by decide +kernel
theorem dX9_round_131 : decode cX9_round 131 = .ok (.iload_n 2, 1) := by decide +kernel
theorem dX9_round_132 : decode cX9_round 132 = .ok (.iload_n 3, 1) := by decide +kernel
theorem dX9_round_133 : decode cX9_round 133 = .ok (.invokevirtual 208, 3) := by decide +kernel
theorem dX9_round_136 : decode cX9_round 136 = .ok (.aload_n 0, 1) := by decide +kernel
theorem dX9_round_137 : decode cX9_round 137 = .ok (.iload_n 1, 1) := by decide +kernel
theorem dX9_round_138 : decode cX9_round 138 = .ok (.iload_n 2, 1) := by decide +kernel
theorem dX9_round_139 : decode cX9_round 139 = .ok (.iload_n 3, 1) := by decide +kernel
theorem dX9_round_140 : decode cX9_round 140 = .ok (.iload 5, 2) := by decide +kernel
theorem dX9_round_142 : decode cX9_round 142 = .ok (.invokevirtual 212, 3) := by decide +kernel
theorem dX9_round_145 : decode cX9_round 145 = .ok (.istore 6, 2) := by decide +kernel
theorem dX9_round_147 : decode cX9_round 147 = .ok (.iload 6, 2) := by decide +kernel
theorem dX9_round_149 : decode cX9_round 149 = .ok (.iconst (-1), 1) := by decide +kernel
theorem dX9_round_150 : decode cX9_round 150 = .ok (.if_icmp .eq 19, 3) := by decide +kernel
theorem dX9_round_153 : decode cX9_round 153 = .ok (.iload 4, 2) := by decide +kernel
theorem dX9_round_155 : decode cX9_round 155 = .ok (.ifCond .ne 8, 3) := by decide +kernel
theorem dX9_round_158 : decode cX9_round 158 = .ok (.iload 6, 2) := by decide +kernel
theorem dX9_round_160 : decode cX9_round 160 = .ok (.goto 8, 3) := by decide +kernel
theorem dX9_round_163 : decode cX9_round 163 = .ok (.iload 5, 2) := by decide +kernel
theorem dX9_round_165 : decode cX9_round 165 = .ok (.iload 6, 2) := by decide +kernel
theorem dX9_round_167 : decode cX9_round 167 = .ok (.isub, 1) := by decide +kernel
theorem dX9_round_168 : decode cX9_round 168 = .ok (.ireturn, 1) := by decide +kernel
theorem dX9_round_169 : decode cX9_round 169 = .ok (.iinc 5 1, 3) := by decide +kernel
theorem dX9_round_172 : decode cX9_round 172 = .ok (.goto (-55), 3) := by decide +kernel
theorem dX9_round_175 : decode cX9_round 175 = .ok (.iconst (-1), 1) := by decide +kernel
theorem dX9_round_176 : decode cX9_round 176 = .ok (.ireturn, 1) := by decide +kernel
theorem dX9_common_0 : decode cX9_common 0 = .ok (.iload_n 1, 1) := by decide +kernel
theorem dX9_common_1 : decode cX9_common 1 = .ok (.invokestatic 125, 3) := by decide +kernel
theorem dX9_common_4 : decode cX9_common 4 = .ok (.ifCond .eq 11, 3) := by decide +kernel
theorem dX9_common_7 : decode cX9_common 7 = .ok (.aload_n 0, 1) := by decide +kernel
theorem dX9_common_8 : decode cX9_common 8 = .ok (.iload_n 2, 1) := by decide +kernel
theorem dX9_common_9 : decode cX9_common 9 = .ok (.invokevirtual 128, 3) := by decide +kernel
theorem dX9_common_12 : decode cX9_common 12 = .ok (.ifCond .ne 10, 3) := by decide +kernel
theorem dX9_common_15 : decode cX9_common 15 = .ok (.aload_n 0, 1) := by decide +kernel
theorem dX9_common_16 : decode cX9_common 16 = .ok (.bipush (-2), 2) := by decide +kernel
theorem dX9_common_18 : decode cX9_common 18 = .ok (.invokevirtual 73, 3) := by decide +kernel
theorem dX9_common_21 : decode cX9_common 21 = .ok (.ireturn, 1) := by decide +kernel
theorem dX9_common_22 : decode cX9_common 22 = .ok (.aload_n 0, 1) := by decide +kernel
theorem dX9_common_23 : decode cX9_common 23 = .ok (.getfield 12, 3) := by decide +kernel
theorem dX9_common_26 : decode cX9_common 26 = .ok (.getfield 77, 3) := by decide +kernel
theorem dX9_common_29 : decode cX9_common 29 = .ok (.astore_n 3, 1) := by decide +kernel
theorem dX9_common_30 : decode cX9_common 30 = .ok (.aload_n 3, 1) := by decide +kernel
theorem dX9_common_31 : decode cX9_common 31 = .ok (.iconst (-1), 1) := by decide +kernel
theorem dX9_common_32 : decode cX9_common 32 = .ok (.invokevirtual 215, 3) := by decide +kernel
theorem dX9_common_35 : decode cX9_common 35 = .ok (.istore 4, 2) := by decide +kernel
theorem dX9_common_37 : decode cX9_common 37 = .ok (.iload 4, 2) := by decide +kernel
theorem dX9_common_39 : decode cX9_common 39 = .ok (.iconst (-1), 1) := by decide +kernel
theorem dX9_common_40 : decode cX9_common 40 = .ok (.if_icmp .ne 10, 3) := by decide +kernel
theorem dX9_common_43 : decode cX9_common 43 = .ok (.aload_n 0, 1) := by decide +kernel
theorem dX9_common_44 : decode cX9_common 44 = .ok (.bipush (-3), 2) := by decide +kernel
theorem dX9_common_46 : decode cX9_common 46 = .ok (.invokevirtual 73, 3) := by decide +kernel
theorem dX9_common_49 : decode cX9_common 49 = .ok (.ireturn, 1) := by decide +kernel
theorem dX9_common_50 : decode cX9_common 50 = .ok (.sipush 255, 3) := by decide +kernel
theorem dX9_common_53 : decode cX9_common 53 = .ok (.istore 5, 2) := by decide +kernel
theorem dX9_common_55 : decode cX9_common 55 = .ok (.iload 4, 2) := by decide +kernel
theorem dX9_common_57 : decode cX9_common 57 = .ok (.aload_n 3, 1) := by decide +kernel
theorem dX9_common_58 : decode cX9_common 58 = .ok (.getfield 81, 3) := by decide +kernel
theorem dX9_common_61 : decode cX9_common 61 = .ok (.if_icmp .ge 58, 3) := by decide +kernel
theorem dX9_common_64 : decode cX9_common 64 = .ok (.aload_n 3, 1) := by decide +kernel
theorem dX9_common_65 : decode cX9_common 65 = .ok (.iload 4, 2) := by decide +kernel
theorem dX9_common_67 : decode cX9_common 67 = .ok (.invokevirtual 199, 3) := by decide +kernel
theorem dX9_common_70 : decode cX9_common 70 = .ok (.ifCond .eq 43, 3) := by decide +kernel
theorem dX9_common_73 : decode cX9_common 73 = .ok (.aload_n 0, 1) := by decide +kernel
theorem dX9_common_74 : decode cX9_common 74 = .ok (.getfield 12, 3) := by decide +kernel
theorem dX9_common_77 : decode cX9_common 77 = .ok (.getfield 107, 3) := by decide +kernel
theorem dX9_common_80 : decode cX9_common 80 = .ok (.astore 6, 2) := by decide +kernel
theorem dX9_common_82 : decode cX9_common 82 = .ok (.iload 5, 2) := by decide +kernel
theorem dX9_common_84 : decode cX9_common 84 = .ok (.aload_n 3, 1) := by decide +kernel
theorem dX9_common_85 : decode cX9_common 85 = .ok (.getfield 218, 3) := by decide +kernel
theorem dX9_common_88 : decode cX9_common 88 = .ok (.aload_n 3, 1) := by decide +kernel
theorem dX9_common_89 : decode cX9_common 89 = .ok (.iload_n 1, 1) := by decide +kernel
theorem dX9_common_90 : decode cX9_common 90 = .ok (.iload 4, 2) := by decide +kernel
theorem dX9_common_92 : decode cX9_common 92 = .ok (.aload 6, 2) := by decide +kernel
theorem dX9_common_94 : decode cX9_common 94 = .ok (.getfield 135, 3) := by decide +kernel
theorem dX9_common_97 : decode cX9_common 97 = .ok (.iload_n 2, 1) := by decide +kernel
theorem dX9_common_98 : decode cX9_common 98 = .ok (.iaload, 1) := by decide +kernel
theorem dX9_common_99 : decode cX9_common 99 = .ok (.aload 6, 2) := by decide +kernel
theorem dX9_common_101 : decode cX9_common 101 = .ok (.getfield 138, 3) := by decide +kernel
theorem dX9_common_104 : decode cX9_common 104 = .ok (.iload_n 2, 1) := by decide +kernel
theorem dX9_common_105 : decode cX9_common 105 = .ok (.iaload, 1) := by decide +kernel
theorem dX9_common_106 : decode cX9_common 106 = .ok (.invokevirtual 219, 3) := by decide +kernel
theorem dX9_common_109 : decode cX9_common 109 = .ok (.iaload, 1) := by decide +kernel
theorem dX9_common_110 : decode cX9_common 110 = .ok (.iand, 1) := by decide +kernel
theorem dX9_common_111 : decode cX9_common 111 = .ok (.istore 5, 2) := by decide +kernel
theorem dX9_common_113 : decode cX9_common 113 = .ok (.iinc 4 1, 3) := by decide +kernel
theorem dX9_common_116 : decode cX9_common 116 = .ok (.goto (-61), 3) := by decide +kernel
theorem dX9_common_119 : decode cX9_common 119 = .ok (.iload 5, 2) := by decide +kernel
theorem dX9_common_121 : decode cX9_common 121 = .ok (.ireturn, 1) := by decide +kernel
theorem dX9_bears_0 : decode cX9_bears 0 = .ok (.iload_n 1, 1) := by decide +kernel
theorem dX9_bears_1 : decode cX9_bears 1 = .ok (.invokestatic 125, 3) := by decide +kernel
theorem dX9_bears_4 : decode cX9_bears 4 = .ok (.ifCond .eq 22, 3) := by decide +kernel
theorem dX9_bears_7 : decode cX9_bears 7 = .ok (.aload_n 0, 1) := by decide +kernel
theorem dX9_bears_8 : decode cX9_bears 8 = .ok (.getfield 12, 3) := by decide +kernel
theorem dX9_bears_11 : decode cX9_bears 11 = .ok (.getfield 77, 3) := by decide +kernel
theorem dX9_bears_14 : decode cX9_bears 14 = .ok (.iload_n 2, 1) := by decide +kernel
theorem dX9_bears_15 : decode cX9_bears 15 = .ok (.invokevirtual 90, 3) := by decide +kernel
theorem dX9_bears_18 : decode cX9_bears 18 = .ok (.ifCond .eq 8, 3) := by decide +kernel
theorem dX9_bears_21 : decode cX9_bears 21 = .ok (.iload_n 3, 1) := by decide +kernel
theorem dX9_bears_22 : decode cX9_bears 22 = .ok (.iconst (-1), 1) := by decide +kernel
theorem dX9_bears_23 : decode cX9_bears 23 = .ok (.if_icmp .ge 12, 3) := by decide +kernel
theorem dX9_bears_26 : decode cX9_bears 26 = .ok (.aload_n 0, 1) := by decide +kernel
theorem dX9_bears_27 : decode cX9_bears 27 = .ok (.bipush (-2), 2) := by decide +kernel
theorem dX9_bears_29 : decode cX9_bears 29 = .ok (.bipush (-10), 2) := by decide +kernel
theorem dX9_bears_31 : decode cX9_bears 31 = .ok (.invokevirtual 116, 3) := by decide +kernel
theorem dX9_bears_34 : decode cX9_bears 34 = .ok (.ireturn, 1) := by decide +kernel
theorem dX9_bears_35 : decode cX9_bears 35 = .ok (.aload_n 0, 1) := by decide +kernel
theorem dX9_bears_36 : decode cX9_bears 36 = .ok (.getfield 12, 3) := by decide +kernel
theorem dX9_bears_39 : decode cX9_bears 39 = .ok (.getfield 77, 3) := by decide +kernel
theorem dX9_bears_42 : decode cX9_bears 42 = .ok (.iload_n 2, 1) := by decide +kernel
theorem dX9_bears_43 : decode cX9_bears 43 = .ok (.invokevirtual 199, 3) := by decide +kernel
theorem dX9_bears_46 : decode cX9_bears 46 = .ok (.ifCond .ne 12, 3) := by decide +kernel
theorem dX9_bears_49 : decode cX9_bears 49 = .ok (.aload_n 0, 1) := by decide +kernel
theorem dX9_bears_50 : decode cX9_bears 50 = .ok (.bipush (-3), 2) := by decide +kernel
theorem dX9_bears_52 : decode cX9_bears 52 = .ok (.bipush (-20), 2) := by decide +kernel
theorem dX9_bears_54 : decode cX9_bears 54 = .ok (.invokevirtual 116, 3) := by decide +kernel
theorem dX9_bears_57 : decode cX9_bears 57 = .ok (.ireturn, 1) := by decide +kernel
theorem dX9_bears_58 : decode cX9_bears 58 = .ok (.iconst 0, 1) := by decide +kernel
theorem dX9_bears_59 : decode cX9_bears 59 = .ok (.istore 4, 2) := by decide +kernel
theorem dX9_bears_61 : decode cX9_bears 61 = .ok (.iconst 1, 1) := by decide +kernel
theorem dX9_bears_62 : decode cX9_bears 62 = .ok (.istore 5, 2) := by decide +kernel
theorem dX9_bears_64 : decode cX9_bears 64 = .ok (.iload 5, 2) := by decide +kernel
theorem dX9_bears_66 : decode cX9_bears 66 = .ok (.sipush 255, 3) := by decide +kernel
theorem dX9_bears_69 : decode cX9_bears 69 = .ok (.if_icmp .gt 38, 3) := by decide +kernel
theorem dX9_bears_72 : decode cX9_bears 72 = .ok (.aload_n 0, 1) := by decide +kernel
theorem dX9_bears_73 : decode cX9_bears 73 = .ok (.getfield 12, 3) := by decide +kernel
theorem dX9_bears_76 : decode cX9_bears 76 = .ok (.getfield 77, 3) := by decide +kernel
theorem dX9_bears_79 : decode cX9_bears 79 = .ok (.iload_n 1, 1) := by decide +kernel
theorem dX9_bears_80 : decode cX9_bears 80 = .ok (.iload_n 2, 1) := by decide +kernel
theorem dX9_bears_81 : decode cX9_bears 81 = .ok (.iload 5, 2) := by decide +kernel
theorem dX9_bears_83 : decode cX9_bears 83 = .ok (.invokevirtual 222, 3) := by decide +kernel
theorem dX9_bears_86 : decode cX9_bears 86 = .ok (.ifCond .eq 15, 3) := by decide +kernel
theorem dX9_bears_89 : decode cX9_bears 89 = .ok (.iload 4, 2) := by decide +kernel
theorem dX9_bears_91 : decode cX9_bears 91 = .ok (.iload_n 3, 1) := by decide +kernel
theorem dX9_bears_92 : decode cX9_bears 92 = .ok (.if_icmp .ne 6, 3) := by decide +kernel
theorem dX9_bears_95 : decode cX9_bears 95 = .ok (.iload 5, 2) := by decide +kernel
theorem dX9_bears_97 : decode cX9_bears 97 = .ok (.ireturn, 1) := by decide +kernel
theorem dX9_bears_98 : decode cX9_bears 98 = .ok (.iinc 4 1, 3) := by decide +kernel
theorem dX9_bears_101 : decode cX9_bears 101 = .ok (.iinc 5 1, 3) := by decide +kernel
theorem dX9_bears_104 : decode cX9_bears 104 = .ok (.goto (-40), 3) := by decide +kernel
theorem dX9_bears_107 : decode cX9_bears 107 = .ok (.iload_n 3, 1) := by decide +kernel
theorem dX9_bears_108 : decode cX9_bears 108 = .ok (.iconst (-1), 1) := by decide +kernel
theorem dX9_bears_109 : decode cX9_bears 109 = .ok (.if_icmp .ne 8, 3) := by decide +kernel
theorem dX9_bears_112 : decode cX9_bears 112 = .ok (.iload 4, 2) := by decide +kernel
theorem dX9_bears_114 : decode cX9_bears 114 = .ok (.goto 5, 3) := by decide +kernel
theorem dX9_bears_117 : decode cX9_bears 117 = .ok (.bipush (-5), 2) := by decide +kernel
theorem dX9_bears_119 : decode cX9_bears 119 = .ok (.ireturn, 1) := by decide +kernel
theorem dX9_middle_0 : decode cX9_middle 0 = .ok (.sipush 255, 3) := by decide +kernel
theorem dX9_middle_3 : decode cX9_middle 3 = .ok (.istore_n 1, 1) := by decide +kernel
theorem dX9_middle_4 : decode cX9_middle 4 = .ok (.iconst 0, 1) := by decide +kernel
theorem dX9_middle_5 : decode cX9_middle 5 = .ok (.istore_n 2, 1) := by decide +kernel
theorem dX9_middle_6 : decode cX9_middle 6 = .ok (.iload_n 2, 1) := by decide +kernel
theorem dX9_middle_7 : decode cX9_middle 7 = .ok (.sipush 255, 3) := by decide +kernel
theorem dX9_middle_10 : decode cX9_middle 10 = .ok (.if_icmp .ge 36, 3) := by decide +kernel
theorem dX9_middle_13 : decode cX9_middle 13 = .ok (.iload_n 2, 1) := by decide +kernel
theorem dX9_middle_14 : decode cX9_middle 14 = .ok (.invokestatic 225, 3) := by decide +kernel
theorem dX9_middle_17 : decode cX9_middle 17 = .ok (.iload_n 1, 1) := by decide +kernel
theorem dX9_middle_18 : decode cX9_middle 18 = .ok (.invokestatic 225, 3) := by decide +kernel
theorem dX9_middle_21 : decode cX9_middle 21 = .ok (.if_icmp .ge 19, 3) := by decide +kernel
theorem dX9_middle_24 : decode cX9_middle 24 = .ok (.aload_n 0, 1) := by decide +kernel
theorem dX9_middle_25 : decode cX9_middle 25 = .ok (.getfield 12, 3) := by decide +kernel
theorem dX9_middle_28 : decode cX9_middle 28 = .ok (.getfield 77, 3) := by decide +kernel
theorem dX9_middle_31 : decode cX9_middle 31 = .ok (.iload_n 2, 1) := by decide +kernel
theorem dX9_middle_32 : decode cX9_middle 32 = .ok (.invokevirtual 230, 3) := by decide +kernel
theorem dX9_middle_35 : decode cX9_middle 35 = .ok (.ifCond .eq 5, 3) := by decide +kernel
theorem dX9_middle_38 : decode cX9_middle 38 = .ok (.iload_n 2, 1) := by decide +kernel
theorem dX9_middle_39 : decode cX9_middle 39 = .ok (.istore_n 1, 1) := by decide +kernel
theorem dX9_middle_40 : decode cX9_middle 40 = .ok (.iinc 2 1, 3) := by decide +kernel
theorem dX9_middle_43 : decode cX9_middle 43 = .ok (.goto (-37), 3) := by decide +kernel
theorem dX9_middle_46 : decode cX9_middle 46 = .ok (.iload_n 1, 1) := by decide +kernel
theorem dX9_middle_47 : decode cX9_middle 47 = .ok (.ireturn, 1) := by decide +kernel
theorem dX9_end_0 : decode cX9_end 0 = .ok (.iload_n 1, 1) := by decide +kernel
theorem dX9_end_1 : decode cX9_end 1 = .ok (.iconst 0, 1) := by decide +kernel
theorem dX9_end_2 : decode cX9_end 2 = .ok (.iconst 5, 1) := by decide +kernel
theorem dX9_end_3 : decode cX9_end 3 = .ok (.invokestatic 69, 3) := by decide +kernel
theorem dX9_end_6 : decode cX9_end 6 = .ok (.ifCond .eq 14, 3) := by decide +kernel
theorem dX9_end_9 : decode cX9_end 9 = .ok (.iload_n 2, 1) := by decide +kernel
theorem dX9_end_10 : decode cX9_end 10 = .ok (.iconst 0, 1) := by decide +kernel
theorem dX9_end_11 : decode cX9_end 11 = .ok (.sipush 255, 3) := by decide +kernel
theorem dX9_end_14 : decode cX9_end 14 = .ok (.invokestatic 69, 3) := by decide +kernel
theorem dX9_end_17 : decode cX9_end 17 = .ok (.ifCond .ne 10, 3) := by decide +kernel
theorem dX9_end_20 : decode cX9_end 20 = .ok (.aload_n 0, 1) := by decide +kernel
theorem dX9_end_21 : decode cX9_end 21 = .ok (.bipush (-2), 2) := by decide +kernel
theorem dX9_end_23 : decode cX9_end 23 = .ok (.invokevirtual 73, 3) := by decide +kernel
theorem dX9_end_26 : decode cX9_end 26 = .ok (.ireturn, 1) := by decide +kernel
theorem dX9_end_27 : decode cX9_end 27 = .ok (.aload_n 0, 1) := by decide +kernel
theorem dX9_end_28 : decode cX9_end 28 = .ok (.getfield 12, 3) := by decide +kernel
theorem dX9_end_31 : decode cX9_end 31 = .ok (.getfield 233, 3) := by decide +kernel
theorem dX9_end_34 : decode cX9_end 34 = .ok (.getfield 237, 3) := by decide +kernel
theorem dX9_end_37 : decode cX9_end 37 = .ok (.iload_n 1, 1) := by decide +kernel
theorem dX9_end_38 : decode cX9_end 38 = .ok (.iaload, 1) := by decide +kernel
theorem dX9_end_39 : decode cX9_end 39 = .ok (.istore_n 3, 1) := by decide +kernel
theorem dX9_end_40 : decode cX9_end 40 = .ok (.aload_n 0, 1) := by decide +kernel
theorem dX9_end_41 : decode cX9_end 41 = .ok (.getfield 12, 3) := by decide +kernel
theorem dX9_end_44 : decode cX9_end 44 = .ok (.getfield 233, 3) := by decide +kernel
theorem dX9_end_47 : decode cX9_end 47 = .ok (.getfield 237, 3) := by decide +kernel
theorem dX9_end_50 : decode cX9_end 50 = .ok (.iload_n 1, 1) := by decide +kernel
theorem dX9_end_51 : decode cX9_end 51 = .ok (.iload_n 2, 1) := by decide +kernel
theorem dX9_end_52 : decode cX9_end 52 = .ok (.iastore, 1) := by decide +kernel
theorem dX9_end_53 : decode cX9_end 53 = .ok (.iload_n 3, 1) := by decide +kernel
theorem dX9_end_54 : decode cX9_end 54 = .ok (.ireturn, 1) := by decide +kernel
theorem dX9_endForm_0 : decode cX9_endForm 0 = .ok (.iload_n 1, 1) := by decide +kernel
theorem dX9_endForm_1 : decode cX9_endForm 1 = .ok (.iconst 0, 1) := by decide +kernel
theorem dX9_endForm_2 : decode cX9_endForm 2 = .ok (.iconst 3, 1) := by decide +kernel
theorem dX9_endForm_3 : decode cX9_endForm 3 = .ok (.invokestatic 69, 3) := by decide +kernel
theorem dX9_endForm_6 : decode cX9_endForm 6 = .ok (.ifCond .eq 13, 3) := by decide +kernel
theorem dX9_endForm_9 : decode cX9_endForm 9 = .ok (.iload_n 2, 1) := by decide +kernel
theorem dX9_endForm_10 : decode cX9_endForm 10 = .ok (.bipush (-2), 2) := by decide +kernel
theorem dX9_endForm_12 : decode cX9_endForm 12 = .ok (.iconst 1, 1) := by decide +kernel
theorem dX9_endForm_13 : decode cX9_endForm 13 = .ok (.invokestatic 69, 3) := by decide +kernel
theorem dX9_endForm_16 : decode cX9_endForm 16 = .ok (.ifCond .ne 12, 3) := by decide +kernel
theorem dX9_endForm_19 : decode cX9_endForm 19 = .ok (.aload_n 0, 1) := by decide +kernel
theorem dX9_endForm_20 : decode cX9_endForm 20 = .ok (.bipush (-2), 2) := by decide +kernel
theorem dX9_endForm_22 : decode cX9_endForm 22 = .ok (.bipush (-10), 2) := by decide +kernel
theorem dX9_endForm_24 : decode cX9_endForm 24 = .ok (.invokevirtual 116, 3) := by decide +kernel
theorem dX9_endForm_27 : decode cX9_endForm 27 = .ok (.ireturn, 1) := by decide +kernel
theorem dX9_endForm_28 : decode cX9_endForm 28 = .ok (.aload_n 0, 1) := by decide +kernel
theorem dX9_endForm_29 : decode cX9_endForm 29 = .ok (.getfield 12, 3) := by decide +kernel
theorem dX9_endForm_32 : decode cX9_endForm 32 = .ok (.getfield 233, 3) := by decide +kernel
theorem dX9_endForm_35 : decode cX9_endForm 35 = .ok (.getfield 240, 3) := by decide +kernel
theorem dX9_endForm_38 : decode cX9_endForm 38 = .ok (.iload_n 1, 1) := by decide +kernel
theorem dX9_endForm_39 : decode cX9_endForm 39 = .ok (.iaload, 1) := by decide +kernel
theorem dX9_endForm_40 : decode cX9_endForm 40 = .ok (.istore_n 3, 1) := by decide +kernel
theorem dX9_endForm_41 : decode cX9_endForm 41 = .ok (.aload_n 0, 1) := by decide +kernel
theorem dX9_endForm_42 : decode cX9_endForm 42 = .ok (.getfield 12, 3) := by decide +kernel
theorem dX9_endForm_45 : decode cX9_endForm 45 = .ok (.getfield 233, 3) := by decide +kernel
theorem dX9_endForm_48 : decode cX9_endForm 48 = .ok (.getfield 240, 3) := by decide +kernel
theorem dX9_endForm_51 : decode cX9_endForm 51 = .ok (.iload_n 1, 1) := by decide +kernel
theorem dX9_endForm_52 : decode cX9_endForm 52 = .ok (.iload_n 2, 1) := by decide +kernel
theorem dX9_endForm_53 : decode cX9_endForm 53 = .ok (.iastore, 1) := by decide +kernel
theorem dX9_endForm_54 : decode cX9_endForm 54 = .ok (.iload_n 3, 1) := by decide +kernel
theorem dX9_endForm_55 : decode cX9_endForm 55 = .ok (.ireturn, 1) := by decide +kernel
theorem dX9_which_0 : decode cX9_which 0 = .ok (.iload_n 1, 1) := by decide +kernel
theorem dX9_which_1 : decode cX9_which 1 = .ok (.invokestatic 125, 3) := by decide +kernel
theorem dX9_which_4 : decode cX9_which 4 = .ok (.ifCond .eq 31, 3) := by decide +kernel
theorem dX9_which_7 : decode cX9_which 7 = .ok (.iload_n 2, 1) := by decide +kernel
theorem dX9_which_8 : decode cX9_which 8 = .ok (.iconst 1, 1) := by decide +kernel
theorem dX9_which_9 : decode cX9_which 9 = .ok (.iconst 4, 1) := by decide +kernel
theorem dX9_which_10 : decode cX9_which 10 = .ok (.invokestatic 69, 3) := by decide +kernel
theorem dX9_which_13 : decode cX9_which 13 = .ok (.ifCond .eq 22, 3) := by decide +kernel
theorem dX9_which_16 : decode cX9_which 16 = .ok (.iload_n 3, 1) := by decide +kernel
theorem dX9_which_17 : decode cX9_which 17 = .ok (.iconst (-1), 1) := by decide +kernel
theorem dX9_which_18 : decode cX9_which 18 = .ok (.if_icmp .eq 24, 3) := by decide +kernel
theorem dX9_which_21 : decode cX9_which 21 = .ok (.aload_n 0, 1) := by decide +kernel
theorem dX9_which_22 : decode cX9_which 22 = .ok (.getfield 12, 3) := by decide +kernel
theorem dX9_which_25 : decode cX9_which 25 = .ok (.getfield 77, 3) := by decide +kernel
theorem dX9_which_28 : decode cX9_which 28 = .ok (.iload_n 3, 1) := by decide +kernel
theorem dX9_which_29 : decode cX9_which 29 = .ok (.invokevirtual 90, 3) := by decide +kernel
theorem dX9_which_32 : decode cX9_which 32 = .ok (.ifCond .ne 10, 3) := by decide +kernel
theorem dX9_which_35 : decode cX9_which 35 = .ok (.aload_n 0, 1) := by decide +kernel
theorem dX9_which_36 : decode cX9_which 36 = .ok (.bipush (-2), 2) := by decide +kernel
theorem dX9_which_38 : decode cX9_which 38 = .ok (.invokevirtual 73, 3) := by decide +kernel
theorem dX9_which_41 : decode cX9_which 41 = .ok (.ireturn, 1) := by decide +kernel
theorem dX9_which_42 : decode cX9_which 42 = .ok (.aload_n 0, 1) := by decide +kernel
theorem dX9_which_43 : decode cX9_which 43 = .ok (.getfield 12, 3) := by decide +kernel
theorem dX9_which_46 : decode cX9_which 46 = .ok (.getfield 107, 3) := by decide +kernel
theorem dX9_which_49 : decode cX9_which 49 = .ok (.getfield 110, 3) := by decide +kernel
theorem dX9_which_52 : decode cX9_which 52 = .ok (.ifCond .eq 22, 3) := by decide +kernel
theorem dX9_which_55 : decode cX9_which 55 = .ok (.iload_n 3, 1) := by decide +kernel
theorem dX9_which_56 : decode cX9_which 56 = .ok (.iconst (-1), 1) := by decide +kernel
theorem dX9_which_57 : decode cX9_which 57 = .ok (.if_icmp .eq 24, 3) := by decide +kernel
theorem dX9_which_60 : decode cX9_which 60 = .ok (.aload_n 0, 1) := by decide +kernel
theorem dX9_which_61 : decode cX9_which 61 = .ok (.getfield 12, 3) := by decide +kernel
theorem dX9_which_64 : decode cX9_which 64 = .ok (.getfield 77, 3) := by decide +kernel
theorem dX9_which_67 : decode cX9_which 67 = .ok (.iload_n 3, 1) := by decide +kernel
theorem dX9_which_68 : decode cX9_which 68 = .ok (.invokevirtual 199, 3) := by decide +kernel
theorem dX9_which_71 : decode cX9_which 71 = .ok (.ifCond .ne 10, 3) := by decide +kernel
theorem dX9_which_74 : decode cX9_which 74 = .ok (.aload_n 0, 1) := by decide +kernel
theorem dX9_which_75 : decode cX9_which 75 = .ok (.bipush (-3), 2) := by decide +kernel
theorem dX9_which_77 : decode cX9_which 77 = .ok (.invokevirtual 73, 3) := by decide +kernel
theorem dX9_which_80 : decode cX9_which 80 = .ok (.ireturn, 1) := by decide +kernel
theorem dX9_which_81 : decode cX9_which 81 = .ok (.aload_n 0, 1) := by decide +kernel
theorem dX9_which_82 : decode cX9_which 82 = .ok (.iload_n 1, 1) := by decide +kernel
theorem dX9_which_83 : decode cX9_which 83 = .ok (.iload_n 2, 1) := by decide +kernel
theorem dX9_which_84 : decode cX9_which 84 = .ok (.invokevirtual 241, 3) := by decide +kernel
theorem dX9_which_87 : decode cX9_which 87 = .ok (.istore 4, 2) := by decide +kernel
theorem dX9_which_89 : decode cX9_which 89 = .ok (.iload_n 3, 1) := by decide +kernel
theorem dX9_which_90 : decode cX9_which 90 = .ok (.iconst (-1), 1) := by decide +kernel
theorem dX9_which_91 : decode cX9_which 91 = .ok (.if_icmp .ne 6, 3) := by decide +kernel
theorem dX9_which_94 : decode cX9_which 94 = .ok (.iload 4, 2) := by decide +kernel
theorem dX9_which_96 : decode cX9_which 96 = .ok (.ireturn, 1) := by decide +kernel
theorem dX9_which_97 : decode cX9_which 97 = .ok (.iload 4, 2) := by decide +kernel
theorem dX9_which_99 : decode cX9_which 99 = .ok (.ifCond .ne 10, 3) := by decide +kernel
theorem dX9_which_102 : decode cX9_which 102 = .ok (.aload_n 0, 1) := by decide +kernel
theorem dX9_which_103 : decode cX9_which 103 = .ok (.bipush (-3), 2) := by decide +kernel
theorem dX9_which_105 : decode cX9_which 105 = .ok (.invokevirtual 73, 3) := by decide +kernel
theorem dX9_which_108 : decode cX9_which 108 = .ok (.ireturn, 1) := by decide +kernel
theorem dX9_which_109 : decode cX9_which 109 = .ok (.aload_n 0, 1) := by decide +kernel
theorem dX9_which_110 : decode cX9_which 110 = .ok (.aload_n 0, 1) := by decide +kernel
theorem dX9_which_111 : decode cX9_which 111 = .ok (.getfield 49, 3) := by decide +kernel
theorem dX9_which_114 : decode cX9_which 114 = .ok (.iload_n 3, 1) := by decide +kernel
theorem dX9_which_115 : decode cX9_which 115 = .ok (.iaload, 1) := by decide +kernel
theorem dX9_which_116 : decode cX9_which 116 = .ok (.iload 4, 2) := by decide +kernel
theorem dX9_which_118 : decode cX9_which 118 = .ok (.invokevirtual 244, 3) := by decide +kernel
theorem dX9_which_121 : decode cX9_which 121 = .ok (.iconst 1, 1) := by decide +kernel
theorem dX9_which_122 : decode cX9_which 122 = .ok (.ireturn, 1) := by decide +kernel
theorem dX9_pair_0 : decode cX9_pair 0 = .ok (.iload_n 1, 1) := by decide +kernel
theorem dX9_pair_1 : decode cX9_pair 1 = .ok (.iload_n 3, 1) := by decide +kernel
theorem dX9_pair_2 : decode cX9_pair 2 = .ok (.if_icmp .eq 34, 3) := by decide +kernel
theorem dX9_pair_5 : decode cX9_pair 5 = .ok (.aload_n 0, 1) := by decide +kernel
theorem dX9_pair_6 : decode cX9_pair 6 = .ok (.getfield 12, 3) := by decide +kernel
theorem dX9_pair_9 : decode cX9_pair 9 = .ok (.getfield 77, 3) := by decide +kernel
theorem dX9_pair_12 : decode cX9_pair 12 = .ok (.iload_n 1, 1) := by decide +kernel
theorem dX9_pair_13 : decode cX9_pair 13 = .ok (.iload_n 2, 1) := by decide +kernel
theorem dX9_pair_14 : decode cX9_pair 14 = .ok (.invokevirtual 131, 3) := by decide +kernel
theorem dX9_pair_17 : decode cX9_pair 17 = .ok (.ifCond .eq 19, 3) := by decide +kernel
theorem dX9_pair_20 : decode cX9_pair 20 = .ok (.aload_n 0, 1) := by decide +kernel
theorem dX9_pair_21 : decode cX9_pair 21 = .ok (.getfield 12, 3) := by decide +kernel
theorem dX9_pair_24 : decode cX9_pair 24 = .ok (.getfield 77, 3) := by decide +kernel
theorem dX9_pair_27 : decode cX9_pair 27 = .ok (.iload_n 3, 1) := by decide +kernel
theorem dX9_pair_28 : decode cX9_pair 28 = .ok (.iload 4, 2) := by decide +kernel
theorem dX9_pair_30 : decode cX9_pair 30 = .ok (.invokevirtual 131, 3) := by decide +kernel
theorem dX9_pair_33 : decode cX9_pair 33 = .ok (.ifCond .ne 10, 3) := by decide +kernel
theorem dX9_pair_36 : decode cX9_pair 36 = .ok (.aload_n 0, 1) := by decide +kernel
theorem dX9_pair_37 : decode cX9_pair 37 = .ok (.bipush (-2), 2) := by decide +kernel
theorem dX9_pair_39 : decode cX9_pair 39 = .ok (.invokevirtual 73, 3) := by decide +kernel
theorem dX9_pair_42 : decode cX9_pair 42 = .ok (.ireturn, 1) := by decide +kernel
theorem dX9_pair_43 : decode cX9_pair 43 = .ok (.iload_n 1, 1) := by decide +kernel
theorem dX9_pair_44 : decode cX9_pair 44 = .ok (.bipush 8, 2) := by decide +kernel
theorem dX9_pair_46 : decode cX9_pair 46 = .ok (.imul, 1) := by decide +kernel
theorem dX9_pair_47 : decode cX9_pair 47 = .ok (.iload_n 2, 1) := by decide +kernel
theorem dX9_pair_48 : decode cX9_pair 48 = .ok (.iadd, 1) := by decide +kernel
theorem dX9_pair_49 : decode cX9_pair 49 = .ok (.istore 5, 2) := by decide +kernel
theorem dX9_pair_51 : decode cX9_pair 51 = .ok (.iload_n 3, 1) := by decide +kernel
theorem dX9_pair_52 : decode cX9_pair 52 = .ok (.bipush 8, 2) := by decide +kernel
theorem dX9_pair_54 : decode cX9_pair 54 = .ok (.imul, 1) := by decide +kernel
theorem dX9_pair_55 : decode cX9_pair 55 = .ok (.iload 4, 2) := by decide +kernel
theorem dX9_pair_57 : decode cX9_pair 57 = .ok (.iadd, 1) := by decide +kernel
theorem dX9_pair_58 : decode cX9_pair 58 = .ok (.istore 6, 2) := by decide +kernel
theorem dX9_pair_60 : decode cX9_pair 60 = .ok (.aload_n 0, 1) := by decide +kernel
theorem dX9_pair_61 : decode cX9_pair 61 = .ok (.getfield 12, 3) := by decide +kernel
theorem dX9_pair_64 : decode cX9_pair 64 = .ok (.getfield 248, 3) := by decide +kernel
theorem dX9_pair_67 : decode cX9_pair 67 = .ok (.iload 5, 2) := by decide +kernel
theorem dX9_pair_69 : decode cX9_pair 69 = .ok (.iload 6, 2) := by decide +kernel
theorem dX9_pair_71 : decode cX9_pair 71 = .ok (.invokevirtual 252, 3) := by decide +kernel
theorem dX9_pair_74 : decode cX9_pair 74 = .ok (.ifCond .eq 10, 3) := by decide +kernel
theorem dX9_pair_77 : decode cX9_pair 77 = .ok (.aload_n 0, 1) := by decide +kernel
theorem dX9_pair_78 : decode cX9_pair 78 = .ok (.bipush (-2), 2) := by decide +kernel
theorem dX9_pair_80 : decode cX9_pair 80 = .ok (.invokevirtual 73, 3) := by decide +kernel
theorem dX9_pair_83 : decode cX9_pair 83 = .ok (.ireturn, 1) := by decide +kernel
theorem dX9_pair_84 : decode cX9_pair 84 = .ok (.aload_n 0, 1) := by decide +kernel
theorem dX9_pair_85 : decode cX9_pair 85 = .ok (.getfield 12, 3) := by decide +kernel
theorem dX9_pair_88 : decode cX9_pair 88 = .ok (.getfield 248, 3) := by decide +kernel
theorem dX9_pair_91 : decode cX9_pair 91 = .ok (.getfield 257, 3) := by decide +kernel
theorem dX9_pair_94 : decode cX9_pair 94 = .ok (.bipush 24, 2) := by decide +kernel
theorem dX9_pair_96 : decode cX9_pair 96 = .ok (.if_icmp .lt 10, 3) := by decide +kernel
theorem dX9_pair_99 : decode cX9_pair 99 = .ok (.aload_n 0, 1) := by decide +kernel
theorem dX9_pair_100 : decode cX9_pair 100 = .ok (.bipush (-4), 2) := by decide +kernel
theorem dX9_pair_102 : decode cX9_pair 102 = .ok (.invokevirtual 73, 3) := by decide +kernel
theorem dX9_pair_105 : decode cX9_pair 105 = .ok (.ireturn, 1) := by decide +kernel
theorem dX9_pair_106 : decode cX9_pair 106 = .ok (.aload_n 0, 1) := by decide +kernel
theorem dX9_pair_107 : decode cX9_pair 107 = .ok (.getfield 12, 3) := by decide +kernel
theorem dX9_pair_110 : decode cX9_pair 110 = .ok (.getfield 248, 3) := by decide +kernel
theorem dX9_pair_113 : decode cX9_pair 113 = .ok (.iload 5, 2) := by decide +kernel
theorem dX9_pair_115 : decode cX9_pair 115 = .ok (.iload 6, 2) := by decide +kernel
theorem dX9_pair_117 : decode cX9_pair 117 = .ok (.invokevirtual 258, 3) := by decide +kernel
theorem dX9_pair_120 : decode cX9_pair 120 = .ok (.ireturn, 1) := by decide +kernel
theorem dX9_rings_0 : decode cX9_rings 0 = .ok (.iload_n 1, 1) := by decide +kernel
theorem dX9_rings_1 : decode cX9_rings 1 = .ok (.iconst 0, 1) := by decide +kernel
theorem dX9_rings_2 : decode cX9_rings 2 = .ok (.iconst 1, 1) := by decide +kernel
theorem dX9_rings_3 : decode cX9_rings 3 = .ok (.invokestatic 69, 3) := by decide +kernel
theorem dX9_rings_6 : decode cX9_rings 6 = .ok (.ifCond .ne 10, 3) := by decide +kernel
theorem dX9_rings_9 : decode cX9_rings 9 = .ok (.aload_n 0, 1) := by decide +kernel
theorem dX9_rings_10 : decode cX9_rings 10 = .ok (.bipush (-2), 2) := by decide +kernel
theorem dX9_rings_12 : decode cX9_rings 12 = .ok (.invokevirtual 73, 3) := by decide +kernel
theorem dX9_rings_15 : decode cX9_rings 15 = .ok (.ireturn, 1) := by decide +kernel
theorem dX9_rings_16 : decode cX9_rings 16 = .ok (.aload_n 0, 1) := by decide +kernel
theorem dX9_rings_17 : decode cX9_rings 17 = .ok (.getfield 55, 3) := by decide +kernel
theorem dX9_rings_20 : decode cX9_rings 20 = .ok (.aload_n 0, 1) := by decide +kernel
theorem dX9_rings_21 : decode cX9_rings 21 = .ok (.getfield 12, 3) := by decide +kernel
theorem dX9_rings_24 : decode cX9_rings 24 = .ok (.getfield 248, 3) := by decide +kernel
theorem dX9_rings_27 : decode cX9_rings 27 = .ok (.invokevirtual 260, 3) := by decide +kernel
theorem dX9_rings_30 : decode cX9_rings 30 = .ok (.iload_n 1, 1) := by decide +kernel
theorem dX9_rings_31 : decode cX9_rings 31 = .ok (.ifCond .ne 13, 3) := by decide +kernel
theorem dX9_rings_34 : decode cX9_rings 34 = .ok (.aload_n 0, 1) := by decide +kernel
theorem dX9_rings_35 : decode cX9_rings 35 = .ok (.getfield 55, 3) := by decide +kernel
theorem dX9_rings_38 : decode cX9_rings 38 = .ok (.getfield 264, 3) := by decide +kernel
theorem dX9_rings_41 : decode cX9_rings 41 = .ok (.goto 10, 3) := by decide +kernel
theorem dX9_rings_44 : decode cX9_rings 44 = .ok (.aload_n 0, 1) := by decide +kernel
theorem dX9_rings_45 : decode cX9_rings 45 = .ok (.getfield 55, 3) := by decide +kernel
theorem dX9_rings_48 : decode cX9_rings 48 = .ok (.getfield 267, 3) := by decide +kernel
theorem dX9_rings_51 : decode cX9_rings 51 = .ok (.ireturn, 1) := by decide +kernel
theorem dX9_atFault_0 : decode cX9_atFault 0 = .ok (.iload_n 1, 1) := by decide +kernel
theorem dX9_atFault_1 : decode cX9_atFault 1 = .ok (.iconst 0, 1) := by decide +kernel
theorem dX9_atFault_2 : decode cX9_atFault 2 = .ok (.aload_n 0, 1) := by decide +kernel
theorem dX9_atFault_3 : decode cX9_atFault 3 = .ok (.getfield 12, 3) := by decide +kernel
theorem dX9_atFault_6 : decode cX9_atFault 6 = .ok (.getfield 248, 3) := by decide +kernel
theorem dX9_atFault_9 : decode cX9_atFault 9 = .ok (.getfield 257, 3) := by decide +kernel
theorem dX9_atFault_12 : decode cX9_atFault 12 = .ok (.iconst 1, 1) := by decide +kernel
theorem dX9_atFault_13 : decode cX9_atFault 13 = .ok (.isub, 1) := by decide +kernel
theorem dX9_atFault_14 : decode cX9_atFault 14 = .ok (.invokestatic 69, 3) := by decide +kernel
theorem dX9_atFault_17 : decode cX9_atFault 17 = .ok (.ifCond .ne 10, 3) := by decide +kernel
theorem dX9_atFault_20 : decode cX9_atFault 20 = .ok (.aload_n 0, 1) := by decide +kernel
theorem dX9_atFault_21 : decode cX9_atFault 21 = .ok (.bipush (-2), 2) := by decide +kernel
theorem dX9_atFault_23 : decode cX9_atFault 23 = .ok (.invokevirtual 73, 3) := by decide +kernel
theorem dX9_atFault_26 : decode cX9_atFault 26 = .ok (.ireturn, 1) := by decide +kernel
theorem dX9_atFault_27 : decode cX9_atFault 27 = .ok (.aload_n 0, 1) := by decide +kernel
theorem dX9_atFault_28 : decode cX9_atFault 28 = .ok (.getfield 55, 3) := by decide +kernel
theorem dX9_atFault_31 : decode cX9_atFault 31 = .ok (.aload_n 0, 1) := by decide +kernel
theorem dX9_atFault_32 : decode cX9_atFault 32 = .ok (.getfield 12, 3) := by decide +kernel
theorem dX9_atFault_35 : decode cX9_atFault 35 = .ok (.getfield 248, 3) := by decide +kernel
theorem dX9_atFault_38 : decode cX9_atFault 38 = .ok (.invokevirtual 260, 3) := by decide +kernel
theorem dX9_atFault_41 : decode cX9_atFault 41 = .ok (.aload_n 0, 1) := by decide +kernel
theorem dX9_atFault_42 : decode cX9_atFault 42 = .ok (.getfield 55, 3) := by decide +kernel
theorem dX9_atFault_45 : decode cX9_atFault 45 = .ok (.getfield 270, 3) := by decide +kernel
theorem dX9_atFault_48 : decode cX9_atFault 48 = .ok (.iload_n 1, 1) := by decide +kernel
theorem dX9_atFault_49 : decode cX9_atFault 49 = .ok (.iaload, 1) := by decide +kernel
theorem dX9_atFault_50 : decode cX9_atFault 50 = .ok (.ifCond .ne 10, 3) := by decide +kernel
theorem dX9_atFault_53 : decode cX9_atFault 53 = .ok (.aload_n 0, 1) := by decide +kernel
theorem dX9_atFault_54 : decode cX9_atFault 54 = .ok (.bipush (-3), 2) := by decide +kernel
theorem dX9_atFault_56 : decode cX9_atFault 56 = .ok (.invokevirtual 73, 3) := by decide +kernel
theorem dX9_atFault_59 : decode cX9_atFault 59 = .ok (.ireturn, 1) := by decide +kernel
theorem dX9_atFault_60 : decode cX9_atFault 60 = .ok (.aload_n 0, 1) := by decide +kernel
theorem dX9_atFault_61 : decode cX9_atFault 61 = .ok (.aload_n 0, 1) := by decide +kernel
theorem dX9_atFault_62 : decode cX9_atFault 62 = .ok (.getfield 55, 3) := by decide +kernel
theorem dX9_atFault_65 : decode cX9_atFault 65 = .ok (.getfield 273, 3) := by decide +kernel
theorem dX9_atFault_68 : decode cX9_atFault 68 = .ok (.iload_n 1, 1) := by decide +kernel
theorem dX9_atFault_69 : decode cX9_atFault 69 = .ok (.iaload, 1) := by decide +kernel
theorem dX9_atFault_70 : decode cX9_atFault 70 = .ok (.aload_n 0, 1) := by decide +kernel
theorem dX9_atFault_71 : decode cX9_atFault 71 = .ok (.getfield 55, 3) := by decide +kernel
theorem dX9_atFault_74 : decode cX9_atFault 74 = .ok (.getfield 270, 3) := by decide +kernel
theorem dX9_atFault_77 : decode cX9_atFault 77 = .ok (.iload_n 1, 1) := by decide +kernel
theorem dX9_atFault_78 : decode cX9_atFault 78 = .ok (.iaload, 1) := by decide +kernel
theorem dX9_atFault_79 : decode cX9_atFault 79 = .ok (.invokevirtual 244, 3) := by decide +kernel
theorem dX9_atFault_82 : decode cX9_atFault 82 = .ok (.iconst 1, 1) := by decide +kernel
theorem dX9_atFault_83 : decode cX9_atFault 83 = .ok (.ireturn, 1) := by decide +kernel
theorem dX9_worst_0 : decode cX9_worst 0 = .ok (.aload_n 0, 1) := by decide +kernel
theorem dX9_worst_1 : decode cX9_worst 1 = .ok (.getfield 55, 3) := by decide +kernel
theorem dX9_worst_4 : decode cX9_worst 4 = .ok (.aload_n 0, 1) := by decide +kernel
theorem dX9_worst_5 : decode cX9_worst 5 = .ok (.getfield 12, 3) := by decide +kernel
theorem dX9_worst_8 : decode cX9_worst 8 = .ok (.getfield 248, 3) := by decide +kernel
theorem dX9_worst_11 : decode cX9_worst 11 = .ok (.invokevirtual 260, 3) := by decide +kernel
theorem dX9_worst_14 : decode cX9_worst 14 = .ok (.iconst (-1), 1) := by decide +kernel
theorem dX9_worst_15 : decode cX9_worst 15 = .ok (.istore_n 1, 1) := by decide +kernel
theorem dX9_worst_16 : decode cX9_worst 16 = .ok (.iconst 0, 1) := by decide +kernel
theorem dX9_worst_17 : decode cX9_worst 17 = .ok (.istore_n 2, 1) := by decide +kernel
theorem dX9_worst_18 : decode cX9_worst 18 = .ok (.iload_n 2, 1) := by decide +kernel
theorem dX9_worst_19 : decode cX9_worst 19 = .ok (.aload_n 0, 1) := by decide +kernel
theorem dX9_worst_20 : decode cX9_worst 20 = .ok (.getfield 12, 3) := by decide +kernel
theorem dX9_worst_23 : decode cX9_worst 23 = .ok (.getfield 248, 3) := by decide +kernel
theorem dX9_worst_26 : decode cX9_worst 26 = .ok (.getfield 257, 3) := by decide +kernel
theorem dX9_worst_29 : decode cX9_worst 29 = .ok (.if_icmp .ge 40, 3) := by decide +kernel
theorem dX9_worst_32 : decode cX9_worst 32 = .ok (.aload_n 0, 1) := by decide +kernel
theorem dX9_worst_33 : decode cX9_worst 33 = .ok (.getfield 55, 3) := by decide +kernel
theorem dX9_worst_36 : decode cX9_worst 36 = .ok (.getfield 270, 3) := by decide +kernel
theorem dX9_worst_39 : decode cX9_worst 39 = .ok (.iload_n 2, 1) := by decide +kernel
theorem dX9_worst_40 : decode cX9_worst 40 = .ok (.iaload, 1) := by decide +kernel
theorem dX9_worst_41 : decode cX9_worst 41 = .ok (.ifCond .le 22, 3) := by decide +kernel
theorem dX9_worst_44 : decode cX9_worst 44 = .ok (.iload_n 1, 1) := by decide +kernel
theorem dX9_worst_45 : decode cX9_worst 45 = .ok (.iconst (-1), 1) := by decide +kernel
theorem dX9_worst_46 : decode cX9_worst 46 = .ok (.if_icmp .eq 15, 3) := by decide +kernel
theorem dX9_worst_49 : decode cX9_worst 49 = .ok (.aload_n 0, 1) := by decide +kernel
theorem dX9_worst_50 : decode cX9_worst 50 = .ok (.getfield 55, 3) := by decide +kernel
theorem dX9_worst_53 : decode cX9_worst 53 = .ok (.iload_n 2, 1) := by decide +kernel
theorem dX9_worst_54 : decode cX9_worst 54 = .ok (.iload_n 1, 1) := by decide +kernel
theorem dX9_worst_55 : decode cX9_worst 55 = .ok (.invokevirtual 276, 3) := by decide +kernel
theorem dX9_worst_58 : decode cX9_worst 58 = .ok (.ifCond .eq 5, 3) := by decide +kernel
theorem dX9_worst_61 : decode cX9_worst 61 = .ok (.iload_n 2, 1) := by decide +kernel
theorem dX9_worst_62 : decode cX9_worst 62 = .ok (.istore_n 1, 1) := by decide +kernel
theorem dX9_worst_63 : decode cX9_worst 63 = .ok (.iinc 2 1, 3) := by decide +kernel
theorem dX9_worst_66 : decode cX9_worst 66 = .ok (.goto (-48), 3) := by decide +kernel
theorem dX9_worst_69 : decode cX9_worst 69 = .ok (.iload_n 1, 1) := by decide +kernel
theorem dX9_worst_70 : decode cX9_worst 70 = .ok (.ireturn, 1) := by decide +kernel
theorem dX9_sets_0 : decode cX9_sets 0 = .ok (.aload_n 0, 1) := by decide +kernel
theorem dX9_sets_1 : decode cX9_sets 1 = .ok (.getfield 55, 3) := by decide +kernel
theorem dX9_sets_4 : decode cX9_sets 4 = .ok (.aload_n 0, 1) := by decide +kernel
theorem dX9_sets_5 : decode cX9_sets 5 = .ok (.getfield 12, 3) := by decide +kernel
theorem dX9_sets_8 : decode cX9_sets 8 = .ok (.getfield 248, 3) := by decide +kernel
theorem dX9_sets_11 : decode cX9_sets 11 = .ok (.invokevirtual 260, 3) := by decide +kernel
theorem dX9_sets_14 : decode cX9_sets 14 = .ok (.aload_n 0, 1) := by decide +kernel
theorem dX9_sets_15 : decode cX9_sets 15 = .ok (.getfield 55, 3) := by decide +kernel
theorem dX9_sets_18 : decode cX9_sets 18 = .ok (.aload_n 0, 1) := by decide +kernel
theorem dX9_sets_19 : decode cX9_sets 19 = .ok (.getfield 12, 3) := by decide +kernel
theorem dX9_sets_22 : decode cX9_sets 22 = .ok (.getfield 248, 3) := by decide +kernel
theorem dX9_sets_25 : decode cX9_sets 25 = .ok (.invokevirtual 279, 3) := by decide +kernel
theorem dX9_sets_28 : decode cX9_sets 28 = .ok (.iconst 0, 1) := by decide +kernel
theorem dX9_sets_29 : decode cX9_sets 29 = .ok (.istore_n 1, 1) := by decide +kernel
theorem dX9_sets_30 : decode cX9_sets 30 = .ok (.iconst 0, 1) := by decide +kernel
theorem dX9_sets_31 : decode cX9_sets 31 = .ok (.istore_n 2, 1) := by decide +kernel
theorem dX9_sets_32 : decode cX9_sets 32 = .ok (.iload_n 2, 1) := by decide +kernel
theorem dX9_sets_33 : decode cX9_sets 33 = .ok (.bipush 48, 2) := by decide +kernel
theorem dX9_sets_35 : decode cX9_sets 35 = .ok (.if_icmp .ge 39, 3) := by decide +kernel
theorem dX9_sets_38 : decode cX9_sets 38 = .ok (.aload_n 0, 1) := by decide +kernel
theorem dX9_sets_39 : decode cX9_sets 39 = .ok (.getfield 12, 3) := by decide +kernel
theorem dX9_sets_42 : decode cX9_sets 42 = .ok (.getfield 77, 3) := by decide +kernel
theorem dX9_sets_45 : decode cX9_sets 45 = .ok (.iload_n 2, 1) := by decide +kernel
theorem dX9_sets_46 : decode cX9_sets 46 = .ok (.invokevirtual 282, 3) := by decide +kernel
theorem dX9_sets_49 : decode cX9_sets 49 = .ok (.ifCond .eq 19, 3) := by decide +kernel
theorem dX9_sets_52 : decode cX9_sets 52 = .ok (.aload_n 0, 1) := by decide +kernel
theorem dX9_sets_53 : decode cX9_sets 53 = .ok (.getfield 55, 3) := by decide +kernel
theorem dX9_sets_56 : decode cX9_sets 56 = .ok (.getfield 285, 3) := by decide +kernel
theorem dX9_sets_59 : decode cX9_sets 59 = .ok (.iload_n 2, 1) := by decide +kernel
theorem dX9_sets_60 : decode cX9_sets 60 = .ok (.iaload, 1) := by decide +kernel
theorem dX9_sets_61 : decode cX9_sets 61 = .ok (.iload_n 2, 1) := by decide +kernel
theorem dX9_sets_62 : decode cX9_sets 62 = .ok (.if_icmp .ne 6, 3) := by decide +kernel
theorem dX9_sets_65 : decode cX9_sets 65 = .ok (.iinc 1 1, 3) := by decide +kernel
theorem dX9_sets_68 : decode cX9_sets 68 = .ok (.iinc 2 1, 3) := by decide +kernel
theorem dX9_sets_71 : decode cX9_sets 71 = .ok (.goto (-39), 3) := by decide +kernel
theorem dX9_sets_74 : decode cX9_sets 74 = .ok (.iload_n 1, 1) := by decide +kernel
theorem dX9_sets_75 : decode cX9_sets 75 = .ok (.ireturn, 1) := by decide +kernel
theorem dX9_alike_0 : decode cX9_alike 0 = .ok (.aload_n 0, 1) := by decide +kernel
theorem dX9_alike_1 : decode cX9_alike 1 = .ok (.getfield 12, 3) := by decide +kernel
theorem dX9_alike_4 : decode cX9_alike 4 = .ok (.getfield 77, 3) := by decide +kernel
theorem dX9_alike_7 : decode cX9_alike 7 = .ok (.iload_n 1, 1) := by decide +kernel
theorem dX9_alike_8 : decode cX9_alike 8 = .ok (.iload_n 2, 1) := by decide +kernel
theorem dX9_alike_9 : decode cX9_alike 9 = .ok (.invokevirtual 131, 3) := by decide +kernel
theorem dX9_alike_12 : decode cX9_alike 12 = .ok (.ifCond .eq 19, 3) := by decide +kernel
theorem dX9_alike_15 : decode cX9_alike 15 = .ok (.aload_n 0, 1) := by decide +kernel
theorem dX9_alike_16 : decode cX9_alike 16 = .ok (.getfield 12, 3) := by decide +kernel
theorem dX9_alike_19 : decode cX9_alike 19 = .ok (.getfield 77, 3) := by decide +kernel
theorem dX9_alike_22 : decode cX9_alike 22 = .ok (.iload_n 3, 1) := by decide +kernel
theorem dX9_alike_23 : decode cX9_alike 23 = .ok (.iload 4, 2) := by decide +kernel
theorem dX9_alike_25 : decode cX9_alike 25 = .ok (.invokevirtual 131, 3) := by decide +kernel
theorem dX9_alike_28 : decode cX9_alike 28 = .ok (.ifCond .ne 10, 3) := by decide +kernel
theorem dX9_alike_31 : decode cX9_alike 31 = .ok (.aload_n 0, 1) := by decide +kernel
theorem dX9_alike_32 : decode cX9_alike 32 = .ok (.bipush (-2), 2) := by decide +kernel
theorem dX9_alike_34 : decode cX9_alike 34 = .ok (.invokevirtual 73, 3) := by decide +kernel
theorem dX9_alike_37 : decode cX9_alike 37 = .ok (.ireturn, 1) := by decide +kernel
theorem dX9_alike_38 : decode cX9_alike 38 = .ok (.aload_n 0, 1) := by decide +kernel
theorem dX9_alike_39 : decode cX9_alike 39 = .ok (.getfield 55, 3) := by decide +kernel
theorem dX9_alike_42 : decode cX9_alike 42 = .ok (.aload_n 0, 1) := by decide +kernel
theorem dX9_alike_43 : decode cX9_alike 43 = .ok (.getfield 12, 3) := by decide +kernel
theorem dX9_alike_46 : decode cX9_alike 46 = .ok (.getfield 248, 3) := by decide +kernel
theorem dX9_alike_49 : decode cX9_alike 49 = .ok (.invokevirtual 260, 3) := by decide +kernel
theorem dX9_alike_52 : decode cX9_alike 52 = .ok (.aload_n 0, 1) := by decide +kernel
theorem dX9_alike_53 : decode cX9_alike 53 = .ok (.getfield 55, 3) := by decide +kernel
theorem dX9_alike_56 : decode cX9_alike 56 = .ok (.aload_n 0, 1) := by decide +kernel
theorem dX9_alike_57 : decode cX9_alike 57 = .ok (.getfield 12, 3) := by decide +kernel
theorem dX9_alike_60 : decode cX9_alike 60 = .ok (.getfield 248, 3) := by decide +kernel
theorem dX9_alike_63 : decode cX9_alike 63 = .ok (.invokevirtual 279, 3) := by decide +kernel
theorem dX9_alike_66 : decode cX9_alike 66 = .ok (.aload_n 0, 1) := by decide +kernel
theorem dX9_alike_67 : decode cX9_alike 67 = .ok (.getfield 55, 3) := by decide +kernel
theorem dX9_alike_70 : decode cX9_alike 70 = .ok (.getfield 285, 3) := by decide +kernel
theorem dX9_alike_73 : decode cX9_alike 73 = .ok (.iload_n 1, 1) := by decide +kernel
theorem dX9_alike_74 : decode cX9_alike 74 = .ok (.bipush 8, 2) := by decide +kernel
theorem dX9_alike_76 : decode cX9_alike 76 = .ok (.imul, 1) := by decide +kernel
theorem dX9_alike_77 : decode cX9_alike 77 = .ok (.iload_n 2, 1) := by decide +kernel
theorem dX9_alike_78 : decode cX9_alike 78 = .ok (.iadd, 1) := by decide +kernel
theorem dX9_alike_79 : decode cX9_alike 79 = .ok (.iaload, 1) := by decide +kernel
theorem dX9_alike_80 : decode cX9_alike 80 = .ok (.aload_n 0, 1) := by decide +kernel
theorem dX9_alike_81 : decode cX9_alike 81 = .ok (.getfield 55, 3) := by decide +kernel
theorem dX9_alike_84 : decode cX9_alike 84 = .ok (.getfield 285, 3) := by decide +kernel
theorem dX9_alike_87 : decode cX9_alike 87 = .ok (.iload_n 3, 1) := by decide +kernel
theorem dX9_alike_88 : decode cX9_alike 88 = .ok (.bipush 8, 2) := by decide +kernel
theorem dX9_alike_90 : decode cX9_alike 90 = .ok (.imul, 1) := by decide +kernel
theorem dX9_alike_91 : decode cX9_alike 91 = .ok (.iload 4, 2) := by decide +kernel
theorem dX9_alike_93 : decode cX9_alike 93 = .ok (.iadd, 1) := by decide +kernel
theorem dX9_alike_94 : decode cX9_alike 94 = .ok (.iaload, 1) := by decide +kernel
theorem dX9_alike_95 : decode cX9_alike 95 = .ok (.if_icmp .ne 7, 3) := by decide +kernel
theorem dX9_alike_98 : decode cX9_alike 98 = .ok (.iconst 1, 1) := by decide +kernel
theorem dX9_alike_99 : decode cX9_alike 99 = .ok (.goto 4, 3) := by decide +kernel
theorem dX9_alike_102 : decode cX9_alike 102 = .ok (.iconst 0, 1) := by decide +kernel
theorem dX9_alike_103 : decode cX9_alike 103 = .ok (.ireturn, 1) := by decide +kernel
theorem dX9_part_0 : decode cX9_part 0 = .ok (.iload_n 1, 1) := by decide +kernel
theorem dX9_part_1 : decode cX9_part 1 = .ok (.iconst 0, 1) := by decide +kernel
theorem dX9_part_2 : decode cX9_part 2 = .ok (.iconst 1, 1) := by decide +kernel
theorem dX9_part_3 : decode cX9_part 3 = .ok (.invokestatic 69, 3) := by decide +kernel
theorem dX9_part_6 : decode cX9_part 6 = .ok (.ifCond .ne 10, 3) := by decide +kernel
theorem dX9_part_9 : decode cX9_part 9 = .ok (.aload_n 0, 1) := by decide +kernel
theorem dX9_part_10 : decode cX9_part 10 = .ok (.bipush (-2), 2) := by decide +kernel
theorem dX9_part_12 : decode cX9_part 12 = .ok (.invokevirtual 73, 3) := by decide +kernel
theorem dX9_part_15 : decode cX9_part 15 = .ok (.ireturn, 1) := by decide +kernel
theorem dX9_part_16 : decode cX9_part 16 = .ok (.iload_n 1, 1) := by decide +kernel
theorem dX9_part_17 : decode cX9_part 17 = .ok (.ifCond .ne 10, 3) := by decide +kernel
theorem dX9_part_20 : decode cX9_part 20 = .ok (.aload_n 0, 1) := by decide +kernel
theorem dX9_part_21 : decode cX9_part 21 = .ok (.getfield 28, 3) := by decide +kernel
theorem dX9_part_24 : decode cX9_part 24 = .ok (.goto 7, 3) := by decide +kernel
theorem dX9_part_27 : decode cX9_part 27 = .ok (.aload_n 0, 1) := by decide +kernel
theorem dX9_part_28 : decode cX9_part 28 = .ok (.getfield 32, 3) := by decide +kernel
theorem dX9_part_31 : decode cX9_part 31 = .ok (.ireturn, 1) := by decide +kernel
theorem dX9_image_0 : decode cX9_image 0 = .ok (.iload_n 1, 1) := by decide +kernel
theorem dX9_image_1 : decode cX9_image 1 = .ok (.iconst 0, 1) := by decide +kernel
theorem dX9_image_2 : decode cX9_image 2 = .ok (.iconst 1, 1) := by decide +kernel
theorem dX9_image_3 : decode cX9_image 3 = .ok (.invokestatic 69, 3) := by decide +kernel
theorem dX9_image_6 : decode cX9_image 6 = .ok (.ifCond .ne 10, 3) := by decide +kernel
theorem dX9_image_9 : decode cX9_image 9 = .ok (.aload_n 0, 1) := by decide +kernel
theorem dX9_image_10 : decode cX9_image 10 = .ok (.bipush (-2), 2) := by decide +kernel
theorem dX9_image_12 : decode cX9_image 12 = .ok (.invokevirtual 73, 3) := by decide +kernel
theorem dX9_image_15 : decode cX9_image 15 = .ok (.ireturn, 1) := by decide +kernel
theorem dX9_image_16 : decode cX9_image 16 = .ok (.aload_n 0, 1) := by decide +kernel
theorem dX9_image_17 : decode cX9_image 17 = .ok (.getfield 16, 3) := by decide +kernel
theorem dX9_image_20 : decode cX9_image 20 = .ok (.iload_n 1, 1) := by decide +kernel
theorem dX9_image_21 : decode cX9_image 21 = .ok (.aaload, 1) := by decide +kernel
theorem dX9_image_22 : decode cX9_image 22 = .ok (.aload_n 0, 1) := by decide +kernel
theorem dX9_image_23 : decode cX9_image 23 = .ok (.getfield 12, 3) := by decide +kernel
theorem dX9_image_26 : decode cX9_image 26 = .ok (.invokevirtual 288, 3) := by decide +kernel
theorem dX9_image_29 : decode cX9_image 29 = .ok (.aload_n 0, 1) := by decide +kernel
theorem dX9_image_30 : decode cX9_image 30 = .ok (.getfield 20, 3) := by decide +kernel
theorem dX9_image_33 : decode cX9_image 33 = .ok (.iload_n 1, 1) := by decide +kernel
theorem dX9_image_34 : decode cX9_image 34 = .ok (.iconst 1, 1) := by decide +kernel
theorem dX9_image_35 : decode cX9_image 35 = .ok (.bastore, 1) := by decide +kernel
theorem dX9_image_36 : decode cX9_image 36 = .ok (.iconst 1, 1) := by decide +kernel
theorem dX9_image_37 : decode cX9_image 37 = .ok (.ireturn, 1) := by decide +kernel
theorem dX9_from_0 : decode cX9_from 0 = .ok (.iload_n 1, 1) := by decide +kernel
theorem dX9_from_1 : decode cX9_from 1 = .ok (.iconst 0, 1) := by decide +kernel
theorem dX9_from_2 : decode cX9_from 2 = .ok (.iconst 1, 1) := by decide +kernel
theorem dX9_from_3 : decode cX9_from 3 = .ok (.invokestatic 69, 3) := by decide +kernel
theorem dX9_from_6 : decode cX9_from 6 = .ok (.ifCond .ne 10, 3) := by decide +kernel
theorem dX9_from_9 : decode cX9_from 9 = .ok (.aload_n 0, 1) := by decide +kernel
theorem dX9_from_10 : decode cX9_from 10 = .ok (.bipush (-2), 2) := by decide +kernel
theorem dX9_from_12 : decode cX9_from 12 = .ok (.invokevirtual 73, 3) := by decide +kernel
theorem dX9_from_15 : decode cX9_from 15 = .ok (.ireturn, 1) := by decide +kernel
theorem dX9_from_16 : decode cX9_from 16 = .ok (.aload_n 0, 1) := by decide +kernel
theorem dX9_from_17 : decode cX9_from 17 = .ok (.getfield 20, 3) := by decide +kernel
theorem dX9_from_20 : decode cX9_from 20 = .ok (.iload_n 1, 1) := by decide +kernel
theorem dX9_from_21 : decode cX9_from 21 = .ok (.baload, 1) := by decide +kernel
theorem dX9_from_22 : decode cX9_from 22 = .ok (.ifCond .ne 10, 3) := by decide +kernel
theorem dX9_from_25 : decode cX9_from 25 = .ok (.aload_n 0, 1) := by decide +kernel
theorem dX9_from_26 : decode cX9_from 26 = .ok (.bipush (-3), 2) := by decide +kernel
theorem dX9_from_28 : decode cX9_from 28 = .ok (.invokevirtual 73, 3) := by decide +kernel
theorem dX9_from_31 : decode cX9_from 31 = .ok (.ireturn, 1) := by decide +kernel
theorem dX9_from_32 : decode cX9_from 32 = .ok (.aload_n 0, 1) := by decide +kernel
theorem dX9_from_33 : decode cX9_from 33 = .ok (.getfield 12, 3) := by decide +kernel
theorem dX9_from_36 : decode cX9_from 36 = .ok (.aload_n 0, 1) := by decide +kernel
theorem dX9_from_37 : decode cX9_from 37 = .ok (.getfield 16, 3) := by decide +kernel
theorem dX9_from_40 : decode cX9_from 40 = .ok (.iload_n 1, 1) := by decide +kernel
theorem dX9_from_41 : decode cX9_from 41 = .ok (.aaload, 1) := by decide +kernel
theorem dX9_from_42 : decode cX9_from 42 = .ok (.invokevirtual 288, 3) := by decide +kernel
theorem dX9_from_45 : decode cX9_from 45 = .ok (.iconst 1, 1) := by decide +kernel
theorem dX9_from_46 : decode cX9_from 46 = .ok (.ireturn, 1) := by decide +kernel
theorem dX9_status_0 : decode cX9_status 0 = .ok (.iload_n 1, 1) := by decide +kernel
theorem dX9_status_1 : decode cX9_status 1 = .ok (.iconst 0, 1) := by decide +kernel
theorem dX9_status_2 : decode cX9_status 2 = .ok (.aload_n 0, 1) := by decide +kernel
theorem dX9_status_3 : decode cX9_status 3 = .ok (.getfield 24, 3) := by decide +kernel
theorem dX9_status_6 : decode cX9_status 6 = .ok (.arraylength, 1) := by decide +kernel
theorem dX9_status_7 : decode cX9_status 7 = .ok (.iconst 1, 1) := by decide +kernel
theorem dX9_status_8 : decode cX9_status 8 = .ok (.isub, 1) := by decide +kernel
theorem dX9_status_9 : decode cX9_status 9 = .ok (.invokestatic 69, 3) := by decide +kernel
theorem dX9_status_12 : decode cX9_status 12 = .ok (.ifCond .ne 11, 3) := by decide +kernel
theorem dX9_status_15 : decode cX9_status 15 = .ok (.aload_n 0, 1) := by decide +kernel
theorem dX9_status_16 : decode cX9_status 16 = .ok (.bipush (-2), 2) := by decide +kernel
theorem dX9_status_18 : decode cX9_status 18 = .ok (.iconst (-1), 1) := by decide +kernel
theorem dX9_status_19 : decode cX9_status 19 = .ok (.invokevirtual 116, 3) := by decide +kernel
theorem dX9_status_22 : decode cX9_status 22 = .ok (.ireturn, 1) := by decide +kernel
theorem dX9_status_23 : decode cX9_status 23 = .ok (.aload_n 0, 1) := by decide +kernel
theorem dX9_status_24 : decode cX9_status 24 = .ok (.getfield 24, 3) := by decide +kernel
theorem dX9_status_27 : decode cX9_status 27 = .ok (.iload_n 1, 1) := by decide +kernel
theorem dX9_status_28 : decode cX9_status 28 = .ok (.iaload, 1) := by decide +kernel
theorem dX9_status_29 : decode cX9_status 29 = .ok (.ireturn, 1) := by decide +kernel
theorem dX9_count_0 : decode cX9_count 0 = .ok (.iload_n 1, 1) := by decide +kernel
theorem dX9_count_1 : decode cX9_count 1 = .ok (.iconst 0, 1) := by decide +kernel
theorem dX9_count_2 : decode cX9_count 2 = .ok (.bipush 9, 2) := by decide +kernel
theorem dX9_count_4 : decode cX9_count 4 = .ok (.invokestatic 69, 3) := by decide +kernel
theorem dX9_count_7 : decode cX9_count 7 = .ok (.ifCond .eq 14, 3) := by decide +kernel
theorem dX9_count_10 : decode cX9_count 10 = .ok (.aload_n 0, 1) := by decide +kernel
theorem dX9_count_11 : decode cX9_count 11 = .ok (.getfield 12, 3) := by decide +kernel
theorem dX9_count_14 : decode cX9_count 14 = .ok (.iload_n 1, 1) := by decide +kernel
theorem dX9_count_15 : decode cX9_count 15 = .ok (.invokevirtual 291, 3) := by decide +kernel
theorem dX9_count_18 : decode cX9_count 18 = .ok (.goto 9, 3) := by decide +kernel
theorem dX9_count_21 : decode cX9_count 21 = .ok (.aload_n 0, 1) := by decide +kernel
theorem dX9_count_22 : decode cX9_count 22 = .ok (.bipush (-2), 2) := by decide +kernel
theorem dX9_count_24 : decode cX9_count 24 = .ok (.invokevirtual 73, 3) := by decide +kernel
theorem dX9_count_27 : decode cX9_count 27 = .ok (.ireturn, 1) := by decide +kernel
theorem dX9_digest_0 : decode cX9_digest 0 = .ok (.aload_n 0, 1) := by decide +kernel
theorem dX9_digest_1 : decode cX9_digest 1 = .ok (.getfield 12, 3) := by decide +kernel
theorem dX9_digest_4 : decode cX9_digest 4 = .ok (.ldc2_w 294, 3) := by decide +kernel
theorem dX9_digest_7 : decode cX9_digest 7 = .ok (.invokevirtual 296, 3) := by decide +kernel
theorem dX9_digest_10 : decode cX9_digest 10 = .ok (.aload_n 0, 1) := by decide +kernel
theorem dX9_digest_11 : decode cX9_digest 11 = .ok (.getfield 28, 3) := by decide +kernel
theorem dX9_digest_14 : decode cX9_digest 14 = .ok (.i2l, 1) := by decide +kernel
theorem dX9_digest_15 : decode cX9_digest 15 = .ok (.invokestatic 300, 3) := by decide +kernel
theorem dX9_digest_18 : decode cX9_digest 18 = .ok (.aload_n 0, 1) := by decide +kernel
theorem dX9_digest_19 : decode cX9_digest 19 = .ok (.getfield 32, 3) := by decide +kernel
theorem dX9_digest_22 : decode cX9_digest 22 = .ok (.i2l, 1) := by decide +kernel
theorem dX9_digest_23 : decode cX9_digest 23 = .ok (.invokestatic 300, 3) := by decide +kernel
theorem dX9_digest_26 : decode cX9_digest 26 = .ok (.lreturn, 1) := by decide +kernel
theorem dX9_isIn_0 : decode cX9_isIn 0 = .ok (.iload_n 0, 1) := by decide +kernel
theorem dX9_isIn_1 : decode cX9_isIn 1 = .ok (.iload_n 1, 1) := by decide +kernel
theorem dX9_isIn_2 : decode cX9_isIn 2 = .ok (.if_icmp .lt 12, 3) := by decide +kernel
theorem dX9_isIn_5 : decode cX9_isIn 5 = .ok (.iload_n 0, 1) := by decide +kernel
theorem dX9_isIn_6 : decode cX9_isIn 6 = .ok (.iload_n 2, 1) := by decide +kernel
theorem dX9_isIn_7 : decode cX9_isIn 7 = .ok (.if_icmp .gt 7, 3) := by decide +kernel
theorem dX9_isIn_10 : decode cX9_isIn 10 = .ok (.iconst 1, 1) := by decide +kernel
theorem dX9_isIn_11 : decode cX9_isIn 11 = .ok (.goto 4, 3) := by decide +kernel
theorem dX9_isIn_14 : decode cX9_isIn 14 = .ok (.iconst 0, 1) := by decide +kernel
theorem dX9_isIn_15 : decode cX9_isIn 15 = .ok (.ireturn, 1) := by decide +kernel
theorem dX9_isKind_0 : decode cX9_isKind 0 = .ok (.iload_n 0, 1) := by decide +kernel
theorem dX9_isKind_1 : decode cX9_isKind 1 = .ok (.iconst 0, 1) := by decide +kernel
theorem dX9_isKind_2 : decode cX9_isKind 2 = .ok (.iconst 5, 1) := by decide +kernel
theorem dX9_isKind_3 : decode cX9_isKind 3 = .ok (.invokestatic 69, 3) := by decide +kernel
theorem dX9_isKind_6 : decode cX9_isKind 6 = .ok (.ireturn, 1) := by decide +kernel
theorem dX9_isPlace_0 : decode cX9_isPlace 0 = .ok (.iload_n 1, 1) := by decide +kernel
theorem dX9_isPlace_1 : decode cX9_isPlace 1 = .ok (.iconst 0, 1) := by decide +kernel
theorem dX9_isPlace_2 : decode cX9_isPlace 2 = .ok (.aload_n 0, 1) := by decide +kernel
theorem dX9_isPlace_3 : decode cX9_isPlace 3 = .ok (.getfield 12, 3) := by decide +kernel
theorem dX9_isPlace_6 : decode cX9_isPlace 6 = .ok (.getfield 107, 3) := by decide +kernel
theorem dX9_isPlace_9 : decode cX9_isPlace 9 = .ok (.getfield 110, 3) := by decide +kernel
theorem dX9_isPlace_12 : decode cX9_isPlace 12 = .ok (.iconst 1, 1) := by decide +kernel
theorem dX9_isPlace_13 : decode cX9_isPlace 13 = .ok (.isub, 1) := by decide +kernel
theorem dX9_isPlace_14 : decode cX9_isPlace 14 = .ok (.invokestatic 69, 3) := by decide +kernel
theorem dX9_isPlace_17 : decode cX9_isPlace 17 = .ok (.ireturn, 1) := by decide +kernel
theorem dX9_isState_0 : decode cX9_isState 0 = .ok (.iload_n 1, 1) := by decide +kernel
theorem dX9_isState_1 : decode cX9_isState 1 = .ok (.iconst 0, 1) := by decide +kernel
theorem dX9_isState_2 : decode cX9_isState 2 = .ok (.aload_n 0, 1) := by decide +kernel
theorem dX9_isState_3 : decode cX9_isState 3 = .ok (.getfield 38, 3) := by decide +kernel
theorem dX9_isState_6 : decode cX9_isState 6 = .ok (.getfield 168, 3) := by decide +kernel
theorem dX9_isState_9 : decode cX9_isState 9 = .ok (.invokestatic 69, 3) := by decide +kernel
theorem dX9_isState_12 : decode cX9_isState 12 = .ok (.ireturn, 1) := by decide +kernel
theorem dX9_refuse_0 : decode cX9_refuse 0 = .ok (.aload_n 0, 1) := by decide +kernel
theorem dX9_refuse_1 : decode cX9_refuse 1 = .ok (.iload_n 1, 1) := by decide +kernel
theorem dX9_refuse_2 : decode cX9_refuse 2 = .ok (.iload_n 1, 1) := by decide +kernel
theorem dX9_refuse_3 : decode cX9_refuse 3 = .ok (.invokevirtual 116, 3) := by decide +kernel
theorem dX9_refuse_6 : decode cX9_refuse 6 = .ok (.ireturn, 1) := by decide +kernel
theorem dX9_refuse__0 : decode cX9_refuse_ 0 = .ok (.aload_n 0, 1) := by decide +kernel
theorem dX9_refuse__1 : decode cX9_refuse_ 1 = .ok (.getfield 24, 3) := by decide +kernel
theorem dX9_refuse__4 : decode cX9_refuse_ 4 = .ok (.iload_n 1, 1) := by decide +kernel
theorem dX9_refuse__5 : decode cX9_refuse_ 5 = .ok (.bipush (-2), 2) := by decide +kernel
theorem dX9_refuse__7 : decode cX9_refuse_ 7 = .ok (.if_icmp .ne 7, 3) := by decide +kernel
theorem dX9_refuse__10 : decode cX9_refuse_ 10 = .ok (.iconst 0, 1) := by decide +kernel
theorem dX9_refuse__11 : decode cX9_refuse_ 11 = .ok (.goto 14, 3) := by decide +kernel
theorem dX9_refuse__14 : decode cX9_refuse_ 14 = .ok (.iload_n 1, 1) := by decide +kernel
theorem dX9_refuse__15 : decode cX9_refuse_ 15 = .ok (.bipush (-3), 2) := by decide +kernel
theorem dX9_refuse__17 : decode cX9_refuse_ 17 = .ok (.if_icmp .ne 7, 3) := by decide +kernel
theorem dX9_refuse__20 : decode cX9_refuse_ 20 = .ok (.iconst 1, 1) := by decide +kernel
theorem dX9_refuse__21 : decode cX9_refuse_ 21 = .ok (.goto 4, 3) := by decide +kernel
theorem dX9_refuse__24 : decode cX9_refuse_ 24 = .ok (.iconst 2, 1) := by decide +kernel
theorem dX9_refuse__25 : decode cX9_refuse_ 25 = .ok (.dup2, 1) := by decide +kernel
theorem dX9_refuse__26 : decode cX9_refuse_ 26 = .ok (.iaload, 1) := by decide +kernel
theorem dX9_refuse__27 : decode cX9_refuse_ 27 = .ok (.iconst 1, 1) := by decide +kernel
theorem dX9_refuse__28 : decode cX9_refuse_ 28 = .ok (.iadd, 1) := by decide +kernel
theorem dX9_refuse__29 : decode cX9_refuse_ 29 = .ok (.iastore, 1) := by decide +kernel
theorem dX9_refuse__30 : decode cX9_refuse_ 30 = .ok (.iload_n 2, 1) := by decide +kernel
theorem dX9_refuse__31 : decode cX9_refuse_ 31 = .ok (.ireturn, 1) := by decide +kernel
theorem dX9_mix_0 : decode cX9_mix 0 = .ok (.ldc2_w 304, 3) := by decide +kernel
theorem dX9_mix_3 : decode cX9_mix 3 = .ok (.lload_n 0, 1) := by decide +kernel
theorem dX9_mix_4 : decode cX9_mix 4 = .ok (.lmul, 1) := by decide +kernel
theorem dX9_mix_5 : decode cX9_mix 5 = .ok (.lload_n 2, 1) := by decide +kernel
theorem dX9_mix_6 : decode cX9_mix 6 = .ok (.ladd, 1) := by decide +kernel
theorem dX9_mix_7 : decode cX9_mix 7 = .ok (.lreturn, 1) := by decide +kernel
theorem dX9_mixRow_0 : decode cX9_mixRow 0 = .ok (.lload_n 0, 1) := by decide +kernel
theorem dX9_mixRow_1 : decode cX9_mixRow 1 = .ok (.lstore 4, 2) := by decide +kernel
theorem dX9_mixRow_3 : decode cX9_mixRow 3 = .ok (.iconst 0, 1) := by decide +kernel
theorem dX9_mixRow_4 : decode cX9_mixRow 4 = .ok (.istore 6, 2) := by decide +kernel
theorem dX9_mixRow_6 : decode cX9_mixRow 6 = .ok (.iload 6, 2) := by decide +kernel
theorem dX9_mixRow_8 : decode cX9_mixRow 8 = .ok (.iload_n 3, 1) := by decide +kernel
theorem dX9_mixRow_9 : decode cX9_mixRow 9 = .ok (.if_icmp .ge 28, 3) := by decide +kernel
theorem dX9_mixRow_12 : decode cX9_mixRow 12 = .ok (.iload 6, 2) := by decide +kernel
theorem dX9_mixRow_14 : decode cX9_mixRow 14 = .ok (.aload_n 2, 1) := by decide +kernel
theorem dX9_mixRow_15 : decode cX9_mixRow 15 = .ok (.arraylength, 1) := by decide +kernel
theorem dX9_mixRow_16 : decode cX9_mixRow 16 = .ok (.if_icmp .ge 21, 3) := by decide +kernel
theorem dX9_mixRow_19 : decode cX9_mixRow 19 = .ok (.lload 4, 2) := by decide +kernel
theorem dX9_mixRow_21 : decode cX9_mixRow 21 = .ok (.aload_n 2, 1) := by decide +kernel
theorem dX9_mixRow_22 : decode cX9_mixRow 22 = .ok (.iload 6, 2) := by decide +kernel
theorem dX9_mixRow_24 : decode cX9_mixRow 24 = .ok (.iaload, 1) := by decide +kernel
theorem dX9_mixRow_25 : decode cX9_mixRow 25 = .ok (.i2l, 1) := by decide +kernel
theorem dX9_mixRow_26 : decode cX9_mixRow 26 = .ok (.invokestatic 300, 3) := by decide +kernel
theorem dX9_mixRow_29 : decode cX9_mixRow 29 = .ok (.lstore 4, 2) := by decide +kernel
theorem dX9_mixRow_31 : decode cX9_mixRow 31 = .ok (.iinc 6 1, 3) := by decide +kernel
theorem dX9_mixRow_34 : decode cX9_mixRow 34 = .ok (.goto (-28), 3) := by decide +kernel
theorem dX9_mixRow_37 : decode cX9_mixRow 37 = .ok (.lload 4, 2) := by decide +kernel
theorem dX9_mixRow_39 : decode cX9_mixRow 39 = .ok (.lreturn, 1) := by decide +kernel
theorem dX9_keepFraction_0 : decode cX9_keepFraction 0 = .ok (.iload_n 1, 1) := by decide +kernel
theorem dX9_keepFraction_1 : decode cX9_keepFraction 1 = .ok (.iload_n 2, 1) := by decide +kernel
theorem dX9_keepFraction_2 : decode cX9_keepFraction 2 = .ok (.invokestatic 306, 3) := by decide +kernel
theorem dX9_keepFraction_5 : decode cX9_keepFraction 5 = .ok (.istore_n 3, 1) := by decide +kernel
theorem dX9_keepFraction_6 : decode cX9_keepFraction 6 = .ok (.iload_n 3, 1) := by decide +kernel
theorem dX9_keepFraction_7 : decode cX9_keepFraction 7 = .ok (.ifCond .le 17, 3) := by decide +kernel
theorem dX9_keepFraction_10 : decode cX9_keepFraction 10 = .ok (.aload_n 0, 1) := by decide +kernel
theorem dX9_keepFraction_11 : decode cX9_keepFraction 11 = .ok (.iload_n 1, 1) := by decide +kernel
theorem dX9_keepFraction_12 : decode cX9_keepFraction 12 = .ok (.iload_n 3, 1) := by decide +kernel
theorem dX9_keepFraction_13 : decode cX9_keepFraction 13 = .ok (.idiv, 1) := by decide +kernel
theorem dX9_keepFraction_14 : decode cX9_keepFraction 14 = .ok (.putfield 28, 3) := by decide +kernel
theorem dX9_keepFraction_17 : decode cX9_keepFraction 17 = .ok (.aload_n 0, 1) := by decide +kernel
theorem dX9_keepFraction_18 : decode cX9_keepFraction 18 = .ok (.iload_n 2, 1) := by decide +kernel
theorem dX9_keepFraction_19 : decode cX9_keepFraction 19 = .ok (.iload_n 3, 1) := by decide +kernel
theorem dX9_keepFraction_20 : decode cX9_keepFraction 20 = .ok (.idiv, 1) := by decide +kernel
theorem dX9_keepFraction_21 : decode cX9_keepFraction 21 = .ok (.putfield 32, 3) := by decide +kernel
theorem dX9_keepFraction_24 : decode cX9_keepFraction 24 = .ok (.return_, 1) := by decide +kernel
theorem dX9_greatestDivisor_0 : decode cX9_greatestDivisor 0 = .ok (.iload_n 0, 1) := by decide +kernel
theorem dX9_greatestDivisor_1 : decode cX9_greatestDivisor 1 = .ok (.istore_n 2, 1) := by decide +kernel
theorem dX9_greatestDivisor_2 : decode cX9_greatestDivisor 2 = .ok (.iload_n 1, 1) := by decide +kernel
theorem dX9_greatestDivisor_3 : decode cX9_greatestDivisor 3 = .ok (.istore_n 3, 1) := by decide +kernel
theorem dX9_greatestDivisor_4 : decode cX9_greatestDivisor 4 = .ok (.iconst 0, 1) := by decide +kernel
theorem dX9_greatestDivisor_5 : decode cX9_greatestDivisor 5 = .ok (.istore 4, 2) := by decide +kernel
theorem dX9_greatestDivisor_7 : decode cX9_greatestDivisor 7 = .ok (.iload 4, 2) := by decide +kernel
theorem dX9_greatestDivisor_9 : decode cX9_greatestDivisor 9 = .ok (.bipush 100, 2) := by decide +kernel
theorem dX9_greatestDivisor_11 : decode cX9_greatestDivisor 11 = .ok (.if_icmp .ge 23, 3) := by decide +kernel
theorem dX9_greatestDivisor_14 : decode cX9_greatestDivisor 14 = .ok (.iload_n 3, 1) := by decide +kernel
theorem dX9_greatestDivisor_15 : decode cX9_greatestDivisor 15 = .ok (.ifCond .eq 19, 3) := by decide +kernel
theorem dX9_greatestDivisor_18 : decode cX9_greatestDivisor 18 = .ok (.iload_n 2, 1) := by decide +kernel
theorem dX9_greatestDivisor_19 : decode cX9_greatestDivisor 19 = .ok (.iload_n 3, 1) := by decide +kernel
theorem dX9_greatestDivisor_20 : decode cX9_greatestDivisor 20 = .ok (.irem, 1) := by decide +kernel
theorem dX9_greatestDivisor_21 : decode cX9_greatestDivisor 21 = .ok (.istore 5, 2) := by decide +kernel
theorem dX9_greatestDivisor_23 : decode cX9_greatestDivisor 23 = .ok (.iload_n 3, 1) := by decide +kernel
theorem dX9_greatestDivisor_24 : decode cX9_greatestDivisor 24 = .ok (.istore_n 2, 1) := by decide +kernel
theorem dX9_greatestDivisor_25 : decode cX9_greatestDivisor 25 = .ok (.iload 5, 2) := by decide +kernel
theorem dX9_greatestDivisor_27 : decode cX9_greatestDivisor 27 = .ok (.istore_n 3, 1) := by decide +kernel
theorem dX9_greatestDivisor_28 : decode cX9_greatestDivisor 28 = .ok (.iinc 4 1, 3) := by decide +kernel
theorem dX9_greatestDivisor_31 : decode cX9_greatestDivisor 31 = .ok (.goto (-24), 3) := by decide +kernel
theorem dX9_greatestDivisor_34 : decode cX9_greatestDivisor 34 = .ok (.iload_n 2, 1) := by decide +kernel
theorem dX9_greatestDivisor_35 : decode cX9_greatestDivisor 35 = .ok (.ireturn, 1) := by decide +kernel
theorem dX9_goesPath_0 : decode cX9_goesPath 0 = .ok (.aload_n 0, 1) := by decide +kernel
theorem dX9_goesPath_1 : decode cX9_goesPath 1 = .ok (.getfield 38, 3) := by decide +kernel
theorem dX9_goesPath_4 : decode cX9_goesPath 4 = .ok (.aload_n 0, 1) := by decide +kernel
theorem dX9_goesPath_5 : decode cX9_goesPath 5 = .ok (.getfield 12, 3) := by decide +kernel
theorem dX9_goesPath_8 : decode cX9_goesPath 8 = .ok (.getfield 144, 3) := by decide +kernel
theorem dX9_goesPath_11 : decode cX9_goesPath 11 = .ok (.aload_n 0, 1) := by decide +kernel
theorem dX9_goesPath_12 : decode cX9_goesPath 12 = .ok (.getfield 12, 3) := by decide +kernel
theorem dX9_goesPath_15 : decode cX9_goesPath 15 = .ok (.getfield 77, 3) := by decide +kernel
theorem dX9_goesPath_18 : decode cX9_goesPath 18 = .ok (.invokevirtual 157, 3) := by decide +kernel
theorem dX9_goesPath_21 : decode cX9_goesPath 21 = .ok (.aload_n 0, 1) := by decide +kernel
theorem dX9_goesPath_22 : decode cX9_goesPath 22 = .ok (.getfield 38, 3) := by decide +kernel
theorem dX9_goesPath_25 : decode cX9_goesPath 25 = .ok (.invokevirtual 164, 3) := by decide +kernel
theorem dX9_goesPath_28 : decode cX9_goesPath 28 = .ok (.ifCond .eq 20, 3) := by decide +kernel
theorem dX9_goesPath_31 : decode cX9_goesPath 31 = .ok (.aload_n 0, 1) := by decide +kernel
theorem dX9_goesPath_32 : decode cX9_goesPath 32 = .ok (.getfield 12, 3) := by decide +kernel
theorem dX9_goesPath_35 : decode cX9_goesPath 35 = .ok (.getfield 107, 3) := by decide +kernel
theorem dX9_goesPath_38 : decode cX9_goesPath 38 = .ok (.getfield 110, 3) := by decide +kernel
theorem dX9_goesPath_41 : decode cX9_goesPath 41 = .ok (.ifCond .le 7, 3) := by decide +kernel
theorem dX9_goesPath_44 : decode cX9_goesPath 44 = .ok (.iconst 1, 1) := by decide +kernel
theorem dX9_goesPath_45 : decode cX9_goesPath 45 = .ok (.goto 4, 3) := by decide +kernel
theorem dX9_goesPath_48 : decode cX9_goesPath 48 = .ok (.iconst 0, 1) := by decide +kernel
theorem dX9_goesPath_49 : decode cX9_goesPath 49 = .ok (.ireturn, 1) := by decide +kernel
theorem dX9_goTo_0 : decode cX9_goTo 0 = .ok (.aload_n 1, 1) := by decide +kernel
theorem dX9_goTo_1 : decode cX9_goTo 1 = .ok (.aload_n 0, 1) := by decide +kernel
theorem dX9_goTo_2 : decode cX9_goTo 2 = .ok (.getfield 12, 3) := by decide +kernel
theorem dX9_goTo_5 : decode cX9_goTo 5 = .ok (.getfield 107, 3) := by decide +kernel
theorem dX9_goTo_8 : decode cX9_goTo 8 = .ok (.invokevirtual 181, 3) := by decide +kernel
theorem dX9_goTo_11 : decode cX9_goTo 11 = .ok (.iconst 1, 1) := by decide +kernel
theorem dX9_goTo_12 : decode cX9_goTo 12 = .ok (.istore_n 3, 1) := by decide +kernel
theorem dX9_goTo_13 : decode cX9_goTo 13 = .ok (.iload_n 3, 1) := by decide +kernel
theorem dX9_goTo_14 : decode cX9_goTo 14 = .ok (.iload_n 2, 1) := by decide +kernel
theorem dX9_goTo_15 : decode cX9_goTo 15 = .ok (.if_icmp .gt 32, 3) := by decide +kernel
theorem dX9_goTo_18 : decode cX9_goTo 18 = .ok (.iload_n 3, 1) := by decide +kernel
theorem dX9_goTo_19 : decode cX9_goTo 19 = .ok (.sipush 200, 3) := by decide +kernel
theorem dX9_goTo_22 : decode cX9_goTo 22 = .ok (.if_icmp .gt 25, 3) := by decide +kernel
theorem dX9_goTo_25 : decode cX9_goTo 25 = .ok (.aload_n 0, 1) := by decide +kernel
theorem dX9_goTo_26 : decode cX9_goTo 26 = .ok (.getfield 38, 3) := by decide +kernel
theorem dX9_goTo_29 : decode cX9_goTo 29 = .ok (.aload_n 1, 1) := by decide +kernel
theorem dX9_goTo_30 : decode cX9_goTo 30 = .ok (.iload_n 3, 1) := by decide +kernel
theorem dX9_goTo_31 : decode cX9_goTo 31 = .ok (.aload_n 0, 1) := by decide +kernel
theorem dX9_goTo_32 : decode cX9_goTo 32 = .ok (.getfield 12, 3) := by decide +kernel
theorem dX9_goTo_35 : decode cX9_goTo 35 = .ok (.getfield 77, 3) := by decide +kernel
theorem dX9_goTo_38 : decode cX9_goTo 38 = .ok (.invokevirtual 185, 3) := by decide +kernel
theorem dX9_goTo_41 : decode cX9_goTo 41 = .ok (.iinc 3 1, 3) := by decide +kernel
theorem dX9_goTo_44 : decode cX9_goTo 44 = .ok (.goto (-31), 3) := by decide +kernel
theorem dX9_goTo_47 : decode cX9_goTo 47 = .ok (.return_, 1) := by decide +kernel
theorem dX9_leastUnlike_0 : decode cX9_leastUnlike 0 = .ok (.sipush 1000, 3) := by decide +kernel
theorem dX9_leastUnlike_3 : decode cX9_leastUnlike 3 = .ok (.istore 4, 2) := by decide +kernel
theorem dX9_leastUnlike_5 : decode cX9_leastUnlike 5 = .ok (.aload_n 0, 1) := by decide +kernel
theorem dX9_leastUnlike_6 : decode cX9_leastUnlike 6 = .ok (.getfield 45, 3) := by decide +kernel
theorem dX9_leastUnlike_9 : decode cX9_leastUnlike 9 = .ok (.aload_n 0, 1) := by decide +kernel
theorem dX9_leastUnlike_10 : decode cX9_leastUnlike 10 = .ok (.getfield 12, 3) := by decide +kernel
theorem dX9_leastUnlike_13 : decode cX9_leastUnlike 13 = .ok (.iload_n 1, 1) := by decide +kernel
theorem dX9_leastUnlike_14 : decode cX9_leastUnlike 14 = .ok (.iload_n 3, 1) := by decide +kernel
theorem dX9_leastUnlike_15 : decode cX9_leastUnlike 15 = .ok (.invokevirtual 309, 3) := by decide +kernel
theorem dX9_leastUnlike_18 : decode cX9_leastUnlike 18 = .ok (.istore 5, 2) := by decide +kernel
theorem dX9_leastUnlike_20 : decode cX9_leastUnlike 20 = .ok (.iconst 0, 1) := by decide +kernel
theorem dX9_leastUnlike_21 : decode cX9_leastUnlike 21 = .ok (.istore 6, 2) := by decide +kernel
theorem dX9_leastUnlike_23 : decode cX9_leastUnlike 23 = .ok (.iload 5, 2) := by decide +kernel
theorem dX9_leastUnlike_25 : decode cX9_leastUnlike 25 = .ok (.ifCond .eq 99, 3) := by decide +kernel
theorem dX9_leastUnlike_28 : decode cX9_leastUnlike 28 = .ok (.iload 6, 2) := by decide +kernel
theorem dX9_leastUnlike_30 : decode cX9_leastUnlike 30 = .ok (.sipush 10000, 3) := by decide +kernel
theorem dX9_leastUnlike_33 : decode cX9_leastUnlike 33 = .ok (.if_icmp .ge 91, 3) := by decide +kernel
theorem dX9_leastUnlike_36 : decode cX9_leastUnlike 36 = .ok (.aload_n 0, 1) := by decide +kernel
theorem dX9_leastUnlike_37 : decode cX9_leastUnlike 37 = .ok (.getfield 62, 3) := by decide +kernel
theorem dX9_leastUnlike_40 : decode cX9_leastUnlike 40 = .ok (.aload_n 0, 1) := by decide +kernel
theorem dX9_leastUnlike_41 : decode cX9_leastUnlike 41 = .ok (.getfield 45, 3) := by decide +kernel
theorem dX9_leastUnlike_44 : decode cX9_leastUnlike 44 = .ok (.getfield 313, 3) := by decide +kernel
theorem dX9_leastUnlike_47 : decode cX9_leastUnlike 47 = .ok (.iload_n 3, 1) := by decide +kernel
theorem dX9_leastUnlike_48 : decode cX9_leastUnlike 48 = .ok (.aaload, 1) := by decide +kernel
theorem dX9_leastUnlike_49 : decode cX9_leastUnlike 49 = .ok (.invokevirtual 181, 3) := by decide +kernel
theorem dX9_leastUnlike_52 : decode cX9_leastUnlike 52 = .ok (.aload_n 0, 1) := by decide +kernel
theorem dX9_leastUnlike_53 : decode cX9_leastUnlike 53 = .ok (.getfield 12, 3) := by decide +kernel
theorem dX9_leastUnlike_56 : decode cX9_leastUnlike 56 = .ok (.getfield 77, 3) := by decide +kernel
theorem dX9_leastUnlike_59 : decode cX9_leastUnlike 59 = .ok (.aload_n 0, 1) := by decide +kernel
theorem dX9_leastUnlike_60 : decode cX9_leastUnlike 60 = .ok (.getfield 62, 3) := by decide +kernel
theorem dX9_leastUnlike_63 : decode cX9_leastUnlike 63 = .ok (.iload_n 1, 1) := by decide +kernel
theorem dX9_leastUnlike_64 : decode cX9_leastUnlike 64 = .ok (.iload_n 2, 1) := by decide +kernel
theorem dX9_leastUnlike_65 : decode cX9_leastUnlike 65 = .ok (.invokevirtual 317, 3) := by decide +kernel
theorem dX9_leastUnlike_68 : decode cX9_leastUnlike 68 = .ok (.aload_n 0, 1) := by decide +kernel
theorem dX9_leastUnlike_69 : decode cX9_leastUnlike 69 = .ok (.getfield 62, 3) := by decide +kernel
theorem dX9_leastUnlike_72 : decode cX9_leastUnlike 72 = .ok (.aload_n 0, 1) := by decide +kernel
theorem dX9_leastUnlike_73 : decode cX9_leastUnlike 73 = .ok (.getfield 12, 3) := by decide +kernel
theorem dX9_leastUnlike_76 : decode cX9_leastUnlike 76 = .ok (.getfield 107, 3) := by decide +kernel
theorem dX9_leastUnlike_79 : decode cX9_leastUnlike 79 = .ok (.invokevirtual 196, 3) := by decide +kernel
theorem dX9_leastUnlike_82 : decode cX9_leastUnlike 82 = .ok (.istore 7, 2) := by decide +kernel
theorem dX9_leastUnlike_84 : decode cX9_leastUnlike 84 = .ok (.iload 7, 2) := by decide +kernel
theorem dX9_leastUnlike_86 : decode cX9_leastUnlike 86 = .ok (.iload 4, 2) := by decide +kernel
theorem dX9_leastUnlike_88 : decode cX9_leastUnlike 88 = .ok (.if_icmp .ge 14, 3) := by decide +kernel
theorem dX9_leastUnlike_91 : decode cX9_leastUnlike 91 = .ok (.iload 7, 2) := by decide +kernel
theorem dX9_leastUnlike_93 : decode cX9_leastUnlike 93 = .ok (.istore 4, 2) := by decide +kernel
theorem dX9_leastUnlike_95 : decode cX9_leastUnlike 95 = .ok (.aload_n 0, 1) := by decide +kernel
theorem dX9_leastUnlike_96 : decode cX9_leastUnlike 96 = .ok (.getfield 45, 3) := by decide +kernel
theorem dX9_leastUnlike_99 : decode cX9_leastUnlike 99 = .ok (.invokevirtual 321, 3) := by decide +kernel
theorem dX9_leastUnlike_102 : decode cX9_leastUnlike 102 = .ok (.aload_n 0, 1) := by decide +kernel
theorem dX9_leastUnlike_103 : decode cX9_leastUnlike 103 = .ok (.getfield 45, 3) := by decide +kernel
theorem dX9_leastUnlike_106 : decode cX9_leastUnlike 106 = .ok (.aload_n 0, 1) := by decide +kernel
theorem dX9_leastUnlike_107 : decode cX9_leastUnlike 107 = .ok (.getfield 12, 3) := by decide +kernel
theorem dX9_leastUnlike_110 : decode cX9_leastUnlike 110 = .ok (.getfield 77, 3) := by decide +kernel
theorem dX9_leastUnlike_113 : decode cX9_leastUnlike 113 = .ok (.invokevirtual 324, 3) := by decide +kernel
theorem dX9_leastUnlike_116 : decode cX9_leastUnlike 116 = .ok (.istore 5, 2) := by decide +kernel
theorem dX9_leastUnlike_118 : decode cX9_leastUnlike 118 = .ok (.iinc 6 1, 3) := by decide +kernel
theorem dX9_leastUnlike_121 : decode cX9_leastUnlike 121 = .ok (.goto (-98), 3) := by decide +kernel
theorem dX9_leastUnlike_124 : decode cX9_leastUnlike 124 = .ok (.iload 4, 2) := by decide +kernel
theorem dX9_leastUnlike_126 : decode cX9_leastUnlike 126 = .ok (.ireturn, 1) := by decide +kernel
theorem dX9_countRowsToEnd_0 : decode cX9_countRowsToEnd 0 = .ok (.iconst 0, 1) := by decide +kernel
theorem dX9_countRowsToEnd_1 : decode cX9_countRowsToEnd 1 = .ok (.istore_n 3, 1) := by decide +kernel
theorem dX9_countRowsToEnd_2 : decode cX9_countRowsToEnd 2 = .ok (.aload_n 0, 1) := by decide +kernel
theorem dX9_countRowsToEnd_3 : decode cX9_countRowsToEnd 3 = .ok (.getfield 49, 3) := by decide +kernel
theorem dX9_countRowsToEnd_6 : decode cX9_countRowsToEnd 6 = .ok (.iconst 0, 1) := by decide +kernel
theorem dX9_countRowsToEnd_7 : decode cX9_countRowsToEnd 7 = .ok (.invokestatic 328, 3) := by decide +kernel
theorem dX9_countRowsToEnd_10 : decode cX9_countRowsToEnd 10 = .ok (.aload_n 0, 1) := by decide +kernel
theorem dX9_countRowsToEnd_11 : decode cX9_countRowsToEnd 11 = .ok (.getfield 45, 3) := by decide +kernel
theorem dX9_countRowsToEnd_14 : decode cX9_countRowsToEnd 14 = .ok (.aload_n 0, 1) := by decide +kernel
theorem dX9_countRowsToEnd_15 : decode cX9_countRowsToEnd 15 = .ok (.getfield 12, 3) := by decide +kernel
theorem dX9_countRowsToEnd_18 : decode cX9_countRowsToEnd 18 = .ok (.iload_n 1, 1) := by decide +kernel
theorem dX9_countRowsToEnd_19 : decode cX9_countRowsToEnd 19 = .ok (.iload_n 2, 1) := by decide +kernel
theorem dX9_countRowsToEnd_20 : decode cX9_countRowsToEnd 20 = .ok (.invokevirtual 309, 3) := by decide +kernel
theorem dX9_countRowsToEnd_23 : decode cX9_countRowsToEnd 23 = .ok (.istore 4, 2) := by decide +kernel
theorem dX9_countRowsToEnd_25 : decode cX9_countRowsToEnd 25 = .ok (.iconst 0, 1) := by decide +kernel
theorem dX9_countRowsToEnd_26 : decode cX9_countRowsToEnd 26 = .ok (.istore 5, 2) := by decide +kernel
theorem dX9_countRowsToEnd_28 : decode cX9_countRowsToEnd 28 = .ok (.iload 4, 2) := by decide +kernel
theorem dX9_countRowsToEnd_30 : decode cX9_countRowsToEnd 30 = .ok (.ifCond .eq 76, 3) := by decide +kernel
theorem dX9_countRowsToEnd_33 : decode cX9_countRowsToEnd 33 = .ok (.iload 5, 2) := by decide +kernel
theorem dX9_countRowsToEnd_35 : decode cX9_countRowsToEnd 35 = .ok (.sipush 10000, 3) := by decide +kernel
theorem dX9_countRowsToEnd_38 : decode cX9_countRowsToEnd 38 = .ok (.if_icmp .ge 68, 3) := by decide +kernel
theorem dX9_countRowsToEnd_41 : decode cX9_countRowsToEnd 41 = .ok (.aload_n 0, 1) := by decide +kernel
theorem dX9_countRowsToEnd_42 : decode cX9_countRowsToEnd 42 = .ok (.getfield 12, 3) := by decide +kernel
theorem dX9_countRowsToEnd_45 : decode cX9_countRowsToEnd 45 = .ok (.getfield 233, 3) := by decide +kernel
theorem dX9_countRowsToEnd_48 : decode cX9_countRowsToEnd 48 = .ok (.aload_n 0, 1) := by decide +kernel
theorem dX9_countRowsToEnd_49 : decode cX9_countRowsToEnd 49 = .ok (.getfield 45, 3) := by decide +kernel
theorem dX9_countRowsToEnd_52 : decode cX9_countRowsToEnd 52 = .ok (.getfield 313, 3) := by decide +kernel
theorem dX9_countRowsToEnd_55 : decode cX9_countRowsToEnd 55 = .ok (.iload_n 2, 1) := by decide +kernel
theorem dX9_countRowsToEnd_56 : decode cX9_countRowsToEnd 56 = .ok (.aaload, 1) := by decide +kernel
theorem dX9_countRowsToEnd_57 : decode cX9_countRowsToEnd 57 = .ok (.invokevirtual 334, 3) := by decide +kernel
theorem dX9_countRowsToEnd_60 : decode cX9_countRowsToEnd 60 = .ok (.ifCond .eq 24, 3) := by decide +kernel
theorem dX9_countRowsToEnd_63 : decode cX9_countRowsToEnd 63 = .ok (.iinc 3 1, 3) := by decide +kernel
theorem dX9_countRowsToEnd_66 : decode cX9_countRowsToEnd 66 = .ok (.aload_n 0, 1) := by decide +kernel
theorem dX9_countRowsToEnd_67 : decode cX9_countRowsToEnd 67 = .ok (.getfield 49, 3) := by decide +kernel
theorem dX9_countRowsToEnd_70 : decode cX9_countRowsToEnd 70 = .ok (.aload_n 0, 1) := by decide +kernel
theorem dX9_countRowsToEnd_71 : decode cX9_countRowsToEnd 71 = .ok (.getfield 45, 3) := by decide +kernel
theorem dX9_countRowsToEnd_74 : decode cX9_countRowsToEnd 74 = .ok (.getfield 338, 3) := by decide +kernel
theorem dX9_countRowsToEnd_77 : decode cX9_countRowsToEnd 77 = .ok (.iconst 0, 1) := by decide +kernel
theorem dX9_countRowsToEnd_78 : decode cX9_countRowsToEnd 78 = .ok (.iaload, 1) := by decide +kernel
theorem dX9_countRowsToEnd_79 : decode cX9_countRowsToEnd 79 = .ok (.dup2, 1) := by decide +kernel
theorem dX9_countRowsToEnd_80 : decode cX9_countRowsToEnd 80 = .ok (.iaload, 1) := by decide +kernel
theorem dX9_countRowsToEnd_81 : decode cX9_countRowsToEnd 81 = .ok (.iconst 1, 1) := by decide +kernel
theorem dX9_countRowsToEnd_82 : decode cX9_countRowsToEnd 82 = .ok (.iadd, 1) := by decide +kernel
theorem dX9_countRowsToEnd_83 : decode cX9_countRowsToEnd 83 = .ok (.iastore, 1) := by decide +kernel
theorem dX9_countRowsToEnd_84 : decode cX9_countRowsToEnd 84 = .ok (.aload_n 0, 1) := by decide +kernel
theorem dX9_countRowsToEnd_85 : decode cX9_countRowsToEnd 85 = .ok (.getfield 45, 3) := by decide +kernel
theorem dX9_countRowsToEnd_88 : decode cX9_countRowsToEnd 88 = .ok (.aload_n 0, 1) := by decide +kernel
theorem dX9_countRowsToEnd_89 : decode cX9_countRowsToEnd 89 = .ok (.getfield 12, 3) := by decide +kernel
theorem dX9_countRowsToEnd_92 : decode cX9_countRowsToEnd 92 = .ok (.getfield 77, 3) := by decide +kernel
theorem dX9_countRowsToEnd_95 : decode cX9_countRowsToEnd 95 = .ok (.invokevirtual 324, 3) := by decide +kernel
theorem dX9_countRowsToEnd_98 : decode cX9_countRowsToEnd 98 = .ok (.istore 4, 2) := by decide +kernel
theorem dX9_countRowsToEnd_100 : decode cX9_countRowsToEnd 100 = .ok (.iinc 5 1, 3) := by decide +kernel
theorem dX9_countRowsToEnd_103 : decode cX9_countRowsToEnd 103 = .ok (.goto (-75), 3) := by decide +kernel
theorem dX9_countRowsToEnd_106 : decode cX9_countRowsToEnd 106 = .ok (.iload_n 3, 1) := by decide +kernel
theorem dX9_countRowsToEnd_107 : decode cX9_countRowsToEnd 107 = .ok (.ireturn, 1) := by decide +kernel
theorem dX9_goRound_0 : decode cX9_goRound 0 = .ok (.aload_n 0, 1) := by decide +kernel
theorem dX9_goRound_1 : decode cX9_goRound 1 = .ok (.getfield 12, 3) := by decide +kernel
theorem dX9_goRound_4 : decode cX9_goRound 4 = .ok (.getfield 77, 3) := by decide +kernel
theorem dX9_goRound_7 : decode cX9_goRound 7 = .ok (.aload_n 1, 1) := by decide +kernel
theorem dX9_goRound_8 : decode cX9_goRound 8 = .ok (.iload_n 2, 1) := by decide +kernel
theorem dX9_goRound_9 : decode cX9_goRound 9 = .ok (.iload 4, 2) := by decide +kernel
theorem dX9_goRound_11 : decode cX9_goRound 11 = .ok (.invokevirtual 317, 3) := by decide +kernel
theorem dX9_goRound_14 : decode cX9_goRound 14 = .ok (.aload_n 0, 1) := by decide +kernel
theorem dX9_goRound_15 : decode cX9_goRound 15 = .ok (.getfield 12, 3) := by decide +kernel
theorem dX9_goRound_18 : decode cX9_goRound 18 = .ok (.getfield 77, 3) := by decide +kernel
theorem dX9_goRound_21 : decode cX9_goRound 21 = .ok (.aload_n 1, 1) := by decide +kernel
theorem dX9_goRound_22 : decode cX9_goRound 22 = .ok (.iload_n 2, 1) := by decide +kernel
theorem dX9_goRound_23 : decode cX9_goRound 23 = .ok (.iload_n 3, 1) := by decide +kernel
theorem dX9_goRound_24 : decode cX9_goRound 24 = .ok (.invokevirtual 317, 3) := by decide +kernel
theorem dX9_goRound_27 : decode cX9_goRound 27 = .ok (.return_, 1) := by decide +kernel
theorem dX9_roundLikeNow_0 : decode cX9_roundLikeNow 0 = .ok (.aload_n 0, 1) := by decide +kernel
theorem dX9_roundLikeNow_1 : decode cX9_roundLikeNow 1 = .ok (.getfield 66, 3) := by decide +kernel
theorem dX9_roundLikeNow_4 : decode cX9_roundLikeNow 4 = .ok (.aload_n 0, 1) := by decide +kernel
theorem dX9_roundLikeNow_5 : decode cX9_roundLikeNow 5 = .ok (.getfield 12, 3) := by decide +kernel
theorem dX9_roundLikeNow_8 : decode cX9_roundLikeNow 8 = .ok (.getfield 107, 3) := by decide +kernel
theorem dX9_roundLikeNow_11 : decode cX9_roundLikeNow 11 = .ok (.invokevirtual 181, 3) := by decide +kernel
theorem dX9_roundLikeNow_14 : decode cX9_roundLikeNow 14 = .ok (.iconst 0, 1) := by decide +kernel
theorem dX9_roundLikeNow_15 : decode cX9_roundLikeNow 15 = .ok (.istore 5, 2) := by decide +kernel
theorem dX9_roundLikeNow_17 : decode cX9_roundLikeNow 17 = .ok (.iload 5, 2) := by decide +kernel
theorem dX9_roundLikeNow_19 : decode cX9_roundLikeNow 19 = .ok (.iload 4, 2) := by decide +kernel
theorem dX9_roundLikeNow_21 : decode cX9_roundLikeNow 21 = .ok (.if_icmp .ge 37, 3) := by decide +kernel
theorem dX9_roundLikeNow_24 : decode cX9_roundLikeNow 24 = .ok (.aload_n 0, 1) := by decide +kernel
theorem dX9_roundLikeNow_25 : decode cX9_roundLikeNow 25 = .ok (.getfield 66, 3) := by decide +kernel
theorem dX9_roundLikeNow_28 : decode cX9_roundLikeNow 28 = .ok (.aload_n 0, 1) := by decide +kernel
theorem dX9_roundLikeNow_29 : decode cX9_roundLikeNow 29 = .ok (.getfield 62, 3) := by decide +kernel
theorem dX9_roundLikeNow_32 : decode cX9_roundLikeNow 32 = .ok (.invokevirtual 341, 3) := by decide +kernel
theorem dX9_roundLikeNow_35 : decode cX9_roundLikeNow 35 = .ok (.ifCond .eq 6, 3) := by decide +kernel
theorem dX9_roundLikeNow_38 : decode cX9_roundLikeNow 38 = .ok (.iload 5, 2) := by decide +kernel
theorem dX9_roundLikeNow_40 : decode cX9_roundLikeNow 40 = .ok (.ireturn, 1) := by decide +kernel
theorem dX9_roundLikeNow_41 : decode cX9_roundLikeNow 41 = .ok (.aload_n 0, 1) := by decide +kernel
theorem dX9_roundLikeNow_42 : decode cX9_roundLikeNow 42 = .ok (.aload_n 0, 1) := by decide +kernel
theorem dX9_roundLikeNow_43 : decode cX9_roundLikeNow 43 = .ok (.getfield 66, 3) := by decide +kernel
theorem dX9_roundLikeNow_46 : decode cX9_roundLikeNow 46 = .ok (.iload_n 1, 1) := by decide +kernel
theorem dX9_roundLikeNow_47 : decode cX9_roundLikeNow 47 = .ok (.iload_n 2, 1) := by decide +kernel
theorem dX9_roundLikeNow_48 : decode cX9_roundLikeNow 48 = .ok (.iload_n 3, 1) := by decide +kernel
theorem dX9_roundLikeNow_49 : decode cX9_roundLikeNow 49 = .ok (.invokevirtual 208, 3) := by decide +kernel
theorem dX9_roundLikeNow_52 : decode cX9_roundLikeNow 52 = .ok (.iinc 5 1, 3) := by decide +kernel
theorem dX9_roundLikeNow_55 : decode cX9_roundLikeNow 55 = .ok (.goto (-38), 3) := by decide +kernel
theorem dX9_roundLikeNow_58 : decode cX9_roundLikeNow 58 = .ok (.iconst (-1), 1) := by decide +kernel
theorem dX9_roundLikeNow_59 : decode cX9_roundLikeNow 59 = .ok (.ireturn, 1) := by decide +kernel
