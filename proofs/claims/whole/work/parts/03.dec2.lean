theorem dX4_weighPair_32 : decode cX4_weighPair 32 = .ok (.iconst 1, 1) := by decide +kernel
theorem dX4_weighPair_33 : decode cX4_weighPair 33 = .ok (.goto 4, 3) := by decide +kernel
theorem dX4_weighPair_36 : decode cX4_weighPair 36 = .ok (.iconst 0, 1) := by decide +kernel
theorem dX4_weighPair_37 : decode cX4_weighPair 37 = .ok (.invokevirtual 176, 3) := by decide +kernel
theorem dX4_weighPair_40 : decode cX4_weighPair 40 = .ok (.aload_n 0, 1) := by decide +kernel
theorem dX4_weighPair_41 : decode cX4_weighPair 41 = .ok (.getfield 18, 3) := by decide +kernel
theorem dX4_weighPair_44 : decode cX4_weighPair 44 = .ok (.iload_n 3, 1) := by decide +kernel
theorem dX4_weighPair_45 : decode cX4_weighPair 45 = .ok (.iload 5, 2) := by decide +kernel
theorem dX4_weighPair_47 : decode cX4_weighPair 47 = .ok (.iconst 1, 1) := by decide +kernel
theorem dX4_weighPair_48 : decode cX4_weighPair 48 = .ok (.if_icmp .ne 7, 3) := by decide +kernel
theorem dX4_weighPair_51 : decode cX4_weighPair 51 = .ok (.iconst 1, 1) := by decide +kernel
theorem dX4_weighPair_52 : decode cX4_weighPair 52 = .ok (.goto 4, 3) := by decide +kernel
theorem dX4_weighPair_55 : decode cX4_weighPair 55 = .ok (.iconst 0, 1) := by decide +kernel
theorem dX4_weighPair_56 : decode cX4_weighPair 56 = .ok (.invokevirtual 176, 3) := by decide +kernel
theorem dX4_weighPair_59 : decode cX4_weighPair 59 = .ok (.aload_n 0, 1) := by decide +kernel
theorem dX4_weighPair_60 : decode cX4_weighPair 60 = .ok (.getfield 35, 3) := by decide +kernel
theorem dX4_weighPair_63 : decode cX4_weighPair 63 = .ok (.iload_n 1, 1) := by decide +kernel
theorem dX4_weighPair_64 : decode cX4_weighPair 64 = .ok (.iconst 0, 1) := by decide +kernel
theorem dX4_weighPair_65 : decode cX4_weighPair 65 = .ok (.iastore, 1) := by decide +kernel
theorem dX4_weighPair_66 : decode cX4_weighPair 66 = .ok (.aload_n 0, 1) := by decide +kernel
theorem dX4_weighPair_67 : decode cX4_weighPair 67 = .ok (.getfield 38, 3) := by decide +kernel
theorem dX4_weighPair_70 : decode cX4_weighPair 70 = .ok (.iload_n 1, 1) := by decide +kernel
theorem dX4_weighPair_71 : decode cX4_weighPair 71 = .ok (.iconst 0, 1) := by decide +kernel
theorem dX4_weighPair_72 : decode cX4_weighPair 72 = .ok (.iastore, 1) := by decide +kernel
theorem dX4_weighPair_73 : decode cX4_weighPair 73 = .ok (.iconst 0, 1) := by decide +kernel
theorem dX4_weighPair_74 : decode cX4_weighPair 74 = .ok (.istore 6, 2) := by decide +kernel
theorem dX4_weighPair_76 : decode cX4_weighPair 76 = .ok (.iload 6, 2) := by decide +kernel
theorem dX4_weighPair_78 : decode cX4_weighPair 78 = .ok (.bipush 6, 2) := by decide +kernel
theorem dX4_weighPair_80 : decode cX4_weighPair 80 = .ok (.if_icmp .ge 74, 3) := by decide +kernel
theorem dX4_weighPair_83 : decode cX4_weighPair 83 = .ok (.aload_n 0, 1) := by decide +kernel
theorem dX4_weighPair_84 : decode cX4_weighPair 84 = .ok (.invokevirtual 74, 3) := by decide +kernel
theorem dX4_weighPair_87 : decode cX4_weighPair 87 = .ok (.istore 7, 2) := by decide +kernel
theorem dX4_weighPair_89 : decode cX4_weighPair 89 = .ok (.aload_n 0, 1) := by decide +kernel
theorem dX4_weighPair_90 : decode cX4_weighPair 90 = .ok (.getfield 35, 3) := by decide +kernel
theorem dX4_weighPair_93 : decode cX4_weighPair 93 = .ok (.iload_n 1, 1) := by decide +kernel
theorem dX4_weighPair_94 : decode cX4_weighPair 94 = .ok (.dup2, 1) := by decide +kernel
theorem dX4_weighPair_95 : decode cX4_weighPair 95 = .ok (.iaload, 1) := by decide +kernel
theorem dX4_weighPair_96 : decode cX4_weighPair 96 = .ok (.iload 7, 2) := by decide +kernel
theorem dX4_weighPair_98 : decode cX4_weighPair 98 = .ok (.iload_n 2, 1) := by decide +kernel
theorem dX4_weighPair_99 : decode cX4_weighPair 99 = .ok (.invokestatic 80, 3) := by decide +kernel
theorem dX4_weighPair_102 : decode cX4_weighPair 102 = .ok (.ifCond .eq 7, 3) := by decide +kernel
theorem dX4_weighPair_105 : decode cX4_weighPair 105 = .ok (.iconst 2, 1) := by decide +kernel
theorem dX4_weighPair_106 : decode cX4_weighPair 106 = .ok (.goto 4, 3) := by decide +kernel
theorem dX4_weighPair_109 : decode cX4_weighPair 109 = .ok (.iconst 0, 1) := by decide +kernel
theorem dX4_weighPair_110 : decode cX4_weighPair 110 = .ok (.iload 4, 2) := by decide +kernel
theorem dX4_weighPair_112 : decode cX4_weighPair 112 = .ok (.isub, 1) := by decide +kernel
theorem dX4_weighPair_113 : decode cX4_weighPair 113 = .ok (.iadd, 1) := by decide +kernel
theorem dX4_weighPair_114 : decode cX4_weighPair 114 = .ok (.iastore, 1) := by decide +kernel
theorem dX4_weighPair_115 : decode cX4_weighPair 115 = .ok (.aload_n 0, 1) := by decide +kernel
theorem dX4_weighPair_116 : decode cX4_weighPair 116 = .ok (.getfield 38, 3) := by decide +kernel
theorem dX4_weighPair_119 : decode cX4_weighPair 119 = .ok (.iload_n 1, 1) := by decide +kernel
theorem dX4_weighPair_120 : decode cX4_weighPair 120 = .ok (.dup2, 1) := by decide +kernel
theorem dX4_weighPair_121 : decode cX4_weighPair 121 = .ok (.iaload, 1) := by decide +kernel
theorem dX4_weighPair_122 : decode cX4_weighPair 122 = .ok (.iload 7, 2) := by decide +kernel
theorem dX4_weighPair_124 : decode cX4_weighPair 124 = .ok (.iload_n 3, 1) := by decide +kernel
theorem dX4_weighPair_125 : decode cX4_weighPair 125 = .ok (.invokestatic 80, 3) := by decide +kernel
theorem dX4_weighPair_128 : decode cX4_weighPair 128 = .ok (.ifCond .eq 7, 3) := by decide +kernel
theorem dX4_weighPair_131 : decode cX4_weighPair 131 = .ok (.iconst 2, 1) := by decide +kernel
theorem dX4_weighPair_132 : decode cX4_weighPair 132 = .ok (.goto 4, 3) := by decide +kernel
theorem dX4_weighPair_135 : decode cX4_weighPair 135 = .ok (.iconst 0, 1) := by decide +kernel
theorem dX4_weighPair_136 : decode cX4_weighPair 136 = .ok (.iload 5, 2) := by decide +kernel
theorem dX4_weighPair_138 : decode cX4_weighPair 138 = .ok (.isub, 1) := by decide +kernel
theorem dX4_weighPair_139 : decode cX4_weighPair 139 = .ok (.iadd, 1) := by decide +kernel
theorem dX4_weighPair_140 : decode cX4_weighPair 140 = .ok (.iastore, 1) := by decide +kernel
theorem dX4_weighPair_141 : decode cX4_weighPair 141 = .ok (.aload_n 0, 1) := by decide +kernel
theorem dX4_weighPair_142 : decode cX4_weighPair 142 = .ok (.getfield 18, 3) := by decide +kernel
theorem dX4_weighPair_145 : decode cX4_weighPair 145 = .ok (.invokevirtual 64, 3) := by decide +kernel
theorem dX4_weighPair_148 : decode cX4_weighPair 148 = .ok (.iinc 6 1, 3) := by decide +kernel
theorem dX4_weighPair_151 : decode cX4_weighPair 151 = .ok (.goto (-75), 3) := by decide +kernel
theorem dX4_weighPair_154 : decode cX4_weighPair 154 = .ok (.return_, 1) := by decide +kernel
theorem dX4_mistAbove_0 : decode cX4_mistAbove 0 = .ok (.aload_n 0, 1) := by decide +kernel
theorem dX4_mistAbove_1 : decode cX4_mistAbove 1 = .ok (.invokevirtual 71, 3) := by decide +kernel
theorem dX4_mistAbove_4 : decode cX4_mistAbove 4 = .ok (.aload_n 0, 1) := by decide +kernel
theorem dX4_mistAbove_5 : decode cX4_mistAbove 5 = .ok (.getfield 18, 3) := by decide +kernel
theorem dX4_mistAbove_8 : decode cX4_mistAbove 8 = .ok (.bipush 9, 2) := by decide +kernel
theorem dX4_mistAbove_10 : decode cX4_mistAbove 10 = .ok (.putfield 169, 3) := by decide +kernel
theorem dX4_mistAbove_13 : decode cX4_mistAbove 13 = .ok (.aload_n 0, 1) := by decide +kernel
theorem dX4_mistAbove_14 : decode cX4_mistAbove 14 = .ok (.getfield 28, 3) := by decide +kernel
theorem dX4_mistAbove_17 : decode cX4_mistAbove 17 = .ok (.aload_n 0, 1) := by decide +kernel
theorem dX4_mistAbove_18 : decode cX4_mistAbove 18 = .ok (.getfield 18, 3) := by decide +kernel
theorem dX4_mistAbove_21 : decode cX4_mistAbove 21 = .ok (.invokevirtual 131, 3) := by decide +kernel
theorem dX4_mistAbove_24 : decode cX4_mistAbove 24 = .ok (.lconst 1, 1) := by decide +kernel
theorem dX4_mistAbove_25 : decode cX4_mistAbove 25 = .ok (.lstore 4, 2) := by decide +kernel
theorem dX4_mistAbove_27 : decode cX4_mistAbove 27 = .ok (.iconst 0, 1) := by decide +kernel
theorem dX4_mistAbove_28 : decode cX4_mistAbove 28 = .ok (.istore 6, 2) := by decide +kernel
theorem dX4_mistAbove_30 : decode cX4_mistAbove 30 = .ok (.iload 6, 2) := by decide +kernel
theorem dX4_mistAbove_32 : decode cX4_mistAbove 32 = .ok (.iload_n 2, 1) := by decide +kernel
theorem dX4_mistAbove_33 : decode cX4_mistAbove 33 = .ok (.if_icmp .ge 84, 3) := by decide +kernel
theorem dX4_mistAbove_36 : decode cX4_mistAbove 36 = .ok (.aload_n 0, 1) := by decide +kernel
theorem dX4_mistAbove_37 : decode cX4_mistAbove 37 = .ok (.getfield 18, 3) := by decide +kernel
theorem dX4_mistAbove_40 : decode cX4_mistAbove 40 = .ok (.invokevirtual 51, 3) := by decide +kernel
theorem dX4_mistAbove_43 : decode cX4_mistAbove 43 = .ok (.istore 7, 2) := by decide +kernel
theorem dX4_mistAbove_45 : decode cX4_mistAbove 45 = .ok (.aload_n 0, 1) := by decide +kernel
theorem dX4_mistAbove_46 : decode cX4_mistAbove 46 = .ok (.getfield 24, 3) := by decide +kernel
theorem dX4_mistAbove_49 : decode cX4_mistAbove 49 = .ok (.iload 7, 2) := by decide +kernel
theorem dX4_mistAbove_51 : decode cX4_mistAbove 51 = .ok (.invokevirtual 55, 3) := by decide +kernel
theorem dX4_mistAbove_54 : decode cX4_mistAbove 54 = .ok (.iload_n 1, 1) := by decide +kernel
theorem dX4_mistAbove_55 : decode cX4_mistAbove 55 = .ok (.invokestatic 80, 3) := by decide +kernel
theorem dX4_mistAbove_58 : decode cX4_mistAbove 58 = .ok (.ifCond .eq 9, 3) := by decide +kernel
theorem dX4_mistAbove_61 : decode cX4_mistAbove 61 = .ok (.iload_n 3, 1) := by decide +kernel
theorem dX4_mistAbove_62 : decode cX4_mistAbove 62 = .ok (.iconst 1, 1) := by decide +kernel
theorem dX4_mistAbove_63 : decode cX4_mistAbove 63 = .ok (.isub, 1) := by decide +kernel
theorem dX4_mistAbove_64 : decode cX4_mistAbove 64 = .ok (.goto 4, 3) := by decide +kernel
theorem dX4_mistAbove_67 : decode cX4_mistAbove 67 = .ok (.iconst 0, 1) := by decide +kernel
theorem dX4_mistAbove_68 : decode cX4_mistAbove 68 = .ok (.istore 8, 2) := by decide +kernel
theorem dX4_mistAbove_70 : decode cX4_mistAbove 70 = .ok (.aload_n 0, 1) := by decide +kernel
theorem dX4_mistAbove_71 : decode cX4_mistAbove 71 = .ok (.getfield 28, 3) := by decide +kernel
theorem dX4_mistAbove_74 : decode cX4_mistAbove 74 = .ok (.iload 7, 2) := by decide +kernel
theorem dX4_mistAbove_76 : decode cX4_mistAbove 76 = .ok (.invokevirtual 55, 3) := by decide +kernel
theorem dX4_mistAbove_79 : decode cX4_mistAbove 79 = .ok (.iload_n 1, 1) := by decide +kernel
theorem dX4_mistAbove_80 : decode cX4_mistAbove 80 = .ok (.invokestatic 80, 3) := by decide +kernel
theorem dX4_mistAbove_83 : decode cX4_mistAbove 83 = .ok (.ifCond .eq 7, 3) := by decide +kernel
theorem dX4_mistAbove_86 : decode cX4_mistAbove 86 = .ok (.iconst 1, 1) := by decide +kernel
theorem dX4_mistAbove_87 : decode cX4_mistAbove 87 = .ok (.goto 4, 3) := by decide +kernel
theorem dX4_mistAbove_90 : decode cX4_mistAbove 90 = .ok (.iconst 0, 1) := by decide +kernel
theorem dX4_mistAbove_91 : decode cX4_mistAbove 91 = .ok (.istore 9, 2) := by decide +kernel
theorem dX4_mistAbove_93 : decode cX4_mistAbove 93 = .ok (.lload 4, 2) := by decide +kernel
theorem dX4_mistAbove_95 : decode cX4_mistAbove 95 = .ok (.iload 8, 2) := by decide +kernel
theorem dX4_mistAbove_97 : decode cX4_mistAbove 97 = .ok (.iload 9, 2) := by decide +kernel
theorem dX4_mistAbove_99 : decode cX4_mistAbove 99 = .ok (.iadd, 1) := by decide +kernel
theorem dX4_mistAbove_100 : decode cX4_mistAbove 100 = .ok (.i2l, 1) := by decide +kernel
theorem dX4_mistAbove_101 : decode cX4_mistAbove 101 = .ok (.lmul, 1) := by decide +kernel
theorem dX4_mistAbove_102 : decode cX4_mistAbove 102 = .ok (.lstore 4, 2) := by decide +kernel
theorem dX4_mistAbove_104 : decode cX4_mistAbove 104 = .ok (.aload_n 0, 1) := by decide +kernel
theorem dX4_mistAbove_105 : decode cX4_mistAbove 105 = .ok (.getfield 18, 3) := by decide +kernel
theorem dX4_mistAbove_108 : decode cX4_mistAbove 108 = .ok (.invokevirtual 64, 3) := by decide +kernel
theorem dX4_mistAbove_111 : decode cX4_mistAbove 111 = .ok (.iinc 6 1, 3) := by decide +kernel
theorem dX4_mistAbove_114 : decode cX4_mistAbove 114 = .ok (.goto (-84), 3) := by decide +kernel
theorem dX4_mistAbove_117 : decode cX4_mistAbove 117 = .ok (.lload 4, 2) := by decide +kernel
theorem dX4_mistAbove_119 : decode cX4_mistAbove 119 = .ok (.lreturn, 1) := by decide +kernel
theorem dX4_isSo_0 : decode cX4_isSo 0 = .ok (.aload_n 0, 1) := by decide +kernel
theorem dX4_isSo_1 : decode cX4_isSo 1 = .ok (.getfield 24, 3) := by decide +kernel
theorem dX4_isSo_4 : decode cX4_isSo 4 = .ok (.aload_n 0, 1) := by decide +kernel
theorem dX4_isSo_5 : decode cX4_isSo 5 = .ok (.getfield 18, 3) := by decide +kernel
theorem dX4_isSo_8 : decode cX4_isSo 8 = .ok (.invokevirtual 131, 3) := by decide +kernel
theorem dX4_isSo_11 : decode cX4_isSo 11 = .ok (.iconst 0, 1) := by decide +kernel
theorem dX4_isSo_12 : decode cX4_isSo 12 = .ok (.istore_n 3, 1) := by decide +kernel
theorem dX4_isSo_13 : decode cX4_isSo 13 = .ok (.iload_n 3, 1) := by decide +kernel
theorem dX4_isSo_14 : decode cX4_isSo 14 = .ok (.iload_n 2, 1) := by decide +kernel
theorem dX4_isSo_15 : decode cX4_isSo 15 = .ok (.if_icmp .ge 37, 3) := by decide +kernel
theorem dX4_isSo_18 : decode cX4_isSo 18 = .ok (.iload_n 3, 1) := by decide +kernel
theorem dX4_isSo_19 : decode cX4_isSo 19 = .ok (.aload_n 1, 1) := by decide +kernel
theorem dX4_isSo_20 : decode cX4_isSo 20 = .ok (.arraylength, 1) := by decide +kernel
theorem dX4_isSo_21 : decode cX4_isSo 21 = .ok (.if_icmp .ge 31, 3) := by decide +kernel
theorem dX4_isSo_24 : decode cX4_isSo 24 = .ok (.aload_n 0, 1) := by decide +kernel
theorem dX4_isSo_25 : decode cX4_isSo 25 = .ok (.invokevirtual 74, 3) := by decide +kernel
theorem dX4_isSo_28 : decode cX4_isSo 28 = .ok (.invokestatic 59, 3) := by decide +kernel
theorem dX4_isSo_31 : decode cX4_isSo 31 = .ok (.aload_n 1, 1) := by decide +kernel
theorem dX4_isSo_32 : decode cX4_isSo 32 = .ok (.iload_n 3, 1) := by decide +kernel
theorem dX4_isSo_33 : decode cX4_isSo 33 = .ok (.iaload, 1) := by decide +kernel
theorem dX4_isSo_34 : decode cX4_isSo 34 = .ok (.if_icmp .eq 5, 3) := by decide +kernel
theorem dX4_isSo_37 : decode cX4_isSo 37 = .ok (.iconst 0, 1) := by decide +kernel
theorem dX4_isSo_38 : decode cX4_isSo 38 = .ok (.ireturn, 1) := by decide +kernel
theorem dX4_isSo_39 : decode cX4_isSo 39 = .ok (.aload_n 0, 1) := by decide +kernel
theorem dX4_isSo_40 : decode cX4_isSo 40 = .ok (.getfield 18, 3) := by decide +kernel
theorem dX4_isSo_43 : decode cX4_isSo 43 = .ok (.invokevirtual 64, 3) := by decide +kernel
theorem dX4_isSo_46 : decode cX4_isSo 46 = .ok (.iinc 3 1, 3) := by decide +kernel
theorem dX4_isSo_49 : decode cX4_isSo 49 = .ok (.goto (-36), 3) := by decide +kernel
theorem dX4_isSo_52 : decode cX4_isSo 52 = .ok (.iconst 1, 1) := by decide +kernel
theorem dX4_isSo_53 : decode cX4_isSo 53 = .ok (.ireturn, 1) := by decide +kernel
theorem dX4_housesThatSlept_0 : decode cX4_housesThatSlept 0 = .ok (.iconst 0, 1) := by decide +kernel
theorem dX4_housesThatSlept_1 : decode cX4_housesThatSlept 1 = .ok (.istore_n 3, 1) := by decide +kernel
theorem dX4_housesThatSlept_2 : decode cX4_housesThatSlept 2 = .ok (.iconst 0, 1) := by decide +kernel
theorem dX4_housesThatSlept_3 : decode cX4_housesThatSlept 3 = .ok (.istore 4, 2) := by decide +kernel
theorem dX4_housesThatSlept_5 : decode cX4_housesThatSlept 5 = .ok (.iload 4, 2) := by decide +kernel
theorem dX4_housesThatSlept_7 : decode cX4_housesThatSlept 7 = .ok (.aload_n 0, 1) := by decide +kernel
theorem dX4_housesThatSlept_8 : decode cX4_housesThatSlept 8 = .ok (.getfield 12, 3) := by decide +kernel
theorem dX4_housesThatSlept_11 : decode cX4_housesThatSlept 11 = .ok (.getfield 114, 3) := by decide +kernel
theorem dX4_housesThatSlept_14 : decode cX4_housesThatSlept 14 = .ok (.if_icmp .ge 47, 3) := by decide +kernel
theorem dX4_housesThatSlept_17 : decode cX4_housesThatSlept 17 = .ok (.aload_n 0, 1) := by decide +kernel
theorem dX4_housesThatSlept_18 : decode cX4_housesThatSlept 18 = .ok (.getfield 18, 3) := by decide +kernel
theorem dX4_housesThatSlept_21 : decode cX4_housesThatSlept 21 = .ok (.aload_n 0, 1) := by decide +kernel
theorem dX4_housesThatSlept_22 : decode cX4_housesThatSlept 22 = .ok (.getfield 12, 3) := by decide +kernel
theorem dX4_housesThatSlept_25 : decode cX4_housesThatSlept 25 = .ok (.invokevirtual 41, 3) := by decide +kernel
theorem dX4_housesThatSlept_28 : decode cX4_housesThatSlept 28 = .ok (.aload_n 0, 1) := by decide +kernel
theorem dX4_housesThatSlept_29 : decode cX4_housesThatSlept 29 = .ok (.getfield 18, 3) := by decide +kernel
theorem dX4_housesThatSlept_32 : decode cX4_housesThatSlept 32 = .ok (.getfield 77, 3) := by decide +kernel
theorem dX4_housesThatSlept_35 : decode cX4_housesThatSlept 35 = .ok (.iload 4, 2) := by decide +kernel
theorem dX4_housesThatSlept_37 : decode cX4_housesThatSlept 37 = .ok (.iconst 0, 1) := by decide +kernel
theorem dX4_housesThatSlept_38 : decode cX4_housesThatSlept 38 = .ok (.iastore, 1) := by decide +kernel
theorem dX4_housesThatSlept_39 : decode cX4_housesThatSlept 39 = .ok (.aload_n 0, 1) := by decide +kernel
theorem dX4_housesThatSlept_40 : decode cX4_housesThatSlept 40 = .ok (.aload_n 1, 1) := by decide +kernel
theorem dX4_housesThatSlept_41 : decode cX4_housesThatSlept 41 = .ok (.iload_n 2, 1) := by decide +kernel
theorem dX4_housesThatSlept_42 : decode cX4_housesThatSlept 42 = .ok (.invokevirtual 180, 3) := by decide +kernel
theorem dX4_housesThatSlept_45 : decode cX4_housesThatSlept 45 = .ok (.ifCond .eq 10, 3) := by decide +kernel
theorem dX4_housesThatSlept_48 : decode cX4_housesThatSlept 48 = .ok (.iload_n 3, 1) := by decide +kernel
theorem dX4_housesThatSlept_49 : decode cX4_housesThatSlept 49 = .ok (.iconst 1, 1) := by decide +kernel
theorem dX4_housesThatSlept_50 : decode cX4_housesThatSlept 50 = .ok (.iload 4, 2) := by decide +kernel
theorem dX4_housesThatSlept_52 : decode cX4_housesThatSlept 52 = .ok (.ishl, 1) := by decide +kernel
theorem dX4_housesThatSlept_53 : decode cX4_housesThatSlept 53 = .ok (.ior, 1) := by decide +kernel
theorem dX4_housesThatSlept_54 : decode cX4_housesThatSlept 54 = .ok (.istore_n 3, 1) := by decide +kernel
theorem dX4_housesThatSlept_55 : decode cX4_housesThatSlept 55 = .ok (.iinc 4 1, 3) := by decide +kernel
theorem dX4_housesThatSlept_58 : decode cX4_housesThatSlept 58 = .ok (.goto (-53), 3) := by decide +kernel
theorem dX4_housesThatSlept_61 : decode cX4_housesThatSlept 61 = .ok (.iload_n 3, 1) := by decide +kernel
theorem dX4_housesThatSlept_62 : decode cX4_housesThatSlept 62 = .ok (.ireturn, 1) := by decide +kernel
theorem dX4_kindsThatFit_0 : decode cX4_kindsThatFit 0 = .ok (.iconst 0, 1) := by decide +kernel
theorem dX4_kindsThatFit_1 : decode cX4_kindsThatFit 1 = .ok (.istore 4, 2) := by decide +kernel
theorem dX4_kindsThatFit_3 : decode cX4_kindsThatFit 3 = .ok (.iconst 0, 1) := by decide +kernel
theorem dX4_kindsThatFit_4 : decode cX4_kindsThatFit 4 = .ok (.istore 5, 2) := by decide +kernel
theorem dX4_kindsThatFit_6 : decode cX4_kindsThatFit 6 = .ok (.iload 5, 2) := by decide +kernel
theorem dX4_kindsThatFit_8 : decode cX4_kindsThatFit 8 = .ok (.bipush 6, 2) := by decide +kernel
theorem dX4_kindsThatFit_10 : decode cX4_kindsThatFit 10 = .ok (.if_icmp .ge 49, 3) := by decide +kernel
theorem dX4_kindsThatFit_13 : decode cX4_kindsThatFit 13 = .ok (.aload_n 0, 1) := by decide +kernel
theorem dX4_kindsThatFit_14 : decode cX4_kindsThatFit 14 = .ok (.getfield 18, 3) := by decide +kernel
theorem dX4_kindsThatFit_17 : decode cX4_kindsThatFit 17 = .ok (.aload_n 0, 1) := by decide +kernel
theorem dX4_kindsThatFit_18 : decode cX4_kindsThatFit 18 = .ok (.getfield 12, 3) := by decide +kernel
theorem dX4_kindsThatFit_21 : decode cX4_kindsThatFit 21 = .ok (.invokevirtual 41, 3) := by decide +kernel
theorem dX4_kindsThatFit_24 : decode cX4_kindsThatFit 24 = .ok (.aload_n 0, 1) := by decide +kernel
theorem dX4_kindsThatFit_25 : decode cX4_kindsThatFit 25 = .ok (.getfield 18, 3) := by decide +kernel
theorem dX4_kindsThatFit_28 : decode cX4_kindsThatFit 28 = .ok (.getfield 184, 3) := by decide +kernel
theorem dX4_kindsThatFit_31 : decode cX4_kindsThatFit 31 = .ok (.iload_n 1, 1) := by decide +kernel
theorem dX4_kindsThatFit_32 : decode cX4_kindsThatFit 32 = .ok (.iload 5, 2) := by decide +kernel
theorem dX4_kindsThatFit_34 : decode cX4_kindsThatFit 34 = .ok (.iastore, 1) := by decide +kernel
theorem dX4_kindsThatFit_35 : decode cX4_kindsThatFit 35 = .ok (.aload_n 0, 1) := by decide +kernel
theorem dX4_kindsThatFit_36 : decode cX4_kindsThatFit 36 = .ok (.aload_n 2, 1) := by decide +kernel
theorem dX4_kindsThatFit_37 : decode cX4_kindsThatFit 37 = .ok (.iload_n 3, 1) := by decide +kernel
theorem dX4_kindsThatFit_38 : decode cX4_kindsThatFit 38 = .ok (.invokevirtual 180, 3) := by decide +kernel
theorem dX4_kindsThatFit_41 : decode cX4_kindsThatFit 41 = .ok (.ifCond .eq 12, 3) := by decide +kernel
theorem dX4_kindsThatFit_44 : decode cX4_kindsThatFit 44 = .ok (.iload 4, 2) := by decide +kernel
theorem dX4_kindsThatFit_46 : decode cX4_kindsThatFit 46 = .ok (.iconst 1, 1) := by decide +kernel
theorem dX4_kindsThatFit_47 : decode cX4_kindsThatFit 47 = .ok (.iload 5, 2) := by decide +kernel
theorem dX4_kindsThatFit_49 : decode cX4_kindsThatFit 49 = .ok (.ishl, 1) := by decide +kernel
theorem dX4_kindsThatFit_50 : decode cX4_kindsThatFit 50 = .ok (.ior, 1) := by decide +kernel
theorem dX4_kindsThatFit_51 : decode cX4_kindsThatFit 51 = .ok (.istore 4, 2) := by decide +kernel
theorem dX4_kindsThatFit_53 : decode cX4_kindsThatFit 53 = .ok (.iinc 5 1, 3) := by decide +kernel
theorem dX4_kindsThatFit_56 : decode cX4_kindsThatFit 56 = .ok (.goto (-50), 3) := by decide +kernel
theorem dX4_kindsThatFit_59 : decode cX4_kindsThatFit 59 = .ok (.iload 4, 2) := by decide +kernel
theorem dX4_kindsThatFit_61 : decode cX4_kindsThatFit 61 = .ok (.ireturn, 1) := by decide +kernel
theorem dX4_figuresThatFit_0 : decode cX4_figuresThatFit 0 = .ok (.iconst 0, 1) := by decide +kernel
theorem dX4_figuresThatFit_1 : decode cX4_figuresThatFit 1 = .ok (.istore 4, 2) := by decide +kernel
theorem dX4_figuresThatFit_3 : decode cX4_figuresThatFit 3 = .ok (.iconst 0, 1) := by decide +kernel
theorem dX4_figuresThatFit_4 : decode cX4_figuresThatFit 4 = .ok (.istore 5, 2) := by decide +kernel
theorem dX4_figuresThatFit_6 : decode cX4_figuresThatFit 6 = .ok (.iload 5, 2) := by decide +kernel
theorem dX4_figuresThatFit_8 : decode cX4_figuresThatFit 8 = .ok (.bipush 9, 2) := by decide +kernel
theorem dX4_figuresThatFit_10 : decode cX4_figuresThatFit 10 = .ok (.if_icmp .gt 49, 3) := by decide +kernel
theorem dX4_figuresThatFit_13 : decode cX4_figuresThatFit 13 = .ok (.aload_n 0, 1) := by decide +kernel
theorem dX4_figuresThatFit_14 : decode cX4_figuresThatFit 14 = .ok (.getfield 18, 3) := by decide +kernel
theorem dX4_figuresThatFit_17 : decode cX4_figuresThatFit 17 = .ok (.aload_n 0, 1) := by decide +kernel
theorem dX4_figuresThatFit_18 : decode cX4_figuresThatFit 18 = .ok (.getfield 12, 3) := by decide +kernel
theorem dX4_figuresThatFit_21 : decode cX4_figuresThatFit 21 = .ok (.invokevirtual 41, 3) := by decide +kernel
theorem dX4_figuresThatFit_24 : decode cX4_figuresThatFit 24 = .ok (.aload_n 0, 1) := by decide +kernel
theorem dX4_figuresThatFit_25 : decode cX4_figuresThatFit 25 = .ok (.getfield 18, 3) := by decide +kernel
theorem dX4_figuresThatFit_28 : decode cX4_figuresThatFit 28 = .ok (.getfield 187, 3) := by decide +kernel
theorem dX4_figuresThatFit_31 : decode cX4_figuresThatFit 31 = .ok (.iload_n 1, 1) := by decide +kernel
theorem dX4_figuresThatFit_32 : decode cX4_figuresThatFit 32 = .ok (.iload 5, 2) := by decide +kernel
theorem dX4_figuresThatFit_34 : decode cX4_figuresThatFit 34 = .ok (.iastore, 1) := by decide +kernel
theorem dX4_figuresThatFit_35 : decode cX4_figuresThatFit 35 = .ok (.aload_n 0, 1) := by decide +kernel
theorem dX4_figuresThatFit_36 : decode cX4_figuresThatFit 36 = .ok (.aload_n 2, 1) := by decide +kernel
theorem dX4_figuresThatFit_37 : decode cX4_figuresThatFit 37 = .ok (.iload_n 3, 1) := by decide +kernel
theorem dX4_figuresThatFit_38 : decode cX4_figuresThatFit 38 = .ok (.invokevirtual 180, 3) := by decide +kernel
theorem dX4_figuresThatFit_41 : decode cX4_figuresThatFit 41 = .ok (.ifCond .eq 12, 3) := by decide +kernel
theorem dX4_figuresThatFit_44 : decode cX4_figuresThatFit 44 = .ok (.iload 4, 2) := by decide +kernel
theorem dX4_figuresThatFit_46 : decode cX4_figuresThatFit 46 = .ok (.iconst 1, 1) := by decide +kernel
theorem dX4_figuresThatFit_47 : decode cX4_figuresThatFit 47 = .ok (.iload 5, 2) := by decide +kernel
theorem dX4_figuresThatFit_49 : decode cX4_figuresThatFit 49 = .ok (.ishl, 1) := by decide +kernel
theorem dX4_figuresThatFit_50 : decode cX4_figuresThatFit 50 = .ok (.ior, 1) := by decide +kernel
theorem dX4_figuresThatFit_51 : decode cX4_figuresThatFit 51 = .ok (.istore 4, 2) := by decide +kernel
theorem dX4_figuresThatFit_53 : decode cX4_figuresThatFit 53 = .ok (.iinc 5 1, 3) := by decide +kernel
theorem dX4_figuresThatFit_56 : decode cX4_figuresThatFit 56 = .ok (.goto (-50), 3) := by decide +kernel
theorem dX4_figuresThatFit_59 : decode cX4_figuresThatFit 59 = .ok (.iload 4, 2) := by decide +kernel
theorem dX4_figuresThatFit_61 : decode cX4_figuresThatFit 61 = .ok (.ireturn, 1) := by decide +kernel
theorem dX4_nightsByLot_0 : decode cX4_nightsByLot 0 = .ok (.iload_n 2, 1) := by decide +kernel
theorem dX4_nightsByLot_1 : decode cX4_nightsByLot 1 = .ok (.istore 4, 2) := by decide +kernel
theorem dX4_nightsByLot_3 : decode cX4_nightsByLot 3 = .ok (.iconst 0, 1) := by decide +kernel
theorem dX4_nightsByLot_4 : decode cX4_nightsByLot 4 = .ok (.istore 5, 2) := by decide +kernel
theorem dX4_nightsByLot_6 : decode cX4_nightsByLot 6 = .ok (.iconst 0, 1) := by decide +kernel
theorem dX4_nightsByLot_7 : decode cX4_nightsByLot 7 = .ok (.istore 6, 2) := by decide +kernel
theorem dX4_nightsByLot_9 : decode cX4_nightsByLot 9 = .ok (.iload 6, 2) := by decide +kernel
theorem dX4_nightsByLot_11 : decode cX4_nightsByLot 11 = .ok (.iload_n 1, 1) := by decide +kernel
theorem dX4_nightsByLot_12 : decode cX4_nightsByLot 12 = .ok (.if_icmp .ge 133, 3) := by decide +kernel
theorem dX4_nightsByLot_15 : decode cX4_nightsByLot 15 = .ok (.aload_n 0, 1) := by decide +kernel
theorem dX4_nightsByLot_16 : decode cX4_nightsByLot 16 = .ok (.getfield 18, 3) := by decide +kernel
theorem dX4_nightsByLot_19 : decode cX4_nightsByLot 19 = .ok (.aload_n 0, 1) := by decide +kernel
theorem dX4_nightsByLot_20 : decode cX4_nightsByLot 20 = .ok (.getfield 12, 3) := by decide +kernel
theorem dX4_nightsByLot_23 : decode cX4_nightsByLot 23 = .ok (.invokevirtual 41, 3) := by decide +kernel
theorem dX4_nightsByLot_26 : decode cX4_nightsByLot 26 = .ok (.iconst 0, 1) := by decide +kernel
theorem dX4_nightsByLot_27 : decode cX4_nightsByLot 27 = .ok (.istore 7, 2) := by decide +kernel
theorem dX4_nightsByLot_29 : decode cX4_nightsByLot 29 = .ok (.iload 7, 2) := by decide +kernel
theorem dX4_nightsByLot_31 : decode cX4_nightsByLot 31 = .ok (.aload_n 0, 1) := by decide +kernel
theorem dX4_nightsByLot_32 : decode cX4_nightsByLot 32 = .ok (.getfield 18, 3) := by decide +kernel
theorem dX4_nightsByLot_35 : decode cX4_nightsByLot 35 = .ok (.getfield 114, 3) := by decide +kernel
theorem dX4_nightsByLot_38 : decode cX4_nightsByLot 38 = .ok (.if_icmp .ge 56, 3) := by decide +kernel
theorem dX4_nightsByLot_41 : decode cX4_nightsByLot 41 = .ok (.iload 4, 2) := by decide +kernel
theorem dX4_nightsByLot_43 : decode cX4_nightsByLot 43 = .ok (.invokestatic 190, 3) := by decide +kernel
theorem dX4_nightsByLot_46 : decode cX4_nightsByLot 46 = .ok (.istore 4, 2) := by decide +kernel
theorem dX4_nightsByLot_48 : decode cX4_nightsByLot 48 = .ok (.aload_n 0, 1) := by decide +kernel
theorem dX4_nightsByLot_49 : decode cX4_nightsByLot 49 = .ok (.getfield 18, 3) := by decide +kernel
theorem dX4_nightsByLot_52 : decode cX4_nightsByLot 52 = .ok (.getfield 97, 3) := by decide +kernel
theorem dX4_nightsByLot_55 : decode cX4_nightsByLot 55 = .ok (.iload 7, 2) := by decide +kernel
theorem dX4_nightsByLot_57 : decode cX4_nightsByLot 57 = .ok (.iload 4, 2) := by decide +kernel
theorem dX4_nightsByLot_59 : decode cX4_nightsByLot 59 = .ok (.bipush 20, 2) := by decide +kernel
theorem dX4_nightsByLot_61 : decode cX4_nightsByLot 61 = .ok (.invokestatic 193, 3) := by decide +kernel
theorem dX4_nightsByLot_64 : decode cX4_nightsByLot 64 = .ok (.iastore, 1) := by decide +kernel
theorem dX4_nightsByLot_65 : decode cX4_nightsByLot 65 = .ok (.iload 4, 2) := by decide +kernel
theorem dX4_nightsByLot_67 : decode cX4_nightsByLot 67 = .ok (.invokestatic 190, 3) := by decide +kernel
theorem dX4_nightsByLot_70 : decode cX4_nightsByLot 70 = .ok (.istore 4, 2) := by decide +kernel
theorem dX4_nightsByLot_72 : decode cX4_nightsByLot 72 = .ok (.aload_n 0, 1) := by decide +kernel
theorem dX4_nightsByLot_73 : decode cX4_nightsByLot 73 = .ok (.getfield 18, 3) := by decide +kernel
theorem dX4_nightsByLot_76 : decode cX4_nightsByLot 76 = .ok (.getfield 77, 3) := by decide +kernel
theorem dX4_nightsByLot_79 : decode cX4_nightsByLot 79 = .ok (.iload 7, 2) := by decide +kernel
theorem dX4_nightsByLot_81 : decode cX4_nightsByLot 81 = .ok (.iload 4, 2) := by decide +kernel
theorem dX4_nightsByLot_83 : decode cX4_nightsByLot 83 = .ok (.iconst 5, 1) := by decide +kernel
theorem dX4_nightsByLot_84 : decode cX4_nightsByLot 84 = .ok (.invokestatic 193, 3) := by decide +kernel
theorem dX4_nightsByLot_87 : decode cX4_nightsByLot 87 = .ok (.iastore, 1) := by decide +kernel
theorem dX4_nightsByLot_88 : decode cX4_nightsByLot 88 = .ok (.iinc 7 1, 3) := by decide +kernel
theorem dX4_nightsByLot_91 : decode cX4_nightsByLot 91 = .ok (.goto (-62), 3) := by decide +kernel
theorem dX4_nightsByLot_94 : decode cX4_nightsByLot 94 = .ok (.aload_n 0, 1) := by decide +kernel
theorem dX4_nightsByLot_95 : decode cX4_nightsByLot 95 = .ok (.getfield 24, 3) := by decide +kernel
theorem dX4_nightsByLot_98 : decode cX4_nightsByLot 98 = .ok (.aload_n 0, 1) := by decide +kernel
theorem dX4_nightsByLot_99 : decode cX4_nightsByLot 99 = .ok (.getfield 18, 3) := by decide +kernel
theorem dX4_nightsByLot_102 : decode cX4_nightsByLot 102 = .ok (.invokevirtual 131, 3) := by decide +kernel
theorem dX4_nightsByLot_105 : decode cX4_nightsByLot 105 = .ok (.aload_n 0, 1) := by decide +kernel
theorem dX4_nightsByLot_106 : decode cX4_nightsByLot 106 = .ok (.getfield 18, 3) := by decide +kernel
theorem dX4_nightsByLot_109 : decode cX4_nightsByLot 109 = .ok (.iconst 4, 1) := by decide +kernel
theorem dX4_nightsByLot_110 : decode cX4_nightsByLot 110 = .ok (.invokevirtual 67, 3) := by decide +kernel
theorem dX4_nightsByLot_113 : decode cX4_nightsByLot 113 = .ok (.iload 5, 2) := by decide +kernel
theorem dX4_nightsByLot_115 : decode cX4_nightsByLot 115 = .ok (.iload_n 3, 1) := by decide +kernel
theorem dX4_nightsByLot_116 : decode cX4_nightsByLot 116 = .ok (.ifCond .eq 13, 3) := by decide +kernel
theorem dX4_nightsByLot_119 : decode cX4_nightsByLot 119 = .ok (.aload_n 0, 1) := by decide +kernel
theorem dX4_nightsByLot_120 : decode cX4_nightsByLot 120 = .ok (.invokevirtual 74, 3) := by decide +kernel
theorem dX4_nightsByLot_123 : decode cX4_nightsByLot 123 = .ok (.invokestatic 59, 3) := by decide +kernel
theorem dX4_nightsByLot_126 : decode cX4_nightsByLot 126 = .ok (.goto 10, 3) := by decide +kernel
theorem dX4_nightsByLot_129 : decode cX4_nightsByLot 129 = .ok (.aload_n 0, 1) := by decide +kernel
theorem dX4_nightsByLot_130 : decode cX4_nightsByLot 130 = .ok (.getfield 18, 3) := by decide +kernel
theorem dX4_nightsByLot_133 : decode cX4_nightsByLot 133 = .ok (.invokevirtual 158, 3) := by decide +kernel
theorem dX4_nightsByLot_136 : decode cX4_nightsByLot 136 = .ok (.iadd, 1) := by decide +kernel
theorem dX4_nightsByLot_137 : decode cX4_nightsByLot 137 = .ok (.istore 5, 2) := by decide +kernel
theorem dX4_nightsByLot_139 : decode cX4_nightsByLot 139 = .ok (.iinc 6 1, 3) := by decide +kernel
theorem dX4_nightsByLot_142 : decode cX4_nightsByLot 142 = .ok (.goto (-133), 3) := by decide +kernel
theorem dX4_nightsByLot_145 : decode cX4_nightsByLot 145 = .ok (.iload 5, 2) := by decide +kernel
theorem dX4_nightsByLot_147 : decode cX4_nightsByLot 147 = .ok (.ireturn, 1) := by decide +kernel
theorem dX4_nextSeed_0 : decode cX4_nextSeed 0 = .ok (.iload_n 0, 1) := by decide +kernel
theorem dX4_nextSeed_1 : decode cX4_nextSeed 1 = .ok (.ldc 196, 2) := by decide +kernel
theorem dX4_nextSeed_3 : decode cX4_nextSeed 3 = .ok (.imul, 1) := by decide +kernel
theorem dX4_nextSeed_4 : decode cX4_nextSeed 4 = .ok (.ldc 197, 2) := by decide +kernel
theorem dX4_nextSeed_6 : decode cX4_nextSeed 6 = .ok (.iadd, 1) := by decide +kernel
theorem dX4_nextSeed_7 : decode cX4_nextSeed 7 = .ok (.ireturn, 1) := by decide +kernel
theorem dX4_drawn_0 : decode cX4_drawn 0 = .ok (.iload_n 1, 1) := by decide +kernel
theorem dX4_drawn_1 : decode cX4_drawn 1 = .ok (.ifCond .le 16, 3) := by decide +kernel
theorem dX4_drawn_4 : decode cX4_drawn 4 = .ok (.iload_n 0, 1) := by decide +kernel
theorem dX4_drawn_5 : decode cX4_drawn 5 = .ok (.ldc 198, 2) := by decide +kernel
theorem dX4_drawn_7 : decode cX4_drawn 7 = .ok (.iand, 1) := by decide +kernel
theorem dX4_drawn_8 : decode cX4_drawn 8 = .ok (.sipush 256, 3) := by decide +kernel
theorem dX4_drawn_11 : decode cX4_drawn 11 = .ok (.idiv, 1) := by decide +kernel
theorem dX4_drawn_12 : decode cX4_drawn 12 = .ok (.iload_n 1, 1) := by decide +kernel
theorem dX4_drawn_13 : decode cX4_drawn 13 = .ok (.irem, 1) := by decide +kernel
theorem dX4_drawn_14 : decode cX4_drawn 14 = .ok (.goto 4, 3) := by decide +kernel
theorem dX4_drawn_17 : decode cX4_drawn 17 = .ok (.iconst 0, 1) := by decide +kernel
theorem dX4_drawn_18 : decode cX4_drawn 18 = .ok (.ireturn, 1) := by decide +kernel
theorem dX5_init_0 : decode cX5_init 0 = .ok (.aload_n 0, 1) := by decide +kernel
theorem dX5_init_1 : decode cX5_init 1 = .ok (.invokespecial 1, 3) := by decide +kernel
theorem dX5_init_4 : decode cX5_init 4 = .ok (.aload_n 0, 1) := by decide +kernel
theorem dX5_init_5 : decode cX5_init 5 = .ok (.new 7, 3) := by decide +kernel
theorem dX5_init_8 : decode cX5_init 8 = .ok (.dup, 1) := by decide +kernel
theorem dX5_init_9 : decode cX5_init 9 = .ok (.invokespecial 9, 3) := by decide +kernel
theorem dX5_init_12 : decode cX5_init 12 = .ok (.putfield 10, 3) := by decide +kernel
theorem dX5_init_15 : decode cX5_init 15 = .ok (.aload_n 0, 1) := by decide +kernel
theorem dX5_init_16 : decode cX5_init 16 = .ok (.aload_n 0, 1) := by decide +kernel
theorem dX5_init_17 : decode cX5_init 17 = .ok (.getfield 10, 3) := by decide +kernel
theorem dX5_init_20 : decode cX5_init 20 = .ok (.getfield 16, 3) := by decide +kernel
theorem dX5_init_23 : decode cX5_init 23 = .ok (.putfield 20, 3) := by decide +kernel
theorem dX5_init_26 : decode cX5_init 26 = .ok (.aload_n 0, 1) := by decide +kernel
theorem dX5_init_27 : decode cX5_init 27 = .ok (.new 21, 3) := by decide +kernel
theorem dX5_init_30 : decode cX5_init 30 = .ok (.dup, 1) := by decide +kernel
theorem dX5_init_31 : decode cX5_init 31 = .ok (.invokespecial 23, 3) := by decide +kernel
theorem dX5_init_34 : decode cX5_init 34 = .ok (.putfield 24, 3) := by decide +kernel
theorem dX5_init_37 : decode cX5_init 37 = .ok (.aload_n 0, 1) := by decide +kernel
theorem dX5_init_38 : decode cX5_init 38 = .ok (.new 21, 3) := by decide +kernel
theorem dX5_init_41 : decode cX5_init 41 = .ok (.dup, 1) := by decide +kernel
theorem dX5_init_42 : decode cX5_init 42 = .ok (.invokespecial 23, 3) := by decide +kernel
theorem dX5_init_45 : decode cX5_init 45 = .ok (.putfield 27, 3) := by decide +kernel
theorem dX5_init_48 : decode cX5_init 48 = .ok (.aload_n 0, 1) := by decide +kernel
theorem dX5_init_49 : decode cX5_init 49 = .ok (.new 30, 3) := by decide +kernel
theorem dX5_init_52 : decode cX5_init 52 = .ok (.dup, 1) := by decide +kernel
theorem dX5_init_53 : decode cX5_init 53 = .ok (.invokespecial 32, 3) := by decide +kernel
theorem dX5_init_56 : decode cX5_init 56 = .ok (.putfield 33, 3) := by decide +kernel
theorem dX5_init_59 : decode cX5_init 59 = .ok (.aload_n 0, 1) := by decide +kernel
theorem dX5_init_60 : decode cX5_init 60 = .ok (.bipush 16, 2) := by decide +kernel
theorem dX5_init_62 : decode cX5_init 62 = .ok (.newarray .int, 2) := by decide +kernel
theorem dX5_init_64 : decode cX5_init 64 = .ok (.putfield 37, 3) := by decide +kernel
theorem dX5_init_67 : decode cX5_init 67 = .ok (.aload_n 0, 1) := by decide +kernel
theorem dX5_init_68 : decode cX5_init 68 = .ok (.bipush 7, 2) := by decide +kernel
theorem dX5_init_70 : decode cX5_init 70 = .ok (.newarray .int, 2) := by decide +kernel
theorem dX5_init_72 : decode cX5_init 72 = .ok (.putfield 41, 3) := by decide +kernel
theorem dX5_init_75 : decode cX5_init 75 = .ok (.return_, 1) := by decide +kernel
theorem dX5_letter_0 : decode cX5_letter 0 = .ok (.iload_n 1, 1) := by decide +kernel
theorem dX5_letter_1 : decode cX5_letter 1 = .ok (.ifCond .ge 10, 3) := by decide +kernel
theorem dX5_letter_4 : decode cX5_letter 4 = .ok (.aload_n 0, 1) := by decide +kernel
theorem dX5_letter_5 : decode cX5_letter 5 = .ok (.bipush (-4), 2) := by decide +kernel
theorem dX5_letter_7 : decode cX5_letter 7 = .ok (.invokevirtual 44, 3) := by decide +kernel
theorem dX5_letter_10 : decode cX5_letter 10 = .ok (.ireturn, 1) := by decide +kernel
theorem dX5_letter_11 : decode cX5_letter 11 = .ok (.iload_n 1, 1) := by decide +kernel
theorem dX5_letter_12 : decode cX5_letter 12 = .ok (.sipush 255, 3) := by decide +kernel
theorem dX5_letter_15 : decode cX5_letter 15 = .ok (.if_icmp .gt 13, 3) := by decide +kernel
theorem dX5_letter_18 : decode cX5_letter 18 = .ok (.aload_n 0, 1) := by decide +kernel
theorem dX5_letter_19 : decode cX5_letter 19 = .ok (.getfield 33, 3) := by decide +kernel
theorem dX5_letter_22 : decode cX5_letter 22 = .ok (.invokevirtual 48, 3) := by decide +kernel
theorem dX5_letter_25 : decode cX5_letter 25 = .ok (.ifCond .eq 10, 3) := by decide +kernel
theorem dX5_letter_28 : decode cX5_letter 28 = .ok (.aload_n 0, 1) := by decide +kernel
theorem dX5_letter_29 : decode cX5_letter 29 = .ok (.bipush (-6), 2) := by decide +kernel
theorem dX5_letter_31 : decode cX5_letter 31 = .ok (.invokevirtual 44, 3) := by decide +kernel
theorem dX5_letter_34 : decode cX5_letter 34 = .ok (.ireturn, 1) := by decide +kernel
theorem dX5_letter_35 : decode cX5_letter 35 = .ok (.aload_n 0, 1) := by decide +kernel
theorem dX5_letter_36 : decode cX5_letter 36 = .ok (.getfield 33, 3) := by decide +kernel
theorem dX5_letter_39 : decode cX5_letter 39 = .ok (.iload_n 1, 1) := by decide +kernel
theorem dX5_letter_40 : decode cX5_letter 40 = .ok (.invokevirtual 52, 3) := by decide +kernel
theorem dX5_letter_43 : decode cX5_letter 43 = .ok (.ireturn, 1) := by decide +kernel
theorem dX5_land_0 : decode cX5_land 0 = .ok (.aload_n 0, 1) := by decide +kernel
theorem dX5_land_1 : decode cX5_land 1 = .ok (.getfield 33, 3) := by decide +kernel
theorem dX5_land_4 : decode cX5_land 4 = .ok (.invokevirtual 55, 3) := by decide +kernel
theorem dX5_land_7 : decode cX5_land 7 = .ok (.istore_n 1, 1) := by decide +kernel
theorem dX5_land_8 : decode cX5_land 8 = .ok (.aload_n 0, 1) := by decide +kernel
theorem dX5_land_9 : decode cX5_land 9 = .ok (.getfield 24, 3) := by decide +kernel
theorem dX5_land_12 : decode cX5_land 12 = .ok (.aload_n 0, 1) := by decide +kernel
theorem dX5_land_13 : decode cX5_land 13 = .ok (.getfield 20, 3) := by decide +kernel
theorem dX5_land_16 : decode cX5_land 16 = .ok (.invokevirtual 59, 3) := by decide +kernel
theorem dX5_land_19 : decode cX5_land 19 = .ok (.iload_n 1, 1) := by decide +kernel
theorem dX5_land_20 : decode cX5_land 20 = .ok (.ifCond .ge 17, 3) := by decide +kernel
theorem dX5_land_23 : decode cX5_land 23 = .ok (.aload_n 0, 1) := by decide +kernel
theorem dX5_land_24 : decode cX5_land 24 = .ok (.getfield 33, 3) := by decide +kernel
theorem dX5_land_27 : decode cX5_land 27 = .ok (.aload_n 0, 1) := by decide +kernel
theorem dX5_land_28 : decode cX5_land 28 = .ok (.getfield 24, 3) := by decide +kernel
theorem dX5_land_31 : decode cX5_land 31 = .ok (.invokevirtual 63, 3) := by decide +kernel
theorem dX5_land_34 : decode cX5_land 34 = .ok (.goto 4, 3) := by decide +kernel
theorem dX5_land_37 : decode cX5_land 37 = .ok (.iconst (-1), 1) := by decide +kernel
theorem dX5_land_38 : decode cX5_land 38 = .ok (.istore_n 2, 1) := by decide +kernel
theorem dX5_land_39 : decode cX5_land 39 = .ok (.aload_n 0, 1) := by decide +kernel
theorem dX5_land_40 : decode cX5_land 40 = .ok (.getfield 33, 3) := by decide +kernel
theorem dX5_land_43 : decode cX5_land 43 = .ok (.getfield 67, 3) := by decide +kernel
theorem dX5_land_46 : decode cX5_land 46 = .ok (.istore_n 3, 1) := by decide +kernel
theorem dX5_land_47 : decode cX5_land 47 = .ok (.aload_n 0, 1) := by decide +kernel
theorem dX5_land_48 : decode cX5_land 48 = .ok (.getfield 33, 3) := by decide +kernel
theorem dX5_land_51 : decode cX5_land 51 = .ok (.invokevirtual 71, 3) := by decide +kernel
theorem dX5_land_54 : decode cX5_land 54 = .ok (.iload_n 1, 1) := by decide +kernel
theorem dX5_land_55 : decode cX5_land 55 = .ok (.ifCond .lt 9, 3) := by decide +kernel
theorem dX5_land_58 : decode cX5_land 58 = .ok (.sipush (-1000), 3) := by decide +kernel
theorem dX5_land_61 : decode cX5_land 61 = .ok (.iload_n 1, 1) := by decide +kernel
theorem dX5_land_62 : decode cX5_land 62 = .ok (.isub, 1) := by decide +kernel
theorem dX5_land_63 : decode cX5_land 63 = .ok (.ireturn, 1) := by decide +kernel
theorem dX5_land_64 : decode cX5_land 64 = .ok (.iload_n 2, 1) := by decide +kernel
theorem dX5_land_65 : decode cX5_land 65 = .ok (.ifCond .lt 9, 3) := by decide +kernel
theorem dX5_land_68 : decode cX5_land 68 = .ok (.sipush (-2000), 3) := by decide +kernel
theorem dX5_land_71 : decode cX5_land 71 = .ok (.iload_n 2, 1) := by decide +kernel
theorem dX5_land_72 : decode cX5_land 72 = .ok (.isub, 1) := by decide +kernel
theorem dX5_land_73 : decode cX5_land 73 = .ok (.ireturn, 1) := by decide +kernel
theorem dX5_land_74 : decode cX5_land 74 = .ok (.aload_n 0, 1) := by decide +kernel
theorem dX5_land_75 : decode cX5_land 75 = .ok (.getfield 20, 3) := by decide +kernel
theorem dX5_land_78 : decode cX5_land 78 = .ok (.aload_n 0, 1) := by decide +kernel
theorem dX5_land_79 : decode cX5_land 79 = .ok (.getfield 24, 3) := by decide +kernel
theorem dX5_land_82 : decode cX5_land 82 = .ok (.invokevirtual 59, 3) := by decide +kernel
theorem dX5_land_85 : decode cX5_land 85 = .ok (.iload_n 3, 1) := by decide +kernel
theorem dX5_land_86 : decode cX5_land 86 = .ok (.ireturn, 1) := by decide +kernel
theorem dX5_house_0 : decode cX5_house 0 = .ok (.aload_n 0, 1) := by decide +kernel
theorem dX5_house_1 : decode cX5_house 1 = .ok (.getfield 20, 3) := by decide +kernel
theorem dX5_house_4 : decode cX5_house 4 = .ok (.iload_n 1, 1) := by decide +kernel
theorem dX5_house_5 : decode cX5_house 5 = .ok (.invokevirtual 74, 3) := by decide +kernel
theorem dX5_house_8 : decode cX5_house 8 = .ok (.ifCond .ne 9, 3) := by decide +kernel
theorem dX5_house_11 : decode cX5_house 11 = .ok (.aload_n 0, 1) := by decide +kernel
theorem dX5_house_12 : decode cX5_house 12 = .ok (.iconst (-1), 1) := by decide +kernel
theorem dX5_house_13 : decode cX5_house 13 = .ok (.invokevirtual 44, 3) := by decide +kernel
theorem dX5_house_16 : decode cX5_house 16 = .ok (.ireturn, 1) := by decide +kernel
theorem dX5_house_17 : decode cX5_house 17 = .ok (.iload_n 2, 1) := by decide +kernel
theorem dX5_house_18 : decode cX5_house 18 = .ok (.tableswitch 138 0 7 #[46, 56, 66, 76, 86, 103, 120, 129], 46) := by decide +kernel
theorem dX5_house_64 : decode cX5_house 64 = .ok (.aload_n 0, 1) := by decide +kernel
theorem dX5_house_65 : decode cX5_house 65 = .ok (.getfield 20, 3) := by decide +kernel
theorem dX5_house_68 : decode cX5_house 68 = .ok (.getfield 78, 3) := by decide +kernel
theorem dX5_house_71 : decode cX5_house 71 = .ok (.iload_n 1, 1) := by decide +kernel
theorem dX5_house_72 : decode cX5_house 72 = .ok (.iaload, 1) := by decide +kernel
theorem dX5_house_73 : decode cX5_house 73 = .ok (.ireturn, 1) := by decide +kernel
theorem dX5_house_74 : decode cX5_house 74 = .ok (.aload_n 0, 1) := by decide +kernel
theorem dX5_house_75 : decode cX5_house 75 = .ok (.getfield 20, 3) := by decide +kernel
theorem dX5_house_78 : decode cX5_house 78 = .ok (.getfield 81, 3) := by decide +kernel
theorem dX5_house_81 : decode cX5_house 81 = .ok (.iload_n 1, 1) := by decide +kernel
theorem dX5_house_82 : decode cX5_house 82 = .ok (.iaload, 1) := by decide +kernel
theorem dX5_house_83 : decode cX5_house 83 = .ok (.ireturn, 1) := by decide +kernel
theorem dX5_house_84 : decode cX5_house 84 = .ok (.aload_n 0, 1) := by decide +kernel
theorem dX5_house_85 : decode cX5_house 85 = .ok (.getfield 20, 3) := by decide +kernel
theorem dX5_house_88 : decode cX5_house 88 = .ok (.getfield 84, 3) := by decide +kernel
theorem dX5_house_91 : decode cX5_house 91 = .ok (.iload_n 1, 1) := by decide +kernel
theorem dX5_house_92 : decode cX5_house 92 = .ok (.iaload, 1) := by decide +kernel
theorem dX5_house_93 : decode cX5_house 93 = .ok (.ireturn, 1) := by decide +kernel
theorem dX5_house_94 : decode cX5_house 94 = .ok (.aload_n 0, 1) := by decide +kernel
theorem dX5_house_95 : decode cX5_house 95 = .ok (.getfield 20, 3) := by decide +kernel
theorem dX5_house_98 : decode cX5_house 98 = .ok (.getfield 87, 3) := by decide +kernel
theorem dX5_house_101 : decode cX5_house 101 = .ok (.iload_n 1, 1) := by decide +kernel
theorem dX5_house_102 : decode cX5_house 102 = .ok (.iaload, 1) := by decide +kernel
theorem dX5_house_103 : decode cX5_house 103 = .ok (.ireturn, 1) := by decide +kernel
theorem dX5_house_104 : decode cX5_house 104 = .ok (.aload_n 0, 1) := by decide +kernel
theorem dX5_house_105 : decode cX5_house 105 = .ok (.getfield 20, 3) := by decide +kernel
theorem dX5_house_108 : decode cX5_house 108 = .ok (.iload_n 1, 1) := by decide +kernel
theorem dX5_house_109 : decode cX5_house 109 = .ok (.invokevirtual 90, 3) := by decide +kernel
theorem dX5_house_112 : decode cX5_house 112 = .ok (.ifCond .eq 7, 3) := by decide +kernel
theorem dX5_house_115 : decode cX5_house 115 = .ok (.iconst 1, 1) := by decide +kernel
theorem dX5_house_116 : decode cX5_house 116 = .ok (.goto 4, 3) := by decide +kernel
theorem dX5_house_119 : decode cX5_house 119 = .ok (.iconst 0, 1) := by decide +kernel
theorem dX5_house_120 : decode cX5_house 120 = .ok (.ireturn, 1) := by decide +kernel
theorem dX5_house_121 : decode cX5_house 121 = .ok (.aload_n 0, 1) := by decide +kernel
theorem dX5_house_122 : decode cX5_house 122 = .ok (.getfield 20, 3) := by decide +kernel
theorem dX5_house_125 : decode cX5_house 125 = .ok (.iload_n 1, 1) := by decide +kernel
theorem dX5_house_126 : decode cX5_house 126 = .ok (.invokevirtual 93, 3) := by decide +kernel
theorem dX5_house_129 : decode cX5_house 129 = .ok (.ifCond .eq 7, 3) := by decide +kernel
theorem dX5_house_132 : decode cX5_house 132 = .ok (.iconst 1, 1) := by decide +kernel
theorem dX5_house_133 : decode cX5_house 133 = .ok (.goto 4, 3) := by decide +kernel
theorem dX5_house_136 : decode cX5_house 136 = .ok (.iconst 0, 1) := by decide +kernel
theorem dX5_house_137 : decode cX5_house 137 = .ok (.ireturn, 1) := by decide +kernel
theorem dX5_house_138 : decode cX5_house 138 = .ok (.aload_n 0, 1) := by decide +kernel
theorem dX5_house_139 : decode cX5_house 139 = .ok (.getfield 20, 3) := by decide +kernel
theorem dX5_house_142 : decode cX5_house 142 = .ok (.iload_n 1, 1) := by decide +kernel
theorem dX5_house_143 : decode cX5_house 143 = .ok (.invokevirtual 96, 3) := by decide +kernel
theorem dX5_house_146 : decode cX5_house 146 = .ok (.ireturn, 1) := by decide +kernel
theorem dX5_house_147 : decode cX5_house 147 = .ok (.aload_n 0, 1) := by decide +kernel
theorem dX5_house_148 : decode cX5_house 148 = .ok (.getfield 20, 3) := by decide +kernel
theorem dX5_house_151 : decode cX5_house 151 = .ok (.iload_n 1, 1) := by decide +kernel
theorem dX5_house_152 : decode cX5_house 152 = .ok (.invokevirtual 99, 3) := by decide +kernel
theorem dX5_house_155 : decode cX5_house 155 = .ok (.ireturn, 1) := by decide +kernel
theorem dX5_house_156 : decode cX5_house 156 = .ok (.aload_n 0, 1) := by decide +kernel
theorem dX5_house_157 : decode cX5_house 157 = .ok (.bipush (-2), 2) := by decide +kernel
theorem dX5_house_159 : decode cX5_house 159 = .ok (.invokevirtual 44, 3) := by decide +kernel
theorem dX5_house_162 : decode cX5_house 162 = .ok (.ireturn, 1) := by decide +kernel
theorem dX5_height_0 : decode cX5_height 0 = .ok (.iload_n 1, 1) := by decide +kernel
theorem dX5_height_1 : decode cX5_height 1 = .ok (.invokestatic 102, 3) := by decide +kernel
theorem dX5_height_4 : decode cX5_height 4 = .ok (.ifCond .eq 15, 3) := by decide +kernel
theorem dX5_height_7 : decode cX5_height 7 = .ok (.aload_n 0, 1) := by decide +kernel
theorem dX5_height_8 : decode cX5_height 8 = .ok (.getfield 20, 3) := by decide +kernel
theorem dX5_height_11 : decode cX5_height 11 = .ok (.getfield 105, 3) := by decide +kernel
theorem dX5_height_14 : decode cX5_height 14 = .ok (.iload_n 1, 1) := by decide +kernel
theorem dX5_height_15 : decode cX5_height 15 = .ok (.iaload, 1) := by decide +kernel
theorem dX5_height_16 : decode cX5_height 16 = .ok (.goto 8, 3) := by decide +kernel
theorem dX5_height_19 : decode cX5_height 19 = .ok (.aload_n 0, 1) := by decide +kernel
theorem dX5_height_20 : decode cX5_height 20 = .ok (.iconst (-1), 1) := by decide +kernel
theorem dX5_height_21 : decode cX5_height 21 = .ok (.invokevirtual 44, 3) := by decide +kernel
theorem dX5_height_24 : decode cX5_height 24 = .ok (.ireturn, 1) := by decide +kernel
theorem dX5_heaps_0 : decode cX5_heaps 0 = .ok (.iload_n 1, 1) := by decide +kernel
theorem dX5_heaps_1 : decode cX5_heaps 1 = .ok (.invokestatic 102, 3) := by decide +kernel
theorem dX5_heaps_4 : decode cX5_heaps 4 = .ok (.ifCond .ne 9, 3) := by decide +kernel
theorem dX5_heaps_7 : decode cX5_heaps 7 = .ok (.aload_n 0, 1) := by decide +kernel
theorem dX5_heaps_8 : decode cX5_heaps 8 = .ok (.iconst (-1), 1) := by decide +kernel
theorem dX5_heaps_9 : decode cX5_heaps 9 = .ok (.invokevirtual 44, 3) := by decide +kernel
theorem dX5_heaps_12 : decode cX5_heaps 12 = .ok (.ireturn, 1) := by decide +kernel
theorem dX5_heaps_13 : decode cX5_heaps 13 = .ok (.iload_n 2, 1) := by decide +kernel
theorem dX5_heaps_14 : decode cX5_heaps 14 = .ok (.iconst 0, 1) := by decide +kernel
theorem dX5_heaps_15 : decode cX5_heaps 15 = .ok (.bipush 9, 2) := by decide +kernel
theorem dX5_heaps_17 : decode cX5_heaps 17 = .ok (.invokestatic 108, 3) := by decide +kernel
theorem dX5_heaps_20 : decode cX5_heaps 20 = .ok (.istore_n 3, 1) := by decide +kernel
theorem dX5_heaps_21 : decode cX5_heaps 21 = .ok (.iload_n 3, 1) := by decide +kernel
theorem dX5_heaps_22 : decode cX5_heaps 22 = .ok (.ifCond .eq 9, 3) := by decide +kernel
theorem dX5_heaps_25 : decode cX5_heaps 25 = .ok (.aload_n 0, 1) := by decide +kernel
theorem dX5_heaps_26 : decode cX5_heaps 26 = .ok (.iload_n 3, 1) := by decide +kernel
theorem dX5_heaps_27 : decode cX5_heaps 27 = .ok (.invokevirtual 44, 3) := by decide +kernel
theorem dX5_heaps_30 : decode cX5_heaps 30 = .ok (.ireturn, 1) := by decide +kernel
theorem dX5_heaps_31 : decode cX5_heaps 31 = .ok (.aload_n 0, 1) := by decide +kernel
theorem dX5_heaps_32 : decode cX5_heaps 32 = .ok (.getfield 20, 3) := by decide +kernel
theorem dX5_heaps_35 : decode cX5_heaps 35 = .ok (.getfield 105, 3) := by decide +kernel
theorem dX5_heaps_38 : decode cX5_heaps 38 = .ok (.iload_n 1, 1) := by decide +kernel
theorem dX5_heaps_39 : decode cX5_heaps 39 = .ok (.iaload, 1) := by decide +kernel
theorem dX5_heaps_40 : decode cX5_heaps 40 = .ok (.istore 4, 2) := by decide +kernel
theorem dX5_heaps_42 : decode cX5_heaps 42 = .ok (.aload_n 0, 1) := by decide +kernel
theorem dX5_heaps_43 : decode cX5_heaps 43 = .ok (.getfield 20, 3) := by decide +kernel
theorem dX5_heaps_46 : decode cX5_heaps 46 = .ok (.iload_n 1, 1) := by decide +kernel
theorem dX5_heaps_47 : decode cX5_heaps 47 = .ok (.iload_n 2, 1) := by decide +kernel
theorem dX5_heaps_48 : decode cX5_heaps 48 = .ok (.invokevirtual 112, 3) := by decide +kernel
theorem dX5_heaps_51 : decode cX5_heaps 51 = .ok (.pop, 1) := by decide +kernel
theorem dX5_heaps_52 : decode cX5_heaps 52 = .ok (.iload 4, 2) := by decide +kernel
theorem dX5_heaps_54 : decode cX5_heaps 54 = .ok (.ireturn, 1) := by decide +kernel
theorem dX5_moves_0 : decode cX5_moves 0 = .ok (.aload_n 0, 1) := by decide +kernel
theorem dX5_moves_1 : decode cX5_moves 1 = .ok (.getfield 20, 3) := by decide +kernel
theorem dX5_moves_4 : decode cX5_moves 4 = .ok (.iload_n 1, 1) := by decide +kernel
theorem dX5_moves_5 : decode cX5_moves 5 = .ok (.invokevirtual 74, 3) := by decide +kernel
theorem dX5_moves_8 : decode cX5_moves 8 = .ok (.ifCond .eq 10, 3) := by decide +kernel
theorem dX5_moves_11 : decode cX5_moves 11 = .ok (.iload_n 2, 1) := by decide +kernel
theorem dX5_moves_12 : decode cX5_moves 12 = .ok (.invokestatic 102, 3) := by decide +kernel
theorem dX5_moves_15 : decode cX5_moves 15 = .ok (.ifCond .ne 9, 3) := by decide +kernel
theorem dX5_moves_18 : decode cX5_moves 18 = .ok (.aload_n 0, 1) := by decide +kernel
theorem dX5_moves_19 : decode cX5_moves 19 = .ok (.iconst (-1), 1) := by decide +kernel
theorem dX5_moves_20 : decode cX5_moves 20 = .ok (.invokevirtual 44, 3) := by decide +kernel
theorem dX5_moves_23 : decode cX5_moves 23 = .ok (.ireturn, 1) := by decide +kernel
theorem dX5_moves_24 : decode cX5_moves 24 = .ok (.aload_n 0, 1) := by decide +kernel
theorem dX5_moves_25 : decode cX5_moves 25 = .ok (.getfield 20, 3) := by decide +kernel
theorem dX5_moves_28 : decode cX5_moves 28 = .ok (.getfield 84, 3) := by decide +kernel
theorem dX5_moves_31 : decode cX5_moves 31 = .ok (.iload_n 1, 1) := by decide +kernel
theorem dX5_moves_32 : decode cX5_moves 32 = .ok (.iaload, 1) := by decide +kernel
theorem dX5_moves_33 : decode cX5_moves 33 = .ok (.istore_n 3, 1) := by decide +kernel
theorem dX5_moves_34 : decode cX5_moves 34 = .ok (.aload_n 0, 1) := by decide +kernel
theorem dX5_moves_35 : decode cX5_moves 35 = .ok (.getfield 20, 3) := by decide +kernel
theorem dX5_moves_38 : decode cX5_moves 38 = .ok (.iload_n 1, 1) := by decide +kernel
theorem dX5_moves_39 : decode cX5_moves 39 = .ok (.iload_n 2, 1) := by decide +kernel
theorem dX5_moves_40 : decode cX5_moves 40 = .ok (.invokevirtual 116, 3) := by decide +kernel
theorem dX5_moves_43 : decode cX5_moves 43 = .ok (.pop, 1) := by decide +kernel
theorem dX5_moves_44 : decode cX5_moves 44 = .ok (.iload_n 3, 1) := by decide +kernel
theorem dX5_moves_45 : decode cX5_moves 45 = .ok (.ireturn, 1) := by decide +kernel
theorem dX5_gives_0 : decode cX5_gives 0 = .ok (.aload_n 0, 1) := by decide +kernel
theorem dX5_gives_1 : decode cX5_gives 1 = .ok (.getfield 20, 3) := by decide +kernel
theorem dX5_gives_4 : decode cX5_gives 4 = .ok (.iload_n 1, 1) := by decide +kernel
theorem dX5_gives_5 : decode cX5_gives 5 = .ok (.invokevirtual 74, 3) := by decide +kernel
theorem dX5_gives_8 : decode cX5_gives 8 = .ok (.ifCond .ne 9, 3) := by decide +kernel
theorem dX5_gives_11 : decode cX5_gives 11 = .ok (.aload_n 0, 1) := by decide +kernel
theorem dX5_gives_12 : decode cX5_gives 12 = .ok (.iconst (-1), 1) := by decide +kernel
theorem dX5_gives_13 : decode cX5_gives 13 = .ok (.invokevirtual 44, 3) := by decide +kernel
theorem dX5_gives_16 : decode cX5_gives 16 = .ok (.ireturn, 1) := by decide +kernel
theorem dX5_gives_17 : decode cX5_gives 17 = .ok (.iload_n 2, 1) := by decide +kernel
theorem dX5_gives_18 : decode cX5_gives 18 = .ok (.iconst 0, 1) := by decide +kernel
theorem dX5_gives_19 : decode cX5_gives 19 = .ok (.bipush 99, 2) := by decide +kernel
theorem dX5_gives_21 : decode cX5_gives 21 = .ok (.invokestatic 108, 3) := by decide +kernel
theorem dX5_gives_24 : decode cX5_gives 24 = .ok (.istore_n 3, 1) := by decide +kernel
theorem dX5_gives_25 : decode cX5_gives 25 = .ok (.iload_n 3, 1) := by decide +kernel
theorem dX5_gives_26 : decode cX5_gives 26 = .ok (.ifCond .eq 9, 3) := by decide +kernel
theorem dX5_gives_29 : decode cX5_gives 29 = .ok (.aload_n 0, 1) := by decide +kernel
theorem dX5_gives_30 : decode cX5_gives 30 = .ok (.iload_n 3, 1) := by decide +kernel
theorem dX5_gives_31 : decode cX5_gives 31 = .ok (.invokevirtual 44, 3) := by decide +kernel
theorem dX5_gives_34 : decode cX5_gives 34 = .ok (.ireturn, 1) := by decide +kernel
theorem dX5_gives_35 : decode cX5_gives 35 = .ok (.aload_n 0, 1) := by decide +kernel
theorem dX5_gives_36 : decode cX5_gives 36 = .ok (.getfield 20, 3) := by decide +kernel
theorem dX5_gives_39 : decode cX5_gives 39 = .ok (.iload_n 1, 1) := by decide +kernel
theorem dX5_gives_40 : decode cX5_gives 40 = .ok (.iload_n 2, 1) := by decide +kernel
theorem dX5_gives_41 : decode cX5_gives 41 = .ok (.invokevirtual 119, 3) := by decide +kernel
theorem dX5_gives_44 : decode cX5_gives 44 = .ok (.pop, 1) := by decide +kernel
theorem dX5_gives_45 : decode cX5_gives 45 = .ok (.aload_n 0, 1) := by decide +kernel
theorem dX5_gives_46 : decode cX5_gives 46 = .ok (.getfield 20, 3) := by decide +kernel
theorem dX5_gives_49 : decode cX5_gives 49 = .ok (.getfield 87, 3) := by decide +kernel
theorem dX5_gives_52 : decode cX5_gives 52 = .ok (.iload_n 1, 1) := by decide +kernel
theorem dX5_gives_53 : decode cX5_gives 53 = .ok (.iaload, 1) := by decide +kernel
theorem dX5_gives_54 : decode cX5_gives 54 = .ok (.ireturn, 1) := by decide +kernel
theorem dX5_calls_0 : decode cX5_calls 0 = .ok (.aload_n 0, 1) := by decide +kernel
theorem dX5_calls_1 : decode cX5_calls 1 = .ok (.getfield 20, 3) := by decide +kernel
theorem dX5_calls_4 : decode cX5_calls 4 = .ok (.iload_n 1, 1) := by decide +kernel
theorem dX5_calls_5 : decode cX5_calls 5 = .ok (.invokevirtual 74, 3) := by decide +kernel
theorem dX5_calls_8 : decode cX5_calls 8 = .ok (.ifCond .ne 9, 3) := by decide +kernel
theorem dX5_calls_11 : decode cX5_calls 11 = .ok (.aload_n 0, 1) := by decide +kernel
theorem dX5_calls_12 : decode cX5_calls 12 = .ok (.iconst (-1), 1) := by decide +kernel
theorem dX5_calls_13 : decode cX5_calls 13 = .ok (.invokevirtual 44, 3) := by decide +kernel
theorem dX5_calls_16 : decode cX5_calls 16 = .ok (.ireturn, 1) := by decide +kernel
theorem dX5_calls_17 : decode cX5_calls 17 = .ok (.aload_n 0, 1) := by decide +kernel
theorem dX5_calls_18 : decode cX5_calls 18 = .ok (.getfield 20, 3) := by decide +kernel
theorem dX5_calls_21 : decode cX5_calls 21 = .ok (.iload_n 1, 1) := by decide +kernel
theorem dX5_calls_22 : decode cX5_calls 22 = .ok (.invokevirtual 122, 3) := by decide +kernel
theorem dX5_calls_25 : decode cX5_calls 25 = .ok (.pop, 1) := by decide +kernel
theorem dX5_calls_26 : decode cX5_calls 26 = .ok (.aload_n 0, 1) := by decide +kernel
theorem dX5_calls_27 : decode cX5_calls 27 = .ok (.getfield 20, 3) := by decide +kernel
theorem dX5_calls_30 : decode cX5_calls 30 = .ok (.iload_n 1, 1) := by decide +kernel
theorem dX5_calls_31 : decode cX5_calls 31 = .ok (.invokevirtual 90, 3) := by decide +kernel
theorem dX5_calls_34 : decode cX5_calls 34 = .ok (.ifCond .eq 7, 3) := by decide +kernel
theorem dX5_calls_37 : decode cX5_calls 37 = .ok (.iconst 1, 1) := by decide +kernel
theorem dX5_calls_38 : decode cX5_calls 38 = .ok (.goto 4, 3) := by decide +kernel
theorem dX5_calls_41 : decode cX5_calls 41 = .ok (.iconst 0, 1) := by decide +kernel
theorem dX5_calls_42 : decode cX5_calls 42 = .ok (.ireturn, 1) := by decide +kernel
theorem dX5_fog_0 : decode cX5_fog 0 = .ok (.iload_n 1, 1) := by decide +kernel
theorem dX5_fog_1 : decode cX5_fog 1 = .ok (.iconst 0, 1) := by decide +kernel
theorem dX5_fog_2 : decode cX5_fog 2 = .ok (.bipush 9, 2) := by decide +kernel
theorem dX5_fog_4 : decode cX5_fog 4 = .ok (.invokestatic 108, 3) := by decide +kernel
theorem dX5_fog_7 : decode cX5_fog 7 = .ok (.istore_n 2, 1) := by decide +kernel
theorem dX5_fog_8 : decode cX5_fog 8 = .ok (.iload_n 2, 1) := by decide +kernel
theorem dX5_fog_9 : decode cX5_fog 9 = .ok (.ifCond .eq 9, 3) := by decide +kernel
theorem dX5_fog_12 : decode cX5_fog 12 = .ok (.aload_n 0, 1) := by decide +kernel
theorem dX5_fog_13 : decode cX5_fog 13 = .ok (.iload_n 2, 1) := by decide +kernel
theorem dX5_fog_14 : decode cX5_fog 14 = .ok (.invokevirtual 44, 3) := by decide +kernel
theorem dX5_fog_17 : decode cX5_fog 17 = .ok (.ireturn, 1) := by decide +kernel
theorem dX5_fog_18 : decode cX5_fog 18 = .ok (.aload_n 0, 1) := by decide +kernel
theorem dX5_fog_19 : decode cX5_fog 19 = .ok (.getfield 20, 3) := by decide +kernel
theorem dX5_fog_22 : decode cX5_fog 22 = .ok (.getfield 125, 3) := by decide +kernel
theorem dX5_fog_25 : decode cX5_fog 25 = .ok (.istore_n 3, 1) := by decide +kernel
theorem dX5_fog_26 : decode cX5_fog 26 = .ok (.aload_n 0, 1) := by decide +kernel
theorem dX5_fog_27 : decode cX5_fog 27 = .ok (.getfield 20, 3) := by decide +kernel
theorem dX5_fog_30 : decode cX5_fog 30 = .ok (.iload_n 1, 1) := by decide +kernel
theorem dX5_fog_31 : decode cX5_fog 31 = .ok (.putfield 125, 3) := by decide +kernel
theorem dX5_fog_34 : decode cX5_fog 34 = .ok (.iload_n 3, 1) := by decide +kernel
theorem dX5_fog_35 : decode cX5_fog 35 = .ok (.ireturn, 1) := by decide +kernel
theorem dX5_turn_0 : decode cX5_turn 0 = .ok (.aload_n 0, 1) := by decide +kernel
theorem dX5_turn_1 : decode cX5_turn 1 = .ok (.getfield 20, 3) := by decide +kernel
theorem dX5_turn_4 : decode cX5_turn 4 = .ok (.iload_n 1, 1) := by decide +kernel
theorem dX5_turn_5 : decode cX5_turn 5 = .ok (.invokevirtual 74, 3) := by decide +kernel
theorem dX5_turn_8 : decode cX5_turn 8 = .ok (.ifCond .ne 9, 3) := by decide +kernel
theorem dX5_turn_11 : decode cX5_turn 11 = .ok (.aload_n 0, 1) := by decide +kernel
theorem dX5_turn_12 : decode cX5_turn 12 = .ok (.iconst (-1), 1) := by decide +kernel
theorem dX5_turn_13 : decode cX5_turn 13 = .ok (.invokevirtual 44, 3) := by decide +kernel
theorem dX5_turn_16 : decode cX5_turn 16 = .ok (.ireturn, 1) := by decide +kernel
theorem dX5_turn_17 : decode cX5_turn 17 = .ok (.iload_n 2, 1) := by decide +kernel
theorem dX5_turn_18 : decode cX5_turn 18 = .ok (.ifCond .lt 9, 3) := by decide +kernel
theorem dX5_turn_21 : decode cX5_turn 21 = .ok (.iload_n 2, 1) := by decide +kernel
theorem dX5_turn_22 : decode cX5_turn 22 = .ok (.bipush 6, 2) := by decide +kernel
theorem dX5_turn_24 : decode cX5_turn 24 = .ok (.if_icmp .lt 10, 3) := by decide +kernel
theorem dX5_turn_27 : decode cX5_turn 27 = .ok (.aload_n 0, 1) := by decide +kernel
theorem dX5_turn_28 : decode cX5_turn 28 = .ok (.bipush (-2), 2) := by decide +kernel
theorem dX5_turn_30 : decode cX5_turn 30 = .ok (.invokevirtual 44, 3) := by decide +kernel
theorem dX5_turn_33 : decode cX5_turn 33 = .ok (.ireturn, 1) := by decide +kernel
theorem dX5_turn_34 : decode cX5_turn 34 = .ok (.iload_n 3, 1) := by decide +kernel
theorem dX5_turn_35 : decode cX5_turn 35 = .ok (.iconst 0, 1) := by decide +kernel
theorem dX5_turn_36 : decode cX5_turn 36 = .ok (.bipush 9, 2) := by decide +kernel
theorem dX5_turn_38 : decode cX5_turn 38 = .ok (.invokestatic 108, 3) := by decide +kernel
theorem dX5_turn_41 : decode cX5_turn 41 = .ok (.istore 4, 2) := by decide +kernel
theorem dX5_turn_43 : decode cX5_turn 43 = .ok (.iload 4, 2) := by decide +kernel
theorem dX5_turn_45 : decode cX5_turn 45 = .ok (.ifCond .eq 10, 3) := by decide +kernel
theorem dX5_turn_48 : decode cX5_turn 48 = .ok (.aload_n 0, 1) := by decide +kernel
theorem dX5_turn_49 : decode cX5_turn 49 = .ok (.iload 4, 2) := by decide +kernel
theorem dX5_turn_51 : decode cX5_turn 51 = .ok (.invokevirtual 44, 3) := by decide +kernel
theorem dX5_turn_54 : decode cX5_turn 54 = .ok (.ireturn, 1) := by decide +kernel
theorem dX5_turn_55 : decode cX5_turn 55 = .ok (.bipush 10, 2) := by decide +kernel
theorem dX5_turn_57 : decode cX5_turn 57 = .ok (.aload_n 0, 1) := by decide +kernel
theorem dX5_turn_58 : decode cX5_turn 58 = .ok (.getfield 20, 3) := by decide +kernel
theorem dX5_turn_61 : decode cX5_turn 61 = .ok (.getfield 78, 3) := by decide +kernel
theorem dX5_turn_64 : decode cX5_turn 64 = .ok (.iload_n 1, 1) := by decide +kernel
theorem dX5_turn_65 : decode cX5_turn 65 = .ok (.iaload, 1) := by decide +kernel
theorem dX5_turn_66 : decode cX5_turn 66 = .ok (.imul, 1) := by decide +kernel
theorem dX5_turn_67 : decode cX5_turn 67 = .ok (.aload_n 0, 1) := by decide +kernel
theorem dX5_turn_68 : decode cX5_turn 68 = .ok (.getfield 20, 3) := by decide +kernel
theorem dX5_turn_71 : decode cX5_turn 71 = .ok (.getfield 81, 3) := by decide +kernel
theorem dX5_turn_74 : decode cX5_turn 74 = .ok (.iload_n 1, 1) := by decide +kernel
theorem dX5_turn_75 : decode cX5_turn 75 = .ok (.iaload, 1) := by decide +kernel
theorem dX5_turn_76 : decode cX5_turn 76 = .ok (.iadd, 1) := by decide +kernel
theorem dX5_turn_77 : decode cX5_turn 77 = .ok (.istore 5, 2) := by decide +kernel
theorem dX5_turn_79 : decode cX5_turn 79 = .ok (.aload_n 0, 1) := by decide +kernel
theorem dX5_turn_80 : decode cX5_turn 80 = .ok (.getfield 20, 3) := by decide +kernel
theorem dX5_turn_83 : decode cX5_turn 83 = .ok (.getfield 78, 3) := by decide +kernel
theorem dX5_turn_86 : decode cX5_turn 86 = .ok (.iload_n 1, 1) := by decide +kernel
theorem dX5_turn_87 : decode cX5_turn 87 = .ok (.iload_n 2, 1) := by decide +kernel
theorem dX5_turn_88 : decode cX5_turn 88 = .ok (.iastore, 1) := by decide +kernel
theorem dX5_turn_89 : decode cX5_turn 89 = .ok (.aload_n 0, 1) := by decide +kernel
theorem dX5_turn_90 : decode cX5_turn 90 = .ok (.getfield 20, 3) := by decide +kernel
theorem dX5_turn_93 : decode cX5_turn 93 = .ok (.getfield 81, 3) := by decide +kernel
theorem dX5_turn_96 : decode cX5_turn 96 = .ok (.iload_n 1, 1) := by decide +kernel
theorem dX5_turn_97 : decode cX5_turn 97 = .ok (.iload_n 3, 1) := by decide +kernel
theorem dX5_turn_98 : decode cX5_turn 98 = .ok (.iastore, 1) := by decide +kernel
theorem dX5_turn_99 : decode cX5_turn 99 = .ok (.iload 5, 2) := by decide +kernel
theorem dX5_turn_101 : decode cX5_turn 101 = .ok (.ireturn, 1) := by decide +kernel
theorem dX5_nights_0 : decode cX5_nights 0 = .ok (.iload_n 1, 1) := by decide +kernel
theorem dX5_nights_1 : decode cX5_nights 1 = .ok (.iconst 1, 1) := by decide +kernel
theorem dX5_nights_2 : decode cX5_nights 2 = .ok (.bipush 60, 2) := by decide +kernel
theorem dX5_nights_4 : decode cX5_nights 4 = .ok (.invokestatic 108, 3) := by decide +kernel
theorem dX5_nights_7 : decode cX5_nights 7 = .ok (.istore_n 2, 1) := by decide +kernel
theorem dX5_nights_8 : decode cX5_nights 8 = .ok (.iload_n 2, 1) := by decide +kernel
theorem dX5_nights_9 : decode cX5_nights 9 = .ok (.ifCond .eq 9, 3) := by decide +kernel
theorem dX5_nights_12 : decode cX5_nights 12 = .ok (.aload_n 0, 1) := by decide +kernel
theorem dX5_nights_13 : decode cX5_nights 13 = .ok (.iload_n 2, 1) := by decide +kernel
theorem dX5_nights_14 : decode cX5_nights 14 = .ok (.invokevirtual 44, 3) := by decide +kernel
theorem dX5_nights_17 : decode cX5_nights 17 = .ok (.ireturn, 1) := by decide +kernel
theorem dX5_nights_18 : decode cX5_nights 18 = .ok (.aload_n 0, 1) := by decide +kernel
theorem dX5_nights_19 : decode cX5_nights 19 = .ok (.getfield 20, 3) := by decide +kernel
theorem dX5_nights_22 : decode cX5_nights 22 = .ok (.iload_n 1, 1) := by decide +kernel
theorem dX5_nights_23 : decode cX5_nights 23 = .ok (.invokevirtual 128, 3) := by decide +kernel
theorem dX5_nights_26 : decode cX5_nights 26 = .ok (.ifCond .eq 17, 3) := by decide +kernel
theorem dX5_nights_29 : decode cX5_nights 29 = .ok (.aload_n 0, 1) := by decide +kernel
theorem dX5_nights_30 : decode cX5_nights 30 = .ok (.getfield 10, 3) := by decide +kernel
theorem dX5_nights_33 : decode cX5_nights 33 = .ok (.iconst 0, 1) := by decide +kernel
theorem dX5_nights_34 : decode cX5_nights 34 = .ok (.invokevirtual 131, 3) := by decide +kernel
theorem dX5_nights_37 : decode cX5_nights 37 = .ok (.invokestatic 134, 3) := by decide +kernel
theorem dX5_nights_40 : decode cX5_nights 40 = .ok (.goto 9, 3) := by decide +kernel
theorem dX5_nights_43 : decode cX5_nights 43 = .ok (.aload_n 0, 1) := by decide +kernel
theorem dX5_nights_44 : decode cX5_nights 44 = .ok (.bipush (-6), 2) := by decide +kernel
theorem dX5_nights_46 : decode cX5_nights 46 = .ok (.invokevirtual 44, 3) := by decide +kernel
theorem dX5_nights_49 : decode cX5_nights 49 = .ok (.ireturn, 1) := by decide +kernel
theorem dX5_litThen_0 : decode cX5_litThen 0 = .ok (.iload_n 1, 1) := by decide +kernel
theorem dX5_litThen_1 : decode cX5_litThen 1 = .ok (.iconst 0, 1) := by decide +kernel
theorem dX5_litThen_2 : decode cX5_litThen 2 = .ok (.bipush 60, 2) := by decide +kernel
theorem dX5_litThen_4 : decode cX5_litThen 4 = .ok (.invokestatic 108, 3) := by decide +kernel
theorem dX5_litThen_7 : decode cX5_litThen 7 = .ok (.istore_n 2, 1) := by decide +kernel
theorem dX5_litThen_8 : decode cX5_litThen 8 = .ok (.iload_n 2, 1) := by decide +kernel
theorem dX5_litThen_9 : decode cX5_litThen 9 = .ok (.ifCond .eq 11, 3) := by decide +kernel
theorem dX5_litThen_12 : decode cX5_litThen 12 = .ok (.aload_n 0, 1) := by decide +kernel
theorem dX5_litThen_13 : decode cX5_litThen 13 = .ok (.iload_n 2, 1) := by decide +kernel
theorem dX5_litThen_14 : decode cX5_litThen 14 = .ok (.invokevirtual 44, 3) := by decide +kernel
theorem dX5_litThen_17 : decode cX5_litThen 17 = .ok (.goto 11, 3) := by decide +kernel
theorem dX5_litThen_20 : decode cX5_litThen 20 = .ok (.aload_n 0, 1) := by decide +kernel
theorem dX5_litThen_21 : decode cX5_litThen 21 = .ok (.getfield 10, 3) := by decide +kernel
theorem dX5_litThen_24 : decode cX5_litThen 24 = .ok (.iload_n 1, 1) := by decide +kernel
theorem dX5_litThen_25 : decode cX5_litThen 25 = .ok (.invokevirtual 139, 3) := by decide +kernel
theorem dX5_litThen_28 : decode cX5_litThen 28 = .ok (.ireturn, 1) := by decide +kernel
theorem dX5_hangThen_0 : decode cX5_hangThen 0 = .ok (.iload_n 1, 1) := by decide +kernel
theorem dX5_hangThen_1 : decode cX5_hangThen 1 = .ok (.iconst 0, 1) := by decide +kernel
theorem dX5_hangThen_2 : decode cX5_hangThen 2 = .ok (.bipush 60, 2) := by decide +kernel
theorem dX5_hangThen_4 : decode cX5_hangThen 4 = .ok (.invokestatic 108, 3) := by decide +kernel
theorem dX5_hangThen_7 : decode cX5_hangThen 7 = .ok (.istore_n 2, 1) := by decide +kernel
theorem dX5_hangThen_8 : decode cX5_hangThen 8 = .ok (.iload_n 2, 1) := by decide +kernel
theorem dX5_hangThen_9 : decode cX5_hangThen 9 = .ok (.ifCond .eq 11, 3) := by decide +kernel
theorem dX5_hangThen_12 : decode cX5_hangThen 12 = .ok (.aload_n 0, 1) := by decide +kernel
theorem dX5_hangThen_13 : decode cX5_hangThen 13 = .ok (.iload_n 2, 1) := by decide +kernel
theorem dX5_hangThen_14 : decode cX5_hangThen 14 = .ok (.invokevirtual 44, 3) := by decide +kernel
theorem dX5_hangThen_17 : decode cX5_hangThen 17 = .ok (.goto 11, 3) := by decide +kernel
theorem dX5_hangThen_20 : decode cX5_hangThen 20 = .ok (.aload_n 0, 1) := by decide +kernel
theorem dX5_hangThen_21 : decode cX5_hangThen 21 = .ok (.getfield 10, 3) := by decide +kernel
theorem dX5_hangThen_24 : decode cX5_hangThen 24 = .ok (.iload_n 1, 1) := by decide +kernel
theorem dX5_hangThen_25 : decode cX5_hangThen 25 = .ok (.invokevirtual 131, 3) := by decide +kernel
theorem dX5_hangThen_28 : decode cX5_hangThen 28 = .ok (.ireturn, 1) := by decide +kernel
theorem dX5_wicksThen_0 : decode cX5_wicksThen 0 = .ok (.aload_n 0, 1) := by decide +kernel
theorem dX5_wicksThen_1 : decode cX5_wicksThen 1 = .ok (.getfield 20, 3) := by decide +kernel
theorem dX5_wicksThen_4 : decode cX5_wicksThen 4 = .ok (.iload_n 1, 1) := by decide +kernel
theorem dX5_wicksThen_5 : decode cX5_wicksThen 5 = .ok (.invokevirtual 74, 3) := by decide +kernel
theorem dX5_wicksThen_8 : decode cX5_wicksThen 8 = .ok (.ifCond .ne 9, 3) := by decide +kernel
theorem dX5_wicksThen_11 : decode cX5_wicksThen 11 = .ok (.aload_n 0, 1) := by decide +kernel
theorem dX5_wicksThen_12 : decode cX5_wicksThen 12 = .ok (.iconst (-1), 1) := by decide +kernel
theorem dX5_wicksThen_13 : decode cX5_wicksThen 13 = .ok (.invokevirtual 44, 3) := by decide +kernel
theorem dX5_wicksThen_16 : decode cX5_wicksThen 16 = .ok (.ireturn, 1) := by decide +kernel
theorem dX5_wicksThen_17 : decode cX5_wicksThen 17 = .ok (.iload_n 2, 1) := by decide +kernel
theorem dX5_wicksThen_18 : decode cX5_wicksThen 18 = .ok (.iconst 0, 1) := by decide +kernel
theorem dX5_wicksThen_19 : decode cX5_wicksThen 19 = .ok (.bipush 60, 2) := by decide +kernel
theorem dX5_wicksThen_21 : decode cX5_wicksThen 21 = .ok (.invokestatic 108, 3) := by decide +kernel
theorem dX5_wicksThen_24 : decode cX5_wicksThen 24 = .ok (.istore_n 3, 1) := by decide +kernel
theorem dX5_wicksThen_25 : decode cX5_wicksThen 25 = .ok (.iload_n 3, 1) := by decide +kernel
theorem dX5_wicksThen_26 : decode cX5_wicksThen 26 = .ok (.ifCond .eq 11, 3) := by decide +kernel
theorem dX5_wicksThen_29 : decode cX5_wicksThen 29 = .ok (.aload_n 0, 1) := by decide +kernel
theorem dX5_wicksThen_30 : decode cX5_wicksThen 30 = .ok (.iload_n 3, 1) := by decide +kernel
theorem dX5_wicksThen_31 : decode cX5_wicksThen 31 = .ok (.invokevirtual 44, 3) := by decide +kernel
theorem dX5_wicksThen_34 : decode cX5_wicksThen 34 = .ok (.goto 12, 3) := by decide +kernel
theorem dX5_wicksThen_37 : decode cX5_wicksThen 37 = .ok (.aload_n 0, 1) := by decide +kernel
theorem dX5_wicksThen_38 : decode cX5_wicksThen 38 = .ok (.getfield 10, 3) := by decide +kernel
theorem dX5_wicksThen_41 : decode cX5_wicksThen 41 = .ok (.iload_n 1, 1) := by decide +kernel
theorem dX5_wicksThen_42 : decode cX5_wicksThen 42 = .ok (.iload_n 2, 1) := by decide +kernel
theorem dX5_wicksThen_43 : decode cX5_wicksThen 43 = .ok (.invokevirtual 142, 3) := by decide +kernel
theorem dX5_wicksThen_46 : decode cX5_wicksThen 46 = .ok (.ireturn, 1) := by decide +kernel
theorem dX5_dark_0 : decode cX5_dark 0 = .ok (.aload_n 0, 1) := by decide +kernel
theorem dX5_dark_1 : decode cX5_dark 1 = .ok (.getfield 20, 3) := by decide +kernel
theorem dX5_dark_4 : decode cX5_dark 4 = .ok (.iload_n 1, 1) := by decide +kernel
theorem dX5_dark_5 : decode cX5_dark 5 = .ok (.invokevirtual 74, 3) := by decide +kernel
theorem dX5_dark_8 : decode cX5_dark 8 = .ok (.ifCond .eq 14, 3) := by decide +kernel
theorem dX5_dark_11 : decode cX5_dark 11 = .ok (.aload_n 0, 1) := by decide +kernel
theorem dX5_dark_12 : decode cX5_dark 12 = .ok (.getfield 10, 3) := by decide +kernel
theorem dX5_dark_15 : decode cX5_dark 15 = .ok (.iload_n 1, 1) := by decide +kernel
theorem dX5_dark_16 : decode cX5_dark 16 = .ok (.invokevirtual 146, 3) := by decide +kernel
theorem dX5_dark_19 : decode cX5_dark 19 = .ok (.goto 8, 3) := by decide +kernel
theorem dX5_dark_22 : decode cX5_dark 22 = .ok (.aload_n 0, 1) := by decide +kernel
theorem dX5_dark_23 : decode cX5_dark 23 = .ok (.iconst (-1), 1) := by decide +kernel
theorem dX5_dark_24 : decode cX5_dark 24 = .ok (.invokevirtual 44, 3) := by decide +kernel
theorem dX5_dark_27 : decode cX5_dark 27 = .ok (.ireturn, 1) := by decide +kernel
theorem dX5_first_0 : decode cX5_first 0 = .ok (.iload_n 1, 1) := by decide +kernel
theorem dX5_first_1 : decode cX5_first 1 = .ok (.lookupswitch 43 #[(0, 27), (1, 35)], 27) := by decide +kernel
theorem dX5_first_28 : decode cX5_first 28 = .ok (.aload_n 0, 1) := by decide +kernel
theorem dX5_first_29 : decode cX5_first 29 = .ok (.getfield 10, 3) := by decide +kernel
theorem dX5_first_32 : decode cX5_first 32 = .ok (.invokevirtual 149, 3) := by decide +kernel
theorem dX5_first_35 : decode cX5_first 35 = .ok (.ireturn, 1) := by decide +kernel
theorem dX5_first_36 : decode cX5_first 36 = .ok (.aload_n 0, 1) := by decide +kernel
theorem dX5_first_37 : decode cX5_first 37 = .ok (.getfield 10, 3) := by decide +kernel
theorem dX5_first_40 : decode cX5_first 40 = .ok (.invokevirtual 152, 3) := by decide +kernel
theorem dX5_first_43 : decode cX5_first 43 = .ok (.ireturn, 1) := by decide +kernel
theorem dX5_first_44 : decode cX5_first 44 = .ok (.aload_n 0, 1) := by decide +kernel
theorem dX5_first_45 : decode cX5_first 45 = .ok (.bipush (-2), 2) := by decide +kernel
theorem dX5_first_47 : decode cX5_first 47 = .ok (.invokevirtual 44, 3) := by decide +kernel
theorem dX5_first_50 : decode cX5_first 50 = .ok (.ireturn, 1) := by decide +kernel
theorem dX5_sees_0 : decode cX5_sees 0 = .ok (.aload_n 0, 1) := by decide +kernel
theorem dX5_sees_1 : decode cX5_sees 1 = .ok (.getfield 20, 3) := by decide +kernel
theorem dX5_sees_4 : decode cX5_sees 4 = .ok (.iload_n 1, 1) := by decide +kernel
theorem dX5_sees_5 : decode cX5_sees 5 = .ok (.invokevirtual 74, 3) := by decide +kernel
theorem dX5_sees_8 : decode cX5_sees 8 = .ok (.ifCond .eq 14, 3) := by decide +kernel
theorem dX5_sees_11 : decode cX5_sees 11 = .ok (.aload_n 0, 1) := by decide +kernel
theorem dX5_sees_12 : decode cX5_sees 12 = .ok (.getfield 10, 3) := by decide +kernel
theorem dX5_sees_15 : decode cX5_sees 15 = .ok (.iload_n 1, 1) := by decide +kernel
theorem dX5_sees_16 : decode cX5_sees 16 = .ok (.invokevirtual 155, 3) := by decide +kernel
theorem dX5_sees_19 : decode cX5_sees 19 = .ok (.goto 8, 3) := by decide +kernel
theorem dX5_sees_22 : decode cX5_sees 22 = .ok (.aload_n 0, 1) := by decide +kernel
theorem dX5_sees_23 : decode cX5_sees 23 = .ok (.iconst (-1), 1) := by decide +kernel
theorem dX5_sees_24 : decode cX5_sees 24 = .ok (.invokevirtual 44, 3) := by decide +kernel
theorem dX5_sees_27 : decode cX5_sees 27 = .ok (.ireturn, 1) := by decide +kernel
theorem dX5_hill_0 : decode cX5_hill 0 = .ok (.aload_n 0, 1) := by decide +kernel
theorem dX5_hill_1 : decode cX5_hill 1 = .ok (.iload_n 1, 1) := by decide +kernel
theorem dX5_hill_2 : decode cX5_hill 2 = .ok (.iload_n 2, 1) := by decide +kernel
theorem dX5_hill_3 : decode cX5_hill 3 = .ok (.invokevirtual 158, 3) := by decide +kernel
theorem dX5_hill_6 : decode cX5_hill 6 = .ok (.ifCond .eq 15, 3) := by decide +kernel
theorem dX5_hill_9 : decode cX5_hill 9 = .ok (.aload_n 0, 1) := by decide +kernel
theorem dX5_hill_10 : decode cX5_hill 10 = .ok (.getfield 10, 3) := by decide +kernel
theorem dX5_hill_13 : decode cX5_hill 13 = .ok (.iload_n 1, 1) := by decide +kernel
theorem dX5_hill_14 : decode cX5_hill 14 = .ok (.iload_n 2, 1) := by decide +kernel
theorem dX5_hill_15 : decode cX5_hill 15 = .ok (.invokevirtual 161, 3) := by decide +kernel
theorem dX5_hill_18 : decode cX5_hill 18 = .ok (.goto 8, 3) := by decide +kernel
theorem dX5_hill_21 : decode cX5_hill 21 = .ok (.aload_n 0, 1) := by decide +kernel
theorem dX5_hill_22 : decode cX5_hill 22 = .ok (.iconst (-1), 1) := by decide +kernel
theorem dX5_hill_23 : decode cX5_hill 23 = .ok (.invokevirtual 44, 3) := by decide +kernel
theorem dX5_hill_26 : decode cX5_hill 26 = .ok (.ireturn, 1) := by decide +kernel
theorem dX5_leastEye_0 : decode cX5_leastEye 0 = .ok (.aload_n 0, 1) := by decide +kernel
theorem dX5_leastEye_1 : decode cX5_leastEye 1 = .ok (.getfield 20, 3) := by decide +kernel
theorem dX5_leastEye_4 : decode cX5_leastEye 4 = .ok (.iload_n 1, 1) := by decide +kernel
theorem dX5_leastEye_5 : decode cX5_leastEye 5 = .ok (.invokevirtual 74, 3) := by decide +kernel
theorem dX5_leastEye_8 : decode cX5_leastEye 8 = .ok (.ifCond .eq 14, 3) := by decide +kernel
theorem dX5_leastEye_11 : decode cX5_leastEye 11 = .ok (.aload_n 0, 1) := by decide +kernel
theorem dX5_leastEye_12 : decode cX5_leastEye 12 = .ok (.getfield 10, 3) := by decide +kernel
theorem dX5_leastEye_15 : decode cX5_leastEye 15 = .ok (.iload_n 1, 1) := by decide +kernel
theorem dX5_leastEye_16 : decode cX5_leastEye 16 = .ok (.invokevirtual 164, 3) := by decide +kernel
theorem dX5_leastEye_19 : decode cX5_leastEye 19 = .ok (.goto 8, 3) := by decide +kernel
theorem dX5_leastEye_22 : decode cX5_leastEye 22 = .ok (.aload_n 0, 1) := by decide +kernel
theorem dX5_leastEye_23 : decode cX5_leastEye 23 = .ok (.iconst (-1), 1) := by decide +kernel
theorem dX5_leastEye_24 : decode cX5_leastEye 24 = .ok (.invokevirtual 44, 3) := by decide +kernel
theorem dX5_leastEye_27 : decode cX5_leastEye 27 = .ok (.ireturn, 1) := by decide +kernel
theorem dX5_cut_0 : decode cX5_cut 0 = .ok (.iload_n 1, 1) := by decide +kernel
theorem dX5_cut_1 : decode cX5_cut 1 = .ok (.tableswitch 51 0 2 #[27, 35, 43], 27) := by decide +kernel
theorem dX5_cut_28 : decode cX5_cut 28 = .ok (.aload_n 0, 1) := by decide +kernel
theorem dX5_cut_29 : decode cX5_cut 29 = .ok (.getfield 10, 3) := by decide +kernel
theorem dX5_cut_32 : decode cX5_cut 32 = .ok (.invokevirtual 167, 3) := by decide +kernel
theorem dX5_cut_35 : decode cX5_cut 35 = .ok (.ireturn, 1) := by decide +kernel
theorem dX5_cut_36 : decode cX5_cut 36 = .ok (.aload_n 0, 1) := by decide +kernel
theorem dX5_cut_37 : decode cX5_cut 37 = .ok (.getfield 10, 3) := by decide +kernel
theorem dX5_cut_40 : decode cX5_cut 40 = .ok (.invokevirtual 170, 3) := by decide +kernel
theorem dX5_cut_43 : decode cX5_cut 43 = .ok (.ireturn, 1) := by decide +kernel
theorem dX5_cut_44 : decode cX5_cut 44 = .ok (.aload_n 0, 1) := by decide +kernel
theorem dX5_cut_45 : decode cX5_cut 45 = .ok (.getfield 10, 3) := by decide +kernel
theorem dX5_cut_48 : decode cX5_cut 48 = .ok (.invokevirtual 173, 3) := by decide +kernel
theorem dX5_cut_51 : decode cX5_cut 51 = .ok (.ireturn, 1) := by decide +kernel
theorem dX5_cut_52 : decode cX5_cut 52 = .ok (.aload_n 0, 1) := by decide +kernel
theorem dX5_cut_53 : decode cX5_cut 53 = .ok (.bipush (-2), 2) := by decide +kernel
theorem dX5_cut_55 : decode cX5_cut 55 = .ok (.invokevirtual 44, 3) := by decide +kernel
theorem dX5_cut_58 : decode cX5_cut 58 = .ok (.ireturn, 1) := by decide +kernel
theorem dX5_build_0 : decode cX5_build 0 = .ok (.iload_n 1, 1) := by decide +kernel
theorem dX5_build_1 : decode cX5_build 1 = .ok (.lookupswitch 50 #[(0, 27), (1, 35)], 27) := by decide +kernel
theorem dX5_build_28 : decode cX5_build 28 = .ok (.aload_n 0, 1) := by decide +kernel
theorem dX5_build_29 : decode cX5_build 29 = .ok (.getfield 10, 3) := by decide +kernel
theorem dX5_build_32 : decode cX5_build 32 = .ok (.invokevirtual 176, 3) := by decide +kernel
theorem dX5_build_35 : decode cX5_build 35 = .ok (.ireturn, 1) := by decide +kernel
theorem dX5_build_36 : decode cX5_build 36 = .ok (.aload_n 0, 1) := by decide +kernel
theorem dX5_build_37 : decode cX5_build 37 = .ok (.getfield 10, 3) := by decide +kernel
theorem dX5_build_40 : decode cX5_build 40 = .ok (.aload_n 0, 1) := by decide +kernel
theorem dX5_build_41 : decode cX5_build 41 = .ok (.getfield 10, 3) := by decide +kernel
theorem dX5_build_44 : decode cX5_build 44 = .ok (.invokevirtual 176, 3) := by decide +kernel
theorem dX5_build_47 : decode cX5_build 47 = .ok (.invokevirtual 179, 3) := by decide +kernel
theorem dX5_build_50 : decode cX5_build 50 = .ok (.ireturn, 1) := by decide +kernel
theorem dX5_build_51 : decode cX5_build 51 = .ok (.aload_n 0, 1) := by decide +kernel
theorem dX5_build_52 : decode cX5_build 52 = .ok (.bipush (-2), 2) := by decide +kernel
theorem dX5_build_54 : decode cX5_build 54 = .ok (.invokevirtual 44, 3) := by decide +kernel
theorem dX5_build_57 : decode cX5_build 57 = .ok (.ireturn, 1) := by decide +kernel
theorem dX5_fell_0 : decode cX5_fell 0 = .ok (.aload_n 0, 1) := by decide +kernel
theorem dX5_fell_1 : decode cX5_fell 1 = .ok (.getfield 10, 3) := by decide +kernel
theorem dX5_fell_4 : decode cX5_fell 4 = .ok (.invokevirtual 182, 3) := by decide +kernel
theorem dX5_fell_7 : decode cX5_fell 7 = .ok (.ireturn, 1) := by decide +kernel
theorem dX5_raise_0 : decode cX5_raise 0 = .ok (.aload_n 0, 1) := by decide +kernel
theorem dX5_raise_1 : decode cX5_raise 1 = .ok (.getfield 10, 3) := by decide +kernel
theorem dX5_raise_4 : decode cX5_raise 4 = .ok (.invokevirtual 185, 3) := by decide +kernel
theorem dX5_raise_7 : decode cX5_raise 7 = .ok (.ireturn, 1) := by decide +kernel
theorem dX5_call_0 : decode cX5_call 0 = .ok (.iload_n 1, 1) := by decide +kernel
theorem dX5_call_1 : decode cX5_call 1 = .ok (.iconst 0, 1) := by decide +kernel
theorem dX5_call_2 : decode cX5_call 2 = .ok (.bipush 12, 2) := by decide +kernel
theorem dX5_call_4 : decode cX5_call 4 = .ok (.invokestatic 108, 3) := by decide +kernel
theorem dX5_call_7 : decode cX5_call 7 = .ok (.istore_n 2, 1) := by decide +kernel
theorem dX5_call_8 : decode cX5_call 8 = .ok (.iload_n 2, 1) := by decide +kernel
theorem dX5_call_9 : decode cX5_call 9 = .ok (.ifCond .eq 11, 3) := by decide +kernel
theorem dX5_call_12 : decode cX5_call 12 = .ok (.aload_n 0, 1) := by decide +kernel
theorem dX5_call_13 : decode cX5_call 13 = .ok (.iload_n 2, 1) := by decide +kernel
theorem dX5_call_14 : decode cX5_call 14 = .ok (.invokevirtual 44, 3) := by decide +kernel
theorem dX5_call_17 : decode cX5_call 17 = .ok (.goto 11, 3) := by decide +kernel
theorem dX5_call_20 : decode cX5_call 20 = .ok (.aload_n 0, 1) := by decide +kernel
theorem dX5_call_21 : decode cX5_call 21 = .ok (.getfield 10, 3) := by decide +kernel
theorem dX5_call_24 : decode cX5_call 24 = .ok (.iload_n 1, 1) := by decide +kernel
theorem dX5_call_25 : decode cX5_call 25 = .ok (.invokevirtual 188, 3) := by decide +kernel
theorem dX5_call_28 : decode cX5_call 28 = .ok (.ireturn, 1) := by decide +kernel
theorem dX5_news_0 : decode cX5_news 0 = .ok (.aload_n 0, 1) := by decide +kernel
theorem dX5_news_1 : decode cX5_news 1 = .ok (.getfield 20, 3) := by decide +kernel
theorem dX5_news_4 : decode cX5_news 4 = .ok (.iload_n 1, 1) := by decide +kernel
theorem dX5_news_5 : decode cX5_news 5 = .ok (.invokevirtual 74, 3) := by decide +kernel
theorem dX5_news_8 : decode cX5_news 8 = .ok (.ifCond .ne 9, 3) := by decide +kernel
theorem dX5_news_11 : decode cX5_news 11 = .ok (.aload_n 0, 1) := by decide +kernel
theorem dX5_news_12 : decode cX5_news 12 = .ok (.iconst (-1), 1) := by decide +kernel
theorem dX5_news_13 : decode cX5_news 13 = .ok (.invokevirtual 44, 3) := by decide +kernel
theorem dX5_news_16 : decode cX5_news 16 = .ok (.ireturn, 1) := by decide +kernel
theorem dX5_news_17 : decode cX5_news 17 = .ok (.iload_n 2, 1) := by decide +kernel
theorem dX5_news_18 : decode cX5_news 18 = .ok (.lookupswitch 44 #[(0, 26), (1, 35)], 26) := by decide +kernel
theorem dX5_news_44 : decode cX5_news 44 = .ok (.aload_n 0, 1) := by decide +kernel
theorem dX5_news_45 : decode cX5_news 45 = .ok (.getfield 10, 3) := by decide +kernel
theorem dX5_news_48 : decode cX5_news 48 = .ok (.iload_n 1, 1) := by decide +kernel
theorem dX5_news_49 : decode cX5_news 49 = .ok (.invokevirtual 191, 3) := by decide +kernel
theorem dX5_news_52 : decode cX5_news 52 = .ok (.ireturn, 1) := by decide +kernel
theorem dX5_news_53 : decode cX5_news 53 = .ok (.aload_n 0, 1) := by decide +kernel
theorem dX5_news_54 : decode cX5_news 54 = .ok (.getfield 10, 3) := by decide +kernel
theorem dX5_news_57 : decode cX5_news 57 = .ok (.iload_n 1, 1) := by decide +kernel
theorem dX5_news_58 : decode cX5_news 58 = .ok (.invokevirtual 194, 3) := by decide +kernel
theorem dX5_news_61 : decode cX5_news 61 = .ok (.ireturn, 1) := by decide +kernel
theorem dX5_news_62 : decode cX5_news 62 = .ok (.aload_n 0, 1) := by decide +kernel
theorem dX5_news_63 : decode cX5_news 63 = .ok (.bipush (-2), 2) := by decide +kernel
theorem dX5_news_65 : decode cX5_news 65 = .ok (.invokevirtual 44, 3) := by decide +kernel
theorem dX5_news_68 : decode cX5_news 68 = .ok (.ireturn, 1) := by decide +kernel
theorem dX5_farthest_0 : decode cX5_farthest 0 = .ok (.aload_n 0, 1) := by decide +kernel
theorem dX5_farthest_1 : decode cX5_farthest 1 = .ok (.getfield 10, 3) := by decide +kernel
theorem dX5_farthest_4 : decode cX5_farthest 4 = .ok (.invokevirtual 197, 3) := by decide +kernel
theorem dX5_farthest_7 : decode cX5_farthest 7 = .ok (.ireturn, 1) := by decide +kernel
theorem dX5_spend_0 : decode cX5_spend 0 = .ok (.iload_n 1, 1) := by decide +kernel
theorem dX5_spend_1 : decode cX5_spend 1 = .ok (.iconst 0, 1) := by decide +kernel
theorem dX5_spend_2 : decode cX5_spend 2 = .ok (.bipush 60, 2) := by decide +kernel
theorem dX5_spend_4 : decode cX5_spend 4 = .ok (.invokestatic 108, 3) := by decide +kernel
theorem dX5_spend_7 : decode cX5_spend 7 = .ok (.istore_n 2, 1) := by decide +kernel
theorem dX5_spend_8 : decode cX5_spend 8 = .ok (.iload_n 2, 1) := by decide +kernel
theorem dX5_spend_9 : decode cX5_spend 9 = .ok (.ifCond .eq 11, 3) := by decide +kernel
theorem dX5_spend_12 : decode cX5_spend 12 = .ok (.aload_n 0, 1) := by decide +kernel
theorem dX5_spend_13 : decode cX5_spend 13 = .ok (.iload_n 2, 1) := by decide +kernel
theorem dX5_spend_14 : decode cX5_spend 14 = .ok (.invokevirtual 44, 3) := by decide +kernel
theorem dX5_spend_17 : decode cX5_spend 17 = .ok (.goto 11, 3) := by decide +kernel
theorem dX5_spend_20 : decode cX5_spend 20 = .ok (.aload_n 0, 1) := by decide +kernel
theorem dX5_spend_21 : decode cX5_spend 21 = .ok (.getfield 10, 3) := by decide +kernel
theorem dX5_spend_24 : decode cX5_spend 24 = .ok (.iload_n 1, 1) := by decide +kernel
theorem dX5_spend_25 : decode cX5_spend 25 = .ok (.invokevirtual 200, 3) := by decide +kernel
theorem dX5_spend_28 : decode cX5_spend 28 = .ok (.ireturn, 1) := by decide +kernel
theorem dX5_share_0 : decode cX5_share 0 = .ok (.iload_n 1, 1) := by decide +kernel
theorem dX5_share_1 : decode cX5_share 1 = .ok (.iconst 0, 1) := by decide +kernel
theorem dX5_share_2 : decode cX5_share 2 = .ok (.bipush 30, 2) := by decide +kernel
theorem dX5_share_4 : decode cX5_share 4 = .ok (.invokestatic 108, 3) := by decide +kernel
theorem dX5_share_7 : decode cX5_share 7 = .ok (.istore_n 2, 1) := by decide +kernel
theorem dX5_share_8 : decode cX5_share 8 = .ok (.iload_n 2, 1) := by decide +kernel
theorem dX5_share_9 : decode cX5_share 9 = .ok (.ifCond .eq 11, 3) := by decide +kernel
theorem dX5_share_12 : decode cX5_share 12 = .ok (.aload_n 0, 1) := by decide +kernel
theorem dX5_share_13 : decode cX5_share 13 = .ok (.iload_n 2, 1) := by decide +kernel
theorem dX5_share_14 : decode cX5_share 14 = .ok (.invokevirtual 44, 3) := by decide +kernel
theorem dX5_share_17 : decode cX5_share 17 = .ok (.goto 11, 3) := by decide +kernel
theorem dX5_share_20 : decode cX5_share 20 = .ok (.aload_n 0, 1) := by decide +kernel
theorem dX5_share_21 : decode cX5_share 21 = .ok (.getfield 10, 3) := by decide +kernel
theorem dX5_share_24 : decode cX5_share 24 = .ok (.iload_n 1, 1) := by decide +kernel
theorem dX5_share_25 : decode cX5_share 25 = .ok (.invokevirtual 203, 3) := by decide +kernel
theorem dX5_share_28 : decode cX5_share 28 = .ok (.ireturn, 1) := by decide +kernel
theorem dX5_longest_0 : decode cX5_longest 0 = .ok (.iload_n 1, 1) := by decide +kernel
theorem dX5_longest_1 : decode cX5_longest 1 = .ok (.iconst 0, 1) := by decide +kernel
theorem dX5_longest_2 : decode cX5_longest 2 = .ok (.bipush 60, 2) := by decide +kernel
theorem dX5_longest_4 : decode cX5_longest 4 = .ok (.invokestatic 108, 3) := by decide +kernel
theorem dX5_longest_7 : decode cX5_longest 7 = .ok (.istore_n 2, 1) := by decide +kernel
theorem dX5_longest_8 : decode cX5_longest 8 = .ok (.iload_n 2, 1) := by decide +kernel
theorem dX5_longest_9 : decode cX5_longest 9 = .ok (.ifCond .eq 11, 3) := by decide +kernel
theorem dX5_longest_12 : decode cX5_longest 12 = .ok (.aload_n 0, 1) := by decide +kernel
theorem dX5_longest_13 : decode cX5_longest 13 = .ok (.iload_n 2, 1) := by decide +kernel
theorem dX5_longest_14 : decode cX5_longest 14 = .ok (.invokevirtual 44, 3) := by decide +kernel
theorem dX5_longest_17 : decode cX5_longest 17 = .ok (.goto 11, 3) := by decide +kernel
theorem dX5_longest_20 : decode cX5_longest 20 = .ok (.aload_n 0, 1) := by decide +kernel
theorem dX5_longest_21 : decode cX5_longest 21 = .ok (.getfield 10, 3) := by decide +kernel
theorem dX5_longest_24 : decode cX5_longest 24 = .ok (.iload_n 1, 1) := by decide +kernel
theorem dX5_longest_25 : decode cX5_longest 25 = .ok (.invokevirtual 206, 3) := by decide +kernel
theorem dX5_longest_28 : decode cX5_longest 28 = .ok (.ireturn, 1) := by decide +kernel
theorem dX5_fogged_0 : decode cX5_fogged 0 = .ok (.aload_n 0, 1) := by decide +kernel
theorem dX5_fogged_1 : decode cX5_fogged 1 = .ok (.getfield 10, 3) := by decide +kernel
theorem dX5_fogged_4 : decode cX5_fogged 4 = .ok (.invokevirtual 209, 3) := by decide +kernel
theorem dX5_fogged_7 : decode cX5_fogged 7 = .ok (.ireturn, 1) := by decide +kernel
theorem dX5_highest_0 : decode cX5_highest 0 = .ok (.iconst 0, 1) := by decide +kernel
theorem dX5_highest_1 : decode cX5_highest 1 = .ok (.istore_n 1, 1) := by decide +kernel
theorem dX5_highest_2 : decode cX5_highest 2 = .ok (.iconst 1, 1) := by decide +kernel
theorem dX5_highest_3 : decode cX5_highest 3 = .ok (.istore_n 2, 1) := by decide +kernel
theorem dX5_highest_4 : decode cX5_highest 4 = .ok (.iload_n 2, 1) := by decide +kernel
theorem dX5_highest_5 : decode cX5_highest 5 = .ok (.bipush 20, 2) := by decide +kernel
theorem dX5_highest_7 : decode cX5_highest 7 = .ok (.if_icmp .ge 32, 3) := by decide +kernel
theorem dX5_highest_10 : decode cX5_highest 10 = .ok (.aload_n 0, 1) := by decide +kernel
theorem dX5_highest_11 : decode cX5_highest 11 = .ok (.getfield 20, 3) := by decide +kernel
theorem dX5_highest_14 : decode cX5_highest 14 = .ok (.getfield 105, 3) := by decide +kernel
theorem dX5_highest_17 : decode cX5_highest 17 = .ok (.iload_n 2, 1) := by decide +kernel
theorem dX5_highest_18 : decode cX5_highest 18 = .ok (.iaload, 1) := by decide +kernel
theorem dX5_highest_19 : decode cX5_highest 19 = .ok (.aload_n 0, 1) := by decide +kernel
theorem dX5_highest_20 : decode cX5_highest 20 = .ok (.getfield 20, 3) := by decide +kernel
theorem dX5_highest_23 : decode cX5_highest 23 = .ok (.getfield 105, 3) := by decide +kernel
theorem dX5_highest_26 : decode cX5_highest 26 = .ok (.iload_n 1, 1) := by decide +kernel
theorem dX5_highest_27 : decode cX5_highest 27 = .ok (.iaload, 1) := by decide +kernel
theorem dX5_highest_28 : decode cX5_highest 28 = .ok (.if_icmp .le 5, 3) := by decide +kernel
theorem dX5_highest_31 : decode cX5_highest 31 = .ok (.iload_n 2, 1) := by decide +kernel
theorem dX5_highest_32 : decode cX5_highest 32 = .ok (.istore_n 1, 1) := by decide +kernel
theorem dX5_highest_33 : decode cX5_highest 33 = .ok (.iinc 2 1, 3) := by decide +kernel
theorem dX5_highest_36 : decode cX5_highest 36 = .ok (.goto (-32), 3) := by decide +kernel
theorem dX5_highest_39 : decode cX5_highest 39 = .ok (.iload_n 1, 1) := by decide +kernel
theorem dX5_highest_40 : decode cX5_highest 40 = .ok (.ireturn, 1) := by decide +kernel
theorem dX5_two_0 : decode cX5_two 0 = .ok (.aload_n 0, 1) := by decide +kernel
theorem dX5_two_1 : decode cX5_two 1 = .ok (.iload_n 1, 1) := by decide +kernel
theorem dX5_two_2 : decode cX5_two 2 = .ok (.iload_n 2, 1) := by decide +kernel
theorem dX5_two_3 : decode cX5_two 3 = .ok (.invokevirtual 158, 3) := by decide +kernel
theorem dX5_two_6 : decode cX5_two 6 = .ok (.ifCond .eq 15, 3) := by decide +kernel
theorem dX5_two_9 : decode cX5_two 9 = .ok (.aload_n 0, 1) := by decide +kernel
theorem dX5_two_10 : decode cX5_two 10 = .ok (.getfield 10, 3) := by decide +kernel
theorem dX5_two_13 : decode cX5_two 13 = .ok (.iload_n 1, 1) := by decide +kernel
theorem dX5_two_14 : decode cX5_two 14 = .ok (.iload_n 2, 1) := by decide +kernel
theorem dX5_two_15 : decode cX5_two 15 = .ok (.invokevirtual 212, 3) := by decide +kernel
theorem dX5_two_18 : decode cX5_two 18 = .ok (.goto 8, 3) := by decide +kernel
theorem dX5_two_21 : decode cX5_two 21 = .ok (.aload_n 0, 1) := by decide +kernel
theorem dX5_two_22 : decode cX5_two 22 = .ok (.iconst (-1), 1) := by decide +kernel
theorem dX5_two_23 : decode cX5_two 23 = .ok (.invokevirtual 44, 3) := by decide +kernel
theorem dX5_two_26 : decode cX5_two 26 = .ok (.ireturn, 1) := by decide +kernel
theorem dX5_mist_0 : decode cX5_mist 0 = .ok (.aload_n 0, 1) := by decide +kernel
theorem dX5_mist_1 : decode cX5_mist 1 = .ok (.getfield 20, 3) := by decide +kernel
theorem dX5_mist_4 : decode cX5_mist 4 = .ok (.iload_n 1, 1) := by decide +kernel
theorem dX5_mist_5 : decode cX5_mist 5 = .ok (.invokevirtual 74, 3) := by decide +kernel
theorem dX5_mist_8 : decode cX5_mist 8 = .ok (.ifCond .ne 9, 3) := by decide +kernel
theorem dX5_mist_11 : decode cX5_mist 11 = .ok (.aload_n 0, 1) := by decide +kernel
theorem dX5_mist_12 : decode cX5_mist 12 = .ok (.iconst (-1), 1) := by decide +kernel
theorem dX5_mist_13 : decode cX5_mist 13 = .ok (.invokevirtual 215, 3) := by decide +kernel
theorem dX5_mist_16 : decode cX5_mist 16 = .ok (.lreturn, 1) := by decide +kernel
theorem dX5_mist_17 : decode cX5_mist 17 = .ok (.iload_n 2, 1) := by decide +kernel
theorem dX5_mist_18 : decode cX5_mist 18 = .ok (.ifCond .lt 8, 3) := by decide +kernel
theorem dX5_mist_21 : decode cX5_mist 21 = .ok (.iload_n 3, 1) := by decide +kernel
theorem dX5_mist_22 : decode cX5_mist 22 = .ok (.iconst 2, 1) := by decide +kernel
theorem dX5_mist_23 : decode cX5_mist 23 = .ok (.if_icmp .ge 10, 3) := by decide +kernel
theorem dX5_mist_26 : decode cX5_mist 26 = .ok (.aload_n 0, 1) := by decide +kernel
theorem dX5_mist_27 : decode cX5_mist 27 = .ok (.bipush (-4), 2) := by decide +kernel
theorem dX5_mist_29 : decode cX5_mist 29 = .ok (.invokevirtual 215, 3) := by decide +kernel
theorem dX5_mist_32 : decode cX5_mist 32 = .ok (.lreturn, 1) := by decide +kernel
theorem dX5_mist_33 : decode cX5_mist 33 = .ok (.iload_n 2, 1) := by decide +kernel
theorem dX5_mist_34 : decode cX5_mist 34 = .ok (.bipush 7, 2) := by decide +kernel
theorem dX5_mist_36 : decode cX5_mist 36 = .ok (.if_icmp .gt 9, 3) := by decide +kernel
theorem dX5_mist_39 : decode cX5_mist 39 = .ok (.iload_n 3, 1) := by decide +kernel
theorem dX5_mist_40 : decode cX5_mist 40 = .ok (.bipush 20, 2) := by decide +kernel
theorem dX5_mist_42 : decode cX5_mist 42 = .ok (.if_icmp .le 10, 3) := by decide +kernel
theorem dX5_mist_45 : decode cX5_mist 45 = .ok (.aload_n 0, 1) := by decide +kernel
theorem dX5_mist_46 : decode cX5_mist 46 = .ok (.bipush (-6), 2) := by decide +kernel
theorem dX5_mist_48 : decode cX5_mist 48 = .ok (.invokevirtual 215, 3) := by decide +kernel
theorem dX5_mist_51 : decode cX5_mist 51 = .ok (.lreturn, 1) := by decide +kernel
theorem dX5_mist_52 : decode cX5_mist 52 = .ok (.iload 4, 2) := by decide +kernel
theorem dX5_mist_54 : decode cX5_mist 54 = .ok (.ifCond .eq 16, 3) := by decide +kernel
theorem dX5_mist_57 : decode cX5_mist 57 = .ok (.iload 4, 2) := by decide +kernel
theorem dX5_mist_59 : decode cX5_mist 59 = .ok (.iconst 1, 1) := by decide +kernel
theorem dX5_mist_60 : decode cX5_mist 60 = .ok (.if_icmp .eq 10, 3) := by decide +kernel
theorem dX5_mist_63 : decode cX5_mist 63 = .ok (.aload_n 0, 1) := by decide +kernel
theorem dX5_mist_64 : decode cX5_mist 64 = .ok (.bipush (-2), 2) := by decide +kernel
theorem dX5_mist_66 : decode cX5_mist 66 = .ok (.invokevirtual 215, 3) := by decide +kernel
theorem dX5_mist_69 : decode cX5_mist 69 = .ok (.lreturn, 1) := by decide +kernel
theorem dX5_mist_70 : decode cX5_mist 70 = .ok (.aload_n 0, 1) := by decide +kernel
theorem dX5_mist_71 : decode cX5_mist 71 = .ok (.getfield 10, 3) := by decide +kernel
theorem dX5_mist_74 : decode cX5_mist 74 = .ok (.iload_n 1, 1) := by decide +kernel
theorem dX5_mist_75 : decode cX5_mist 75 = .ok (.iload_n 2, 1) := by decide +kernel
theorem dX5_mist_76 : decode cX5_mist 76 = .ok (.iload_n 3, 1) := by decide +kernel
theorem dX5_mist_77 : decode cX5_mist 77 = .ok (.invokevirtual 219, 3) := by decide +kernel
theorem dX5_mist_80 : decode cX5_mist 80 = .ok (.iload_n 3, 1) := by decide +kernel
theorem dX5_mist_81 : decode cX5_mist 81 = .ok (.i2l, 1) := by decide +kernel
theorem dX5_mist_82 : decode cX5_mist 82 = .ok (.iload_n 2, 1) := by decide +kernel
theorem dX5_mist_83 : decode cX5_mist 83 = .ok (.invokestatic 223, 3) := by decide +kernel
theorem dX5_mist_86 : decode cX5_mist 86 = .ok (.iload 4, 2) := by decide +kernel
theorem dX5_mist_88 : decode cX5_mist 88 = .ok (.invokestatic 227, 3) := by decide +kernel
theorem dX5_mist_91 : decode cX5_mist 91 = .ok (.lreturn, 1) := by decide +kernel
theorem dX5_mean_0 : decode cX5_mean 0 = .ok (.iload_n 1, 1) := by decide +kernel
theorem dX5_mean_1 : decode cX5_mean 1 = .ok (.ifCond .eq 15, 3) := by decide +kernel
theorem dX5_mean_4 : decode cX5_mean 4 = .ok (.iload_n 1, 1) := by decide +kernel
theorem dX5_mean_5 : decode cX5_mean 5 = .ok (.iconst 1, 1) := by decide +kernel
theorem dX5_mean_6 : decode cX5_mean 6 = .ok (.if_icmp .eq 10, 3) := by decide +kernel
theorem dX5_mean_9 : decode cX5_mean 9 = .ok (.aload_n 0, 1) := by decide +kernel
theorem dX5_mean_10 : decode cX5_mean 10 = .ok (.bipush (-2), 2) := by decide +kernel
theorem dX5_mean_12 : decode cX5_mean 12 = .ok (.invokevirtual 215, 3) := by decide +kernel
theorem dX5_mean_15 : decode cX5_mean 15 = .ok (.lreturn, 1) := by decide +kernel
theorem dX5_mean_16 : decode cX5_mean 16 = .ok (.lconst 0, 1) := by decide +kernel
theorem dX5_mean_17 : decode cX5_mean 17 = .ok (.lstore_n 2, 1) := by decide +kernel
theorem dX5_mean_18 : decode cX5_mean 18 = .ok (.iconst 0, 1) := by decide +kernel
theorem dX5_mean_19 : decode cX5_mean 19 = .ok (.istore 4, 2) := by decide +kernel
theorem dX5_mean_21 : decode cX5_mean 21 = .ok (.iload 4, 2) := by decide +kernel
theorem dX5_mean_23 : decode cX5_mean 23 = .ok (.bipush 20, 2) := by decide +kernel
theorem dX5_mean_25 : decode cX5_mean 25 = .ok (.if_icmp .ge 23, 3) := by decide +kernel
theorem dX5_mean_28 : decode cX5_mean 28 = .ok (.lload_n 2, 1) := by decide +kernel
theorem dX5_mean_29 : decode cX5_mean 29 = .ok (.aload_n 0, 1) := by decide +kernel
theorem dX5_mean_30 : decode cX5_mean 30 = .ok (.getfield 20, 3) := by decide +kernel
theorem dX5_mean_33 : decode cX5_mean 33 = .ok (.getfield 105, 3) := by decide +kernel
theorem dX5_mean_36 : decode cX5_mean 36 = .ok (.iload 4, 2) := by decide +kernel
theorem dX5_mean_38 : decode cX5_mean 38 = .ok (.iaload, 1) := by decide +kernel
theorem dX5_mean_39 : decode cX5_mean 39 = .ok (.i2l, 1) := by decide +kernel
theorem dX5_mean_40 : decode cX5_mean 40 = .ok (.ladd, 1) := by decide +kernel
theorem dX5_mean_41 : decode cX5_mean 41 = .ok (.lstore_n 2, 1) := by decide +kernel
theorem dX5_mean_42 : decode cX5_mean 42 = .ok (.iinc 4 1, 3) := by decide +kernel
theorem dX5_mean_45 : decode cX5_mean 45 = .ok (.goto (-24), 3) := by decide +kernel
theorem dX5_mean_48 : decode cX5_mean 48 = .ok (.lload_n 2, 1) := by decide +kernel
theorem dX5_mean_49 : decode cX5_mean 49 = .ok (.ldc2_w 231, 3) := by decide +kernel
theorem dX5_mean_52 : decode cX5_mean 52 = .ok (.iload_n 1, 1) := by decide +kernel
theorem dX5_mean_53 : decode cX5_mean 53 = .ok (.invokestatic 227, 3) := by decide +kernel
theorem dX5_mean_56 : decode cX5_mean 56 = .ok (.lreturn, 1) := by decide +kernel
theorem dX5_whoSlept_0 : decode cX5_whoSlept 0 = .ok (.aload_n 0, 1) := by decide +kernel
theorem dX5_whoSlept_1 : decode cX5_whoSlept 1 = .ok (.getfield 10, 3) := by decide +kernel
theorem dX5_whoSlept_4 : decode cX5_whoSlept 4 = .ok (.aload_n 0, 1) := by decide +kernel
theorem dX5_whoSlept_5 : decode cX5_whoSlept 5 = .ok (.getfield 37, 3) := by decide +kernel
theorem dX5_whoSlept_8 : decode cX5_whoSlept 8 = .ok (.aload_n 0, 1) := by decide +kernel
theorem dX5_whoSlept_9 : decode cX5_whoSlept 9 = .ok (.getfield 233, 3) := by decide +kernel
theorem dX5_whoSlept_12 : decode cX5_whoSlept 12 = .ok (.invokevirtual 236, 3) := by decide +kernel
theorem dX5_whoSlept_15 : decode cX5_whoSlept 15 = .ok (.ireturn, 1) := by decide +kernel
theorem dX5_whatIs_0 : decode cX5_whatIs 0 = .ok (.aload_n 0, 1) := by decide +kernel
theorem dX5_whatIs_1 : decode cX5_whatIs 1 = .ok (.getfield 20, 3) := by decide +kernel
theorem dX5_whatIs_4 : decode cX5_whatIs 4 = .ok (.iload_n 1, 1) := by decide +kernel
theorem dX5_whatIs_5 : decode cX5_whatIs 5 = .ok (.invokevirtual 74, 3) := by decide +kernel
theorem dX5_whatIs_8 : decode cX5_whatIs 8 = .ok (.ifCond .ne 9, 3) := by decide +kernel
theorem dX5_whatIs_11 : decode cX5_whatIs 11 = .ok (.aload_n 0, 1) := by decide +kernel
theorem dX5_whatIs_12 : decode cX5_whatIs 12 = .ok (.iconst (-1), 1) := by decide +kernel
theorem dX5_whatIs_13 : decode cX5_whatIs 13 = .ok (.invokevirtual 44, 3) := by decide +kernel
theorem dX5_whatIs_16 : decode cX5_whatIs 16 = .ok (.ireturn, 1) := by decide +kernel
theorem dX5_whatIs_17 : decode cX5_whatIs 17 = .ok (.iload_n 2, 1) := by decide +kernel
theorem dX5_whatIs_18 : decode cX5_whatIs 18 = .ok (.lookupswitch 60 #[(0, 26), (1, 43)], 26) := by decide +kernel
theorem dX5_whatIs_44 : decode cX5_whatIs 44 = .ok (.aload_n 0, 1) := by decide +kernel
theorem dX5_whatIs_45 : decode cX5_whatIs 45 = .ok (.getfield 10, 3) := by decide +kernel
theorem dX5_whatIs_48 : decode cX5_whatIs 48 = .ok (.iload_n 1, 1) := by decide +kernel
theorem dX5_whatIs_49 : decode cX5_whatIs 49 = .ok (.aload_n 0, 1) := by decide +kernel
theorem dX5_whatIs_50 : decode cX5_whatIs 50 = .ok (.getfield 37, 3) := by decide +kernel
theorem dX5_whatIs_53 : decode cX5_whatIs 53 = .ok (.aload_n 0, 1) := by decide +kernel
theorem dX5_whatIs_54 : decode cX5_whatIs 54 = .ok (.getfield 233, 3) := by decide +kernel
theorem dX5_whatIs_57 : decode cX5_whatIs 57 = .ok (.invokevirtual 240, 3) := by decide +kernel
theorem dX5_whatIs_60 : decode cX5_whatIs 60 = .ok (.ireturn, 1) := by decide +kernel
theorem dX5_whatIs_61 : decode cX5_whatIs 61 = .ok (.aload_n 0, 1) := by decide +kernel
theorem dX5_whatIs_62 : decode cX5_whatIs 62 = .ok (.getfield 10, 3) := by decide +kernel
theorem dX5_whatIs_65 : decode cX5_whatIs 65 = .ok (.iload_n 1, 1) := by decide +kernel
theorem dX5_whatIs_66 : decode cX5_whatIs 66 = .ok (.aload_n 0, 1) := by decide +kernel
theorem dX5_whatIs_67 : decode cX5_whatIs 67 = .ok (.getfield 37, 3) := by decide +kernel
theorem dX5_whatIs_70 : decode cX5_whatIs 70 = .ok (.aload_n 0, 1) := by decide +kernel
theorem dX5_whatIs_71 : decode cX5_whatIs 71 = .ok (.getfield 233, 3) := by decide +kernel
theorem dX5_whatIs_74 : decode cX5_whatIs 74 = .ok (.invokevirtual 244, 3) := by decide +kernel
theorem dX5_whatIs_77 : decode cX5_whatIs 77 = .ok (.ireturn, 1) := by decide +kernel
theorem dX5_whatIs_78 : decode cX5_whatIs 78 = .ok (.aload_n 0, 1) := by decide +kernel
theorem dX5_whatIs_79 : decode cX5_whatIs 79 = .ok (.bipush (-2), 2) := by decide +kernel
theorem dX5_whatIs_81 : decode cX5_whatIs 81 = .ok (.invokevirtual 44, 3) := by decide +kernel
theorem dX5_whatIs_84 : decode cX5_whatIs 84 = .ok (.ireturn, 1) := by decide +kernel
theorem dX5_row_0 : decode cX5_row 0 = .ok (.iload_n 1, 1) := by decide +kernel
theorem dX5_row_1 : decode cX5_row 1 = .ok (.ifCond .ge 10, 3) := by decide +kernel
theorem dX5_row_4 : decode cX5_row 4 = .ok (.aload_n 0, 1) := by decide +kernel
theorem dX5_row_5 : decode cX5_row 5 = .ok (.bipush (-4), 2) := by decide +kernel
theorem dX5_row_7 : decode cX5_row 7 = .ok (.invokevirtual 44, 3) := by decide +kernel
theorem dX5_row_10 : decode cX5_row 10 = .ok (.ireturn, 1) := by decide +kernel
theorem dX5_row_11 : decode cX5_row 11 = .ok (.iload_n 1, 1) := by decide +kernel
theorem dX5_row_12 : decode cX5_row 12 = .ok (.bipush 99, 2) := by decide +kernel
theorem dX5_row_14 : decode cX5_row 14 = .ok (.if_icmp .gt 12, 3) := by decide +kernel
theorem dX5_row_17 : decode cX5_row 17 = .ok (.aload_n 0, 1) := by decide +kernel
theorem dX5_row_18 : decode cX5_row 18 = .ok (.getfield 233, 3) := by decide +kernel
theorem dX5_row_21 : decode cX5_row 21 = .ok (.bipush 16, 2) := by decide +kernel
theorem dX5_row_23 : decode cX5_row 23 = .ok (.if_icmp .lt 10, 3) := by decide +kernel
theorem dX5_row_26 : decode cX5_row 26 = .ok (.aload_n 0, 1) := by decide +kernel
theorem dX5_row_27 : decode cX5_row 27 = .ok (.bipush (-6), 2) := by decide +kernel
theorem dX5_row_29 : decode cX5_row 29 = .ok (.invokevirtual 44, 3) := by decide +kernel
theorem dX5_row_32 : decode cX5_row 32 = .ok (.ireturn, 1) := by decide +kernel
theorem dX5_row_33 : decode cX5_row 33 = .ok (.aload_n 0, 1) := by decide +kernel
theorem dX5_row_34 : decode cX5_row 34 = .ok (.getfield 37, 3) := by decide +kernel
theorem dX5_row_37 : decode cX5_row 37 = .ok (.aload_n 0, 1) := by decide +kernel
theorem dX5_row_38 : decode cX5_row 38 = .ok (.getfield 233, 3) := by decide +kernel
theorem dX5_row_41 : decode cX5_row 41 = .ok (.iload_n 1, 1) := by decide +kernel
theorem dX5_row_42 : decode cX5_row 42 = .ok (.iastore, 1) := by decide +kernel
theorem dX5_row_43 : decode cX5_row 43 = .ok (.aload_n 0, 1) := by decide +kernel
theorem dX5_row_44 : decode cX5_row 44 = .ok (.dup, 1) := by decide +kernel
theorem dX5_row_45 : decode cX5_row 45 = .ok (.getfield 233, 3) := by decide +kernel
theorem dX5_row_48 : decode cX5_row 48 = .ok (.iconst 1, 1) := by decide +kernel
theorem dX5_row_49 : decode cX5_row 49 = .ok (.iadd, 1) := by decide +kernel
theorem dX5_row_50 : decode cX5_row 50 = .ok (.putfield 233, 3) := by decide +kernel
theorem dX5_row_53 : decode cX5_row 53 = .ok (.aload_n 0, 1) := by decide +kernel
theorem dX5_row_54 : decode cX5_row 54 = .ok (.getfield 233, 3) := by decide +kernel
theorem dX5_row_57 : decode cX5_row 57 = .ok (.ireturn, 1) := by decide +kernel
theorem dX5_judge_0 : decode cX5_judge 0 = .ok (.bipush (-9), 2) := by decide +kernel
theorem dX5_judge_2 : decode cX5_judge 2 = .ok (.istore_n 1, 1) := by decide +kernel
theorem dX5_judge_3 : decode cX5_judge 3 = .ok (.iconst 0, 1) := by decide +kernel
theorem dX5_judge_4 : decode cX5_judge 4 = .ok (.istore_n 2, 1) := by decide +kernel
theorem dX5_judge_5 : decode cX5_judge 5 = .ok (.iload_n 2, 1) := by decide +kernel
theorem dX5_judge_6 : decode cX5_judge 6 = .ok (.aload_n 0, 1) := by decide +kernel
theorem dX5_judge_7 : decode cX5_judge 7 = .ok (.getfield 233, 3) := by decide +kernel
theorem dX5_judge_10 : decode cX5_judge 10 = .ok (.if_icmp .ge 35, 3) := by decide +kernel
theorem dX5_judge_13 : decode cX5_judge 13 = .ok (.iload_n 1, 1) := by decide +kernel
theorem dX5_judge_14 : decode cX5_judge 14 = .ok (.bipush (-9), 2) := by decide +kernel
theorem dX5_judge_16 : decode cX5_judge 16 = .ok (.if_icmp .ne 29, 3) := by decide +kernel
theorem dX5_judge_19 : decode cX5_judge 19 = .ok (.aload_n 0, 1) := by decide +kernel
theorem dX5_judge_20 : decode cX5_judge 20 = .ok (.getfield 37, 3) := by decide +kernel
theorem dX5_judge_23 : decode cX5_judge 23 = .ok (.iload_n 2, 1) := by decide +kernel
theorem dX5_judge_24 : decode cX5_judge 24 = .ok (.iaload, 1) := by decide +kernel
theorem dX5_judge_25 : decode cX5_judge 25 = .ok (.aload_n 0, 1) := by decide +kernel
theorem dX5_judge_26 : decode cX5_judge 26 = .ok (.getfield 20, 3) := by decide +kernel
theorem dX5_judge_29 : decode cX5_judge 29 = .ok (.getfield 105, 3) := by decide +kernel
theorem dX5_judge_32 : decode cX5_judge 32 = .ok (.iload_n 2, 1) := by decide +kernel
theorem dX5_judge_33 : decode cX5_judge 33 = .ok (.iaload, 1) := by decide +kernel
theorem dX5_judge_34 : decode cX5_judge 34 = .ok (.if_icmp .eq 5, 3) := by decide +kernel
theorem dX5_judge_37 : decode cX5_judge 37 = .ok (.iload_n 2, 1) := by decide +kernel
theorem dX5_judge_38 : decode cX5_judge 38 = .ok (.istore_n 1, 1) := by decide +kernel
theorem dX5_judge_39 : decode cX5_judge 39 = .ok (.iinc 2 1, 3) := by decide +kernel
theorem dX5_judge_42 : decode cX5_judge 42 = .ok (.goto (-37), 3) := by decide +kernel
theorem dX5_judge_45 : decode cX5_judge 45 = .ok (.aload_n 0, 1) := by decide +kernel
theorem dX5_judge_46 : decode cX5_judge 46 = .ok (.iconst 0, 1) := by decide +kernel
theorem dX5_judge_47 : decode cX5_judge 47 = .ok (.putfield 233, 3) := by decide +kernel
theorem dX5_judge_50 : decode cX5_judge 50 = .ok (.iload_n 1, 1) := by decide +kernel
theorem dX5_judge_51 : decode cX5_judge 51 = .ok (.ireturn, 1) := by decide +kernel
theorem dX5_clear_0 : decode cX5_clear 0 = .ok (.aload_n 0, 1) := by decide +kernel
theorem dX5_clear_1 : decode cX5_clear 1 = .ok (.getfield 233, 3) := by decide +kernel
theorem dX5_clear_4 : decode cX5_clear 4 = .ok (.istore_n 1, 1) := by decide +kernel
theorem dX5_clear_5 : decode cX5_clear 5 = .ok (.aload_n 0, 1) := by decide +kernel
theorem dX5_clear_6 : decode cX5_clear 6 = .ok (.iconst 0, 1) := by decide +kernel
theorem dX5_clear_7 : decode cX5_clear 7 = .ok (.putfield 233, 3) := by decide +kernel
theorem dX5_clear_10 : decode cX5_clear 10 = .ok (.iload_n 1, 1) := by decide +kernel
theorem dX5_clear_11 : decode cX5_clear 11 = .ok (.ireturn, 1) := by decide +kernel
theorem dX5_lots_0 : decode cX5_lots 0 = .ok (.iload_n 1, 1) := by decide +kernel
theorem dX5_lots_1 : decode cX5_lots 1 = .ok (.iconst 1, 1) := by decide +kernel
theorem dX5_lots_2 : decode cX5_lots 2 = .ok (.bipush 20, 2) := by decide +kernel
theorem dX5_lots_4 : decode cX5_lots 4 = .ok (.invokestatic 108, 3) := by decide +kernel
theorem dX5_lots_7 : decode cX5_lots 7 = .ok (.istore 4, 2) := by decide +kernel
theorem dX5_lots_9 : decode cX5_lots 9 = .ok (.iload 4, 2) := by decide +kernel
theorem dX5_lots_11 : decode cX5_lots 11 = .ok (.ifCond .eq 10, 3) := by decide +kernel
theorem dX5_lots_14 : decode cX5_lots 14 = .ok (.aload_n 0, 1) := by decide +kernel
theorem dX5_lots_15 : decode cX5_lots 15 = .ok (.iload 4, 2) := by decide +kernel
theorem dX5_lots_17 : decode cX5_lots 17 = .ok (.invokevirtual 44, 3) := by decide +kernel
theorem dX5_lots_20 : decode cX5_lots 20 = .ok (.ireturn, 1) := by decide +kernel
theorem dX5_lots_21 : decode cX5_lots 21 = .ok (.iload_n 3, 1) := by decide +kernel
theorem dX5_lots_22 : decode cX5_lots 22 = .ok (.ifCond .eq 15, 3) := by decide +kernel
theorem dX5_lots_25 : decode cX5_lots 25 = .ok (.iload_n 3, 1) := by decide +kernel
theorem dX5_lots_26 : decode cX5_lots 26 = .ok (.iconst 1, 1) := by decide +kernel
theorem dX5_lots_27 : decode cX5_lots 27 = .ok (.if_icmp .eq 10, 3) := by decide +kernel
theorem dX5_lots_30 : decode cX5_lots 30 = .ok (.aload_n 0, 1) := by decide +kernel
theorem dX5_lots_31 : decode cX5_lots 31 = .ok (.bipush (-2), 2) := by decide +kernel
theorem dX5_lots_33 : decode cX5_lots 33 = .ok (.invokevirtual 44, 3) := by decide +kernel
theorem dX5_lots_36 : decode cX5_lots 36 = .ok (.ireturn, 1) := by decide +kernel
theorem dX5_lots_37 : decode cX5_lots 37 = .ok (.aload_n 0, 1) := by decide +kernel
theorem dX5_lots_38 : decode cX5_lots 38 = .ok (.getfield 10, 3) := by decide +kernel
theorem dX5_lots_41 : decode cX5_lots 41 = .ok (.iload_n 1, 1) := by decide +kernel
theorem dX5_lots_42 : decode cX5_lots 42 = .ok (.iload_n 2, 1) := by decide +kernel
theorem dX5_lots_43 : decode cX5_lots 43 = .ok (.iload_n 3, 1) := by decide +kernel
theorem dX5_lots_44 : decode cX5_lots 44 = .ok (.ifCond .ne 7, 3) := by decide +kernel
theorem dX5_lots_47 : decode cX5_lots 47 = .ok (.iconst 1, 1) := by decide +kernel
theorem dX5_lots_48 : decode cX5_lots 48 = .ok (.goto 4, 3) := by decide +kernel
theorem dX5_lots_51 : decode cX5_lots 51 = .ok (.iconst 0, 1) := by decide +kernel
theorem dX5_lots_52 : decode cX5_lots 52 = .ok (.invokevirtual 247, 3) := by decide +kernel
theorem dX5_lots_55 : decode cX5_lots 55 = .ok (.ireturn, 1) := by decide +kernel
theorem dX5_image_0 : decode cX5_image 0 = .ok (.aload_n 0, 1) := by decide +kernel
theorem dX5_image_1 : decode cX5_image 1 = .ok (.getfield 27, 3) := by decide +kernel
theorem dX5_image_4 : decode cX5_image 4 = .ok (.aload_n 0, 1) := by decide +kernel
theorem dX5_image_5 : decode cX5_image 5 = .ok (.getfield 20, 3) := by decide +kernel
theorem dX5_image_8 : decode cX5_image 8 = .ok (.invokevirtual 59, 3) := by decide +kernel
theorem dX5_image_11 : decode cX5_image 11 = .ok (.aload_n 0, 1) := by decide +kernel
theorem dX5_image_12 : decode cX5_image 12 = .ok (.iconst 1, 1) := by decide +kernel
theorem dX5_image_13 : decode cX5_image 13 = .ok (.putfield 251, 3) := by decide +kernel
theorem dX5_image_16 : decode cX5_image 16 = .ok (.aload_n 0, 1) := by decide +kernel
theorem dX5_image_17 : decode cX5_image 17 = .ok (.getfield 20, 3) := by decide +kernel
theorem dX5_image_20 : decode cX5_image 20 = .ok (.getfield 255, 3) := by decide +kernel
theorem dX5_image_23 : decode cX5_image 23 = .ok (.ireturn, 1) := by decide +kernel
theorem dX5_on_0 : decode cX5_on 0 = .ok (.aload_n 0, 1) := by decide +kernel
theorem dX5_on_1 : decode cX5_on 1 = .ok (.getfield 251, 3) := by decide +kernel
theorem dX5_on_4 : decode cX5_on 4 = .ok (.ifCond .ne 10, 3) := by decide +kernel
theorem dX5_on_7 : decode cX5_on 7 = .ok (.aload_n 0, 1) := by decide +kernel
theorem dX5_on_8 : decode cX5_on 8 = .ok (.bipush (-3), 2) := by decide +kernel
theorem dX5_on_10 : decode cX5_on 10 = .ok (.invokevirtual 44, 3) := by decide +kernel
theorem dX5_on_13 : decode cX5_on 13 = .ok (.ireturn, 1) := by decide +kernel
theorem dX5_on_14 : decode cX5_on 14 = .ok (.aload_n 0, 1) := by decide +kernel
theorem dX5_on_15 : decode cX5_on 15 = .ok (.getfield 20, 3) := by decide +kernel
theorem dX5_on_18 : decode cX5_on 18 = .ok (.aload_n 0, 1) := by decide +kernel
theorem dX5_on_19 : decode cX5_on 19 = .ok (.getfield 27, 3) := by decide +kernel
theorem dX5_on_22 : decode cX5_on 22 = .ok (.invokevirtual 59, 3) := by decide +kernel
theorem dX5_on_25 : decode cX5_on 25 = .ok (.aload_n 0, 1) := by decide +kernel
theorem dX5_on_26 : decode cX5_on 26 = .ok (.getfield 20, 3) := by decide +kernel
theorem dX5_on_29 : decode cX5_on 29 = .ok (.getfield 255, 3) := by decide +kernel
theorem dX5_on_32 : decode cX5_on 32 = .ok (.ireturn, 1) := by decide +kernel
theorem dX5_count_0 : decode cX5_count 0 = .ok (.iload_n 1, 1) := by decide +kernel
theorem dX5_count_1 : decode cX5_count 1 = .ok (.tableswitch 109 0 7 #[47, 55, 63, 71, 79, 88, 96, 101], 47) := by decide +kernel
theorem dX5_count_48 : decode cX5_count 48 = .ok (.aload_n 0, 1) := by decide +kernel
theorem dX5_count_49 : decode cX5_count 49 = .ok (.getfield 20, 3) := by decide +kernel
theorem dX5_count_52 : decode cX5_count 52 = .ok (.getfield 258, 3) := by decide +kernel
theorem dX5_count_55 : decode cX5_count 55 = .ok (.ireturn, 1) := by decide +kernel
theorem dX5_count_56 : decode cX5_count 56 = .ok (.aload_n 0, 1) := by decide +kernel
theorem dX5_count_57 : decode cX5_count 57 = .ok (.getfield 20, 3) := by decide +kernel
theorem dX5_count_60 : decode cX5_count 60 = .ok (.getfield 255, 3) := by decide +kernel
theorem dX5_count_63 : decode cX5_count 63 = .ok (.ireturn, 1) := by decide +kernel
theorem dX5_count_64 : decode cX5_count 64 = .ok (.aload_n 0, 1) := by decide +kernel
theorem dX5_count_65 : decode cX5_count 65 = .ok (.getfield 20, 3) := by decide +kernel
theorem dX5_count_68 : decode cX5_count 68 = .ok (.getfield 125, 3) := by decide +kernel
theorem dX5_count_71 : decode cX5_count 71 = .ok (.ireturn, 1) := by decide +kernel
theorem dX5_count_72 : decode cX5_count 72 = .ok (.aload_n 0, 1) := by decide +kernel
theorem dX5_count_73 : decode cX5_count 73 = .ok (.getfield 20, 3) := by decide +kernel
theorem dX5_count_76 : decode cX5_count 76 = .ok (.invokevirtual 261, 3) := by decide +kernel
theorem dX5_count_79 : decode cX5_count 79 = .ok (.ireturn, 1) := by decide +kernel
theorem dX5_count_80 : decode cX5_count 80 = .ok (.aload_n 0, 1) := by decide +kernel
theorem dX5_count_81 : decode cX5_count 81 = .ok (.getfield 10, 3) := by decide +kernel
theorem dX5_count_84 : decode cX5_count 84 = .ok (.iconst 0, 1) := by decide +kernel
theorem dX5_count_85 : decode cX5_count 85 = .ok (.invokevirtual 131, 3) := by decide +kernel
theorem dX5_count_88 : decode cX5_count 88 = .ok (.ireturn, 1) := by decide +kernel
theorem dX5_count_89 : decode cX5_count 89 = .ok (.aload_n 0, 1) := by decide +kernel
theorem dX5_count_90 : decode cX5_count 90 = .ok (.getfield 20, 3) := by decide +kernel
theorem dX5_count_93 : decode cX5_count 93 = .ok (.invokevirtual 264, 3) := by decide +kernel
theorem dX5_count_96 : decode cX5_count 96 = .ok (.ireturn, 1) := by decide +kernel
theorem dX5_count_97 : decode cX5_count 97 = .ok (.aload_n 0, 1) := by decide +kernel
theorem dX5_count_98 : decode cX5_count 98 = .ok (.getfield 233, 3) := by decide +kernel
theorem dX5_count_101 : decode cX5_count 101 = .ok (.ireturn, 1) := by decide +kernel
theorem dX5_count_102 : decode cX5_count 102 = .ok (.aload_n 0, 1) := by decide +kernel
theorem dX5_count_103 : decode cX5_count 103 = .ok (.getfield 33, 3) := by decide +kernel
theorem dX5_count_106 : decode cX5_count 106 = .ok (.getfield 267, 3) := by decide +kernel
theorem dX5_count_109 : decode cX5_count 109 = .ok (.ireturn, 1) := by decide +kernel
theorem dX5_count_110 : decode cX5_count 110 = .ok (.aload_n 0, 1) := by decide +kernel
theorem dX5_count_111 : decode cX5_count 111 = .ok (.iload_n 1, 1) := by decide +kernel
theorem dX5_count_112 : decode cX5_count 112 = .ok (.bipush 10, 2) := by decide +kernel
theorem dX5_count_114 : decode cX5_count 114 = .ok (.isub, 1) := by decide +kernel
theorem dX5_count_115 : decode cX5_count 115 = .ok (.invokevirtual 270, 3) := by decide +kernel
theorem dX5_count_118 : decode cX5_count 118 = .ok (.ireturn, 1) := by decide +kernel
theorem dX5_refuse_0 : decode cX5_refuse 0 = .ok (.iload_n 1, 1) := by decide +kernel
theorem dX5_refuse_1 : decode cX5_refuse 1 = .ok (.ineg, 1) := by decide +kernel
theorem dX5_refuse_2 : decode cX5_refuse 2 = .ok (.ifCond .le 21, 3) := by decide +kernel
theorem dX5_refuse_5 : decode cX5_refuse 5 = .ok (.iload_n 1, 1) := by decide +kernel
theorem dX5_refuse_6 : decode cX5_refuse 6 = .ok (.ineg, 1) := by decide +kernel
theorem dX5_refuse_7 : decode cX5_refuse 7 = .ok (.bipush 6, 2) := by decide +kernel
theorem dX5_refuse_9 : decode cX5_refuse 9 = .ok (.if_icmp .gt 14, 3) := by decide +kernel
theorem dX5_refuse_12 : decode cX5_refuse 12 = .ok (.aload_n 0, 1) := by decide +kernel
theorem dX5_refuse_13 : decode cX5_refuse 13 = .ok (.getfield 41, 3) := by decide +kernel
theorem dX5_refuse_16 : decode cX5_refuse 16 = .ok (.iload_n 1, 1) := by decide +kernel
theorem dX5_refuse_17 : decode cX5_refuse 17 = .ok (.ineg, 1) := by decide +kernel
theorem dX5_refuse_18 : decode cX5_refuse 18 = .ok (.dup2, 1) := by decide +kernel
theorem dX5_refuse_19 : decode cX5_refuse 19 = .ok (.iaload, 1) := by decide +kernel
theorem dX5_refuse_20 : decode cX5_refuse 20 = .ok (.iconst 1, 1) := by decide +kernel
theorem dX5_refuse_21 : decode cX5_refuse 21 = .ok (.iadd, 1) := by decide +kernel
theorem dX5_refuse_22 : decode cX5_refuse 22 = .ok (.iastore, 1) := by decide +kernel
theorem dX5_refuse_23 : decode cX5_refuse 23 = .ok (.iload_n 1, 1) := by decide +kernel
theorem dX5_refuse_24 : decode cX5_refuse 24 = .ok (.ireturn, 1) := by decide +kernel
theorem dX5_refuseLong_0 : decode cX5_refuseLong 0 = .ok (.ldc2_w 273, 3) := by decide +kernel
theorem dX5_refuseLong_3 : decode cX5_refuseLong 3 = .ok (.aload_n 0, 1) := by decide +kernel
theorem dX5_refuseLong_4 : decode cX5_refuseLong 4 = .ok (.iload_n 1, 1) := by decide +kernel
theorem dX5_refuseLong_5 : decode cX5_refuseLong 5 = .ok (.invokevirtual 44, 3) := by decide +kernel
theorem dX5_refuseLong_8 : decode cX5_refuseLong 8 = .ok (.i2l, 1) := by decide +kernel
theorem dX5_refuseLong_9 : decode cX5_refuseLong 9 = .ok (.lsub, 1) := by decide +kernel
theorem dX5_refuseLong_10 : decode cX5_refuseLong 10 = .ok (.lreturn, 1) := by decide +kernel
theorem dX5_refusalsCounted_0 : decode cX5_refusalsCounted 0 = .ok (.iload_n 1, 1) := by decide +kernel
theorem dX5_refusalsCounted_1 : decode cX5_refusalsCounted 1 = .ok (.iconst 1, 1) := by decide +kernel
theorem dX5_refusalsCounted_2 : decode cX5_refusalsCounted 2 = .ok (.if_icmp .lt 18, 3) := by decide +kernel
theorem dX5_refusalsCounted_5 : decode cX5_refusalsCounted 5 = .ok (.iload_n 1, 1) := by decide +kernel
theorem dX5_refusalsCounted_6 : decode cX5_refusalsCounted 6 = .ok (.bipush 6, 2) := by decide +kernel
theorem dX5_refusalsCounted_8 : decode cX5_refusalsCounted 8 = .ok (.if_icmp .gt 12, 3) := by decide +kernel
theorem dX5_refusalsCounted_11 : decode cX5_refusalsCounted 11 = .ok (.aload_n 0, 1) := by decide +kernel
theorem dX5_refusalsCounted_12 : decode cX5_refusalsCounted 12 = .ok (.getfield 41, 3) := by decide +kernel
theorem dX5_refusalsCounted_15 : decode cX5_refusalsCounted 15 = .ok (.iload_n 1, 1) := by decide +kernel
theorem dX5_refusalsCounted_16 : decode cX5_refusalsCounted 16 = .ok (.iaload, 1) := by decide +kernel
theorem dX5_refusalsCounted_17 : decode cX5_refusalsCounted 17 = .ok (.goto 5, 3) := by decide +kernel
theorem dX5_refusalsCounted_20 : decode cX5_refusalsCounted 20 = .ok (.bipush (-9), 2) := by decide +kernel
theorem dX5_refusalsCounted_22 : decode cX5_refusalsCounted 22 = .ok (.ireturn, 1) := by decide +kernel
theorem dX5_areTwo_0 : decode cX5_areTwo 0 = .ok (.aload_n 0, 1) := by decide +kernel
theorem dX5_areTwo_1 : decode cX5_areTwo 1 = .ok (.getfield 20, 3) := by decide +kernel
theorem dX5_areTwo_4 : decode cX5_areTwo 4 = .ok (.iload_n 1, 1) := by decide +kernel
theorem dX5_areTwo_5 : decode cX5_areTwo 5 = .ok (.invokevirtual 74, 3) := by decide +kernel
theorem dX5_areTwo_8 : decode cX5_areTwo 8 = .ok (.ifCond .eq 23, 3) := by decide +kernel
theorem dX5_areTwo_11 : decode cX5_areTwo 11 = .ok (.aload_n 0, 1) := by decide +kernel
theorem dX5_areTwo_12 : decode cX5_areTwo 12 = .ok (.getfield 20, 3) := by decide +kernel
theorem dX5_areTwo_15 : decode cX5_areTwo 15 = .ok (.iload_n 2, 1) := by decide +kernel
theorem dX5_areTwo_16 : decode cX5_areTwo 16 = .ok (.invokevirtual 74, 3) := by decide +kernel
theorem dX5_areTwo_19 : decode cX5_areTwo 19 = .ok (.ifCond .eq 12, 3) := by decide +kernel
theorem dX5_areTwo_22 : decode cX5_areTwo 22 = .ok (.iload_n 1, 1) := by decide +kernel
theorem dX5_areTwo_23 : decode cX5_areTwo 23 = .ok (.iload_n 2, 1) := by decide +kernel
theorem dX5_areTwo_24 : decode cX5_areTwo 24 = .ok (.if_icmp .eq 7, 3) := by decide +kernel
theorem dX5_areTwo_27 : decode cX5_areTwo 27 = .ok (.iconst 1, 1) := by decide +kernel
theorem dX5_areTwo_28 : decode cX5_areTwo 28 = .ok (.goto 4, 3) := by decide +kernel
theorem dX5_areTwo_31 : decode cX5_areTwo 31 = .ok (.iconst 0, 1) := by decide +kernel
theorem dX5_areTwo_32 : decode cX5_areTwo 32 = .ok (.ireturn, 1) := by decide +kernel
theorem dX5_outside_0 : decode cX5_outside 0 = .ok (.iload_n 0, 1) := by decide +kernel
theorem dX5_outside_1 : decode cX5_outside 1 = .ok (.iload_n 1, 1) := by decide +kernel
theorem dX5_outside_2 : decode cX5_outside 2 = .ok (.if_icmp .ge 6, 3) := by decide +kernel
theorem dX5_outside_5 : decode cX5_outside 5 = .ok (.bipush (-4), 2) := by decide +kernel
theorem dX5_outside_7 : decode cX5_outside 7 = .ok (.ireturn, 1) := by decide +kernel
theorem dX5_outside_8 : decode cX5_outside 8 = .ok (.iload_n 0, 1) := by decide +kernel
theorem dX5_outside_9 : decode cX5_outside 9 = .ok (.iload_n 2, 1) := by decide +kernel
theorem dX5_outside_10 : decode cX5_outside 10 = .ok (.if_icmp .le 8, 3) := by decide +kernel
theorem dX5_outside_13 : decode cX5_outside 13 = .ok (.bipush (-6), 2) := by decide +kernel
theorem dX5_outside_15 : decode cX5_outside 15 = .ok (.goto 4, 3) := by decide +kernel
theorem dX5_outside_18 : decode cX5_outside 18 = .ok (.iconst 0, 1) := by decide +kernel
theorem dX5_outside_19 : decode cX5_outside 19 = .ok (.ireturn, 1) := by decide +kernel
theorem dX5_power_0 : decode cX5_power 0 = .ok (.lconst 1, 1) := by decide +kernel
theorem dX5_power_1 : decode cX5_power 1 = .ok (.lstore_n 3, 1) := by decide +kernel
theorem dX5_power_2 : decode cX5_power 2 = .ok (.iconst 0, 1) := by decide +kernel
theorem dX5_power_3 : decode cX5_power 3 = .ok (.istore 5, 2) := by decide +kernel
theorem dX5_power_5 : decode cX5_power 5 = .ok (.iload 5, 2) := by decide +kernel
theorem dX5_power_7 : decode cX5_power 7 = .ok (.iload_n 2, 1) := by decide +kernel
theorem dX5_power_8 : decode cX5_power 8 = .ok (.if_icmp .ge 13, 3) := by decide +kernel
theorem dX5_power_11 : decode cX5_power 11 = .ok (.lload_n 3, 1) := by decide +kernel
theorem dX5_power_12 : decode cX5_power 12 = .ok (.lload_n 0, 1) := by decide +kernel
theorem dX5_power_13 : decode cX5_power 13 = .ok (.lmul, 1) := by decide +kernel
theorem dX5_power_14 : decode cX5_power 14 = .ok (.lstore_n 3, 1) := by decide +kernel
theorem dX5_power_15 : decode cX5_power 15 = .ok (.iinc 5 1, 3) := by decide +kernel
theorem dX5_power_18 : decode cX5_power 18 = .ok (.goto (-13), 3) := by decide +kernel
theorem dX5_power_21 : decode cX5_power 21 = .ok (.lload_n 3, 1) := by decide +kernel
theorem dX5_power_22 : decode cX5_power 22 = .ok (.lreturn, 1) := by decide +kernel
theorem dX5_inLeastTerms_0 : decode cX5_inLeastTerms 0 = .ok (.lload_n 0, 1) := by decide +kernel
theorem dX5_inLeastTerms_1 : decode cX5_inLeastTerms 1 = .ok (.lload_n 2, 1) := by decide +kernel
theorem dX5_inLeastTerms_2 : decode cX5_inLeastTerms 2 = .ok (.invokestatic 275, 3) := by decide +kernel
theorem dX5_inLeastTerms_5 : decode cX5_inLeastTerms 5 = .ok (.lstore 5, 2) := by decide +kernel
theorem dX5_inLeastTerms_7 : decode cX5_inLeastTerms 7 = .ok (.lload 5, 2) := by decide +kernel
theorem dX5_inLeastTerms_9 : decode cX5_inLeastTerms 9 = .ok (.lconst 0, 1) := by decide +kernel
theorem dX5_inLeastTerms_10 : decode cX5_inLeastTerms 10 = .ok (.lcmp, 1) := by decide +kernel
theorem dX5_inLeastTerms_11 : decode cX5_inLeastTerms 11 = .ok (.ifCond .gt 5, 3) := by decide +kernel
theorem dX5_inLeastTerms_14 : decode cX5_inLeastTerms 14 = .ok (.lconst 0, 1) := by decide +kernel
theorem dX5_inLeastTerms_15 : decode cX5_inLeastTerms 15 = .ok (.lreturn, 1) := by decide +kernel
theorem dX5_inLeastTerms_16 : decode cX5_inLeastTerms 16 = .ok (.iload 4, 2) := by decide +kernel
theorem dX5_inLeastTerms_18 : decode cX5_inLeastTerms 18 = .ok (.ifCond .ne 7, 3) := by decide +kernel
theorem dX5_inLeastTerms_21 : decode cX5_inLeastTerms 21 = .ok (.lload_n 0, 1) := by decide +kernel
theorem dX5_inLeastTerms_22 : decode cX5_inLeastTerms 22 = .ok (.goto 4, 3) := by decide +kernel
theorem dX5_inLeastTerms_25 : decode cX5_inLeastTerms 25 = .ok (.lload_n 2, 1) := by decide +kernel
theorem dX5_inLeastTerms_26 : decode cX5_inLeastTerms 26 = .ok (.lload 5, 2) := by decide +kernel
theorem dX5_inLeastTerms_28 : decode cX5_inLeastTerms 28 = .ok (.ldiv, 1) := by decide +kernel
theorem dX5_inLeastTerms_29 : decode cX5_inLeastTerms 29 = .ok (.lreturn, 1) := by decide +kernel
theorem dX5_commonDivisor_0 : decode cX5_commonDivisor 0 = .ok (.lload_n 0, 1) := by decide +kernel
theorem dX5_commonDivisor_1 : decode cX5_commonDivisor 1 = .ok (.lstore 4, 2) := by decide +kernel
theorem dX5_commonDivisor_3 : decode cX5_commonDivisor 3 = .ok (.lload_n 2, 1) := by decide +kernel
theorem dX5_commonDivisor_4 : decode cX5_commonDivisor 4 = .ok (.lstore 6, 2) := by decide +kernel
theorem dX5_commonDivisor_6 : decode cX5_commonDivisor 6 = .ok (.iconst 0, 1) := by decide +kernel
theorem dX5_commonDivisor_7 : decode cX5_commonDivisor 7 = .ok (.istore 8, 2) := by decide +kernel
theorem dX5_commonDivisor_9 : decode cX5_commonDivisor 9 = .ok (.iload 8, 2) := by decide +kernel
theorem dX5_commonDivisor_11 : decode cX5_commonDivisor 11 = .ok (.bipush 100, 2) := by decide +kernel
theorem dX5_commonDivisor_13 : decode cX5_commonDivisor 13 = .ok (.if_icmp .ge 31, 3) := by decide +kernel
theorem dX5_commonDivisor_16 : decode cX5_commonDivisor 16 = .ok (.lload 6, 2) := by decide +kernel
theorem dX5_commonDivisor_18 : decode cX5_commonDivisor 18 = .ok (.lconst 0, 1) := by decide +kernel
theorem dX5_commonDivisor_19 : decode cX5_commonDivisor 19 = .ok (.lcmp, 1) := by decide +kernel
theorem dX5_commonDivisor_20 : decode cX5_commonDivisor 20 = .ok (.ifCond .eq 24, 3) := by decide +kernel
theorem dX5_commonDivisor_23 : decode cX5_commonDivisor 23 = .ok (.lload 4, 2) := by decide +kernel
theorem dX5_commonDivisor_25 : decode cX5_commonDivisor 25 = .ok (.lload 6, 2) := by decide +kernel
theorem dX5_commonDivisor_27 : decode cX5_commonDivisor 27 = .ok (.lrem, 1) := by decide +kernel
theorem dX5_commonDivisor_28 : decode cX5_commonDivisor 28 = .ok (.lstore 9, 2) := by decide +kernel
theorem dX5_commonDivisor_30 : decode cX5_commonDivisor 30 = .ok (.lload 6, 2) := by decide +kernel
theorem dX5_commonDivisor_32 : decode cX5_commonDivisor 32 = .ok (.lstore 4, 2) := by decide +kernel
theorem dX5_commonDivisor_34 : decode cX5_commonDivisor 34 = .ok (.lload 9, 2) := by decide +kernel
theorem dX5_commonDivisor_36 : decode cX5_commonDivisor 36 = .ok (.lstore 6, 2) := by decide +kernel
theorem dX5_commonDivisor_38 : decode cX5_commonDivisor 38 = .ok (.iinc 8 1, 3) := by decide +kernel
theorem dX5_commonDivisor_41 : decode cX5_commonDivisor 41 = .ok (.goto (-32), 3) := by decide +kernel
theorem dX5_commonDivisor_44 : decode cX5_commonDivisor 44 = .ok (.lload 4, 2) := by decide +kernel
theorem dX5_commonDivisor_46 : decode cX5_commonDivisor 46 = .ok (.lreturn, 1) := by decide +kernel
theorem dX5_has_0 : decode cX5_has 0 = .ok (.iload_n 0, 1) := by decide +kernel
theorem dX5_has_1 : decode cX5_has 1 = .ok (.iload_n 1, 1) := by decide +kernel
theorem dX5_has_2 : decode cX5_has 2 = .ok (.ishr, 1) := by decide +kernel
theorem dX5_has_3 : decode cX5_has 3 = .ok (.iconst 1, 1) := by decide +kernel
theorem dX5_has_4 : decode cX5_has 4 = .ok (.iand, 1) := by decide +kernel
theorem dX5_has_5 : decode cX5_has 5 = .ok (.ifCond .eq 7, 3) := by decide +kernel
theorem dX5_has_8 : decode cX5_has 8 = .ok (.iconst 1, 1) := by decide +kernel
theorem dX5_has_9 : decode cX5_has 9 = .ok (.goto 4, 3) := by decide +kernel
theorem dX5_has_12 : decode cX5_has 12 = .ok (.iconst 0, 1) := by decide +kernel
theorem dX5_has_13 : decode cX5_has 13 = .ok (.ireturn, 1) := by decide +kernel
theorem dX6_init_0 : decode cX6_init 0 = .ok (.aload_n 0, 1) := by decide +kernel
theorem dX6_init_1 : decode cX6_init 1 = .ok (.invokespecial 1, 3) := by decide +kernel
theorem dX6_init_4 : decode cX6_init 4 = .ok (.aload_n 0, 1) := by decide +kernel
theorem dX6_init_5 : decode cX6_init 5 = .ok (.bipush 71, 2) := by decide +kernel
theorem dX6_init_7 : decode cX6_init 7 = .ok (.newarray .int, 2) := by decide +kernel
theorem dX6_init_9 : decode cX6_init 9 = .ok (.putfield 9, 3) := by decide +kernel
theorem dX6_init_12 : decode cX6_init 12 = .ok (.aload_n 0, 1) := by decide +kernel
theorem dX6_init_13 : decode cX6_init 13 = .ok (.bipush 71, 2) := by decide +kernel
theorem dX6_init_15 : decode cX6_init 15 = .ok (.newarray .int, 2) := by decide +kernel
theorem dX6_init_17 : decode cX6_init 17 = .ok (.putfield 13, 3) := by decide +kernel
theorem dX6_init_20 : decode cX6_init 20 = .ok (.aload_n 0, 1) := by decide +kernel
theorem dX6_init_21 : decode cX6_init 21 = .ok (.bipush 71, 2) := by decide +kernel
theorem dX6_init_23 : decode cX6_init 23 = .ok (.newarray .int, 2) := by decide +kernel
theorem dX6_init_25 : decode cX6_init 25 = .ok (.putfield 16, 3) := by decide +kernel
theorem dX6_init_28 : decode cX6_init 28 = .ok (.aload_n 0, 1) := by decide +kernel
theorem dX6_init_29 : decode cX6_init 29 = .ok (.bipush 71, 2) := by decide +kernel
theorem dX6_init_31 : decode cX6_init 31 = .ok (.newarray .int, 2) := by decide +kernel
theorem dX6_init_33 : decode cX6_init 33 = .ok (.putfield 19, 3) := by decide +kernel
theorem dX6_init_36 : decode cX6_init 36 = .ok (.aload_n 0, 1) := by decide +kernel
theorem dX6_init_37 : decode cX6_init 37 = .ok (.bipush 96, 2) := by decide +kernel
theorem dX6_init_39 : decode cX6_init 39 = .ok (.newarray .int, 2) := by decide +kernel
theorem dX6_init_41 : decode cX6_init 41 = .ok (.putfield 22, 3) := by decide +kernel
theorem dX6_init_44 : decode cX6_init 44 = .ok (.aload_n 0, 1) := by decide +kernel
theorem dX6_init_45 : decode cX6_init 45 = .ok (.bipush 16, 2) := by decide +kernel
theorem dX6_init_47 : decode cX6_init 47 = .ok (.newarray .int, 2) := by decide +kernel
theorem dX6_init_49 : decode cX6_init 49 = .ok (.putfield 25, 3) := by decide +kernel
theorem dX6_init_52 : decode cX6_init 52 = .ok (.aload_n 0, 1) := by decide +kernel
theorem dX6_init_53 : decode cX6_init 53 = .ok (.bipush 7, 2) := by decide +kernel
theorem dX6_init_55 : decode cX6_init 55 = .ok (.newarray .int, 2) := by decide +kernel
theorem dX6_init_57 : decode cX6_init 57 = .ok (.putfield 28, 3) := by decide +kernel
theorem dX6_init_60 : decode cX6_init 60 = .ok (.aload_n 0, 1) := by decide +kernel
theorem dX6_init_61 : decode cX6_init 61 = .ok (.iconst 3, 1) := by decide +kernel
theorem dX6_init_62 : decode cX6_init 62 = .ok (.newarray .int, 2) := by decide +kernel
theorem dX6_init_64 : decode cX6_init 64 = .ok (.putfield 31, 3) := by decide +kernel
theorem dX6_init_67 : decode cX6_init 67 = .ok (.aload_n 0, 1) := by decide +kernel
theorem dX6_init_68 : decode cX6_init 68 = .ok (.bipush 7, 2) := by decide +kernel
theorem dX6_init_70 : decode cX6_init 70 = .ok (.newarray .int, 2) := by decide +kernel
theorem dX6_init_72 : decode cX6_init 72 = .ok (.putfield 34, 3) := by decide +kernel
theorem dX6_init_75 : decode cX6_init 75 = .ok (.return_, 1) := by decide +kernel
theorem dX6_isIn_0 : decode cX6_isIn 0 = .ok (.iload_n 0, 1) := by decide +kernel
theorem dX6_isIn_1 : decode cX6_isIn 1 = .ok (.iload_n 1, 1) := by decide +kernel
theorem dX6_isIn_2 : decode cX6_isIn 2 = .ok (.if_icmp .lt 12, 3) := by decide +kernel
theorem dX6_isIn_5 : decode cX6_isIn 5 = .ok (.iload_n 0, 1) := by decide +kernel
theorem dX6_isIn_6 : decode cX6_isIn 6 = .ok (.iload_n 2, 1) := by decide +kernel
theorem dX6_isIn_7 : decode cX6_isIn 7 = .ok (.if_icmp .gt 7, 3) := by decide +kernel
theorem dX6_isIn_10 : decode cX6_isIn 10 = .ok (.iconst 1, 1) := by decide +kernel
theorem dX6_isIn_11 : decode cX6_isIn 11 = .ok (.goto 4, 3) := by decide +kernel
theorem dX6_isIn_14 : decode cX6_isIn 14 = .ok (.iconst 0, 1) := by decide +kernel
theorem dX6_isIn_15 : decode cX6_isIn 15 = .ok (.ireturn, 1) := by decide +kernel
theorem dX6_least_0 : decode cX6_least 0 = .ok (.iload_n 0, 1) := by decide +kernel
theorem dX6_least_1 : decode cX6_least 1 = .ok (.iload_n 1, 1) := by decide +kernel
theorem dX6_least_2 : decode cX6_least 2 = .ok (.if_icmp .ge 7, 3) := by decide +kernel
theorem dX6_least_5 : decode cX6_least 5 = .ok (.iload_n 0, 1) := by decide +kernel
theorem dX6_least_6 : decode cX6_least 6 = .ok (.goto 4, 3) := by decide +kernel
theorem dX6_least_9 : decode cX6_least 9 = .ok (.iload_n 1, 1) := by decide +kernel
theorem dX6_least_10 : decode cX6_least 10 = .ok (.ireturn, 1) := by decide +kernel
theorem dX6_copies_0 : decode cX6_copies 0 = .ok (.iconst 0, 1) := by decide +kernel
theorem dX6_copies_1 : decode cX6_copies 1 = .ok (.istore_n 2, 1) := by decide +kernel
theorem dX6_copies_2 : decode cX6_copies 2 = .ok (.iload_n 2, 1) := by decide +kernel
theorem dX6_copies_3 : decode cX6_copies 3 = .ok (.bipush 71, 2) := by decide +kernel
theorem dX6_copies_5 : decode cX6_copies 5 = .ok (.if_icmp .ge 15, 3) := by decide +kernel
theorem dX6_copies_8 : decode cX6_copies 8 = .ok (.aload_n 1, 1) := by decide +kernel
theorem dX6_copies_9 : decode cX6_copies 9 = .ok (.iload_n 2, 1) := by decide +kernel
theorem dX6_copies_10 : decode cX6_copies 10 = .ok (.aload_n 0, 1) := by decide +kernel
theorem dX6_copies_11 : decode cX6_copies 11 = .ok (.iload_n 2, 1) := by decide +kernel
theorem dX6_copies_12 : decode cX6_copies 12 = .ok (.iaload, 1) := by decide +kernel
theorem dX6_copies_13 : decode cX6_copies 13 = .ok (.iastore, 1) := by decide +kernel
theorem dX6_copies_14 : decode cX6_copies 14 = .ok (.iinc 2 1, 3) := by decide +kernel
theorem dX6_copies_17 : decode cX6_copies 17 = .ok (.goto (-15), 3) := by decide +kernel
theorem dX6_copies_20 : decode cX6_copies 20 = .ok (.return_, 1) := by decide +kernel
theorem dX6_no_0 : decode cX6_no 0 = .ok (.aload_n 0, 1) := by decide +kernel
theorem dX6_no_1 : decode cX6_no 1 = .ok (.getfield 28, 3) := by decide +kernel
theorem dX6_no_4 : decode cX6_no 4 = .ok (.iload_n 1, 1) := by decide +kernel
theorem dX6_no_5 : decode cX6_no 5 = .ok (.ineg, 1) := by decide +kernel
theorem dX6_no_6 : decode cX6_no 6 = .ok (.dup2, 1) := by decide +kernel
theorem dX6_no_7 : decode cX6_no 7 = .ok (.iaload, 1) := by decide +kernel
theorem dX6_no_8 : decode cX6_no 8 = .ok (.iconst 1, 1) := by decide +kernel
theorem dX6_no_9 : decode cX6_no 9 = .ok (.iadd, 1) := by decide +kernel
theorem dX6_no_10 : decode cX6_no 10 = .ok (.iastore, 1) := by decide +kernel
theorem dX6_no_11 : decode cX6_no 11 = .ok (.iload_n 1, 1) := by decide +kernel
theorem dX6_no_12 : decode cX6_no 12 = .ok (.ireturn, 1) := by decide +kernel
theorem dX6_noWide_0 : decode cX6_noWide 0 = .ok (.ldc2_w 37, 3) := by decide +kernel
theorem dX6_noWide_3 : decode cX6_noWide 3 = .ok (.aload_n 0, 1) := by decide +kernel
theorem dX6_noWide_4 : decode cX6_noWide 4 = .ok (.iload_n 1, 1) := by decide +kernel
theorem dX6_noWide_5 : decode cX6_noWide 5 = .ok (.invokevirtual 39, 3) := by decide +kernel
theorem dX6_noWide_8 : decode cX6_noWide 8 = .ok (.i2l, 1) := by decide +kernel
theorem dX6_noWide_9 : decode cX6_noWide 9 = .ok (.lsub, 1) := by decide +kernel
theorem dX6_noWide_10 : decode cX6_noWide 10 = .ok (.lreturn, 1) := by decide +kernel
theorem dX6_of_0 : decode cX6_of 0 = .ok (.bipush 23, 2) := by decide +kernel
theorem dX6_of_2 : decode cX6_of 2 = .ok (.bipush 6, 2) := by decide +kernel
theorem dX6_of_4 : decode cX6_of 4 = .ok (.iload_n 0, 1) := by decide +kernel
theorem dX6_of_5 : decode cX6_of 5 = .ok (.imul, 1) := by decide +kernel
theorem dX6_of_6 : decode cX6_of 6 = .ok (.iadd, 1) := by decide +kernel
theorem dX6_of_7 : decode cX6_of 7 = .ok (.iload_n 1, 1) := by decide +kernel
theorem dX6_of_8 : decode cX6_of 8 = .ok (.iadd, 1) := by decide +kernel
theorem dX6_of_9 : decode cX6_of 9 = .ok (.ireturn, 1) := by decide +kernel
theorem dX6_isHouse_0 : decode cX6_isHouse 0 = .ok (.iload_n 1, 1) := by decide +kernel
theorem dX6_isHouse_1 : decode cX6_isHouse 1 = .ok (.iconst 0, 1) := by decide +kernel
theorem dX6_isHouse_2 : decode cX6_isHouse 2 = .ok (.aload_n 0, 1) := by decide +kernel
theorem dX6_isHouse_3 : decode cX6_isHouse 3 = .ok (.getfield 9, 3) := by decide +kernel
theorem dX6_isHouse_6 : decode cX6_isHouse 6 = .ok (.iconst 0, 1) := by decide +kernel
theorem dX6_isHouse_7 : decode cX6_isHouse 7 = .ok (.iaload, 1) := by decide +kernel
theorem dX6_isHouse_8 : decode cX6_isHouse 8 = .ok (.iconst 1, 1) := by decide +kernel
theorem dX6_isHouse_9 : decode cX6_isHouse 9 = .ok (.isub, 1) := by decide +kernel
theorem dX6_isHouse_10 : decode cX6_isHouse 10 = .ok (.invokestatic 43, 3) := by decide +kernel
theorem dX6_isHouse_13 : decode cX6_isHouse 13 = .ok (.ireturn, 1) := by decide +kernel
theorem dX6_isCell_0 : decode cX6_isCell 0 = .ok (.iload_n 0, 1) := by decide +kernel
theorem dX6_isCell_1 : decode cX6_isCell 1 = .ok (.iconst 0, 1) := by decide +kernel
theorem dX6_isCell_2 : decode cX6_isCell 2 = .ok (.bipush 19, 2) := by decide +kernel
theorem dX6_isCell_4 : decode cX6_isCell 4 = .ok (.invokestatic 43, 3) := by decide +kernel
theorem dX6_isCell_7 : decode cX6_isCell 7 = .ok (.ireturn, 1) := by decide +kernel
theorem dX6_has_0 : decode cX6_has 0 = .ok (.iload_n 0, 1) := by decide +kernel
theorem dX6_has_1 : decode cX6_has 1 = .ok (.iload_n 1, 1) := by decide +kernel
theorem dX6_has_2 : decode cX6_has 2 = .ok (.ishr, 1) := by decide +kernel
theorem dX6_has_3 : decode cX6_has 3 = .ok (.iconst 1, 1) := by decide +kernel
theorem dX6_has_4 : decode cX6_has 4 = .ok (.iand, 1) := by decide +kernel
theorem dX6_has_5 : decode cX6_has 5 = .ok (.iconst 1, 1) := by decide +kernel
theorem dX6_has_6 : decode cX6_has 6 = .ok (.if_icmp .ne 7, 3) := by decide +kernel
theorem dX6_has_9 : decode cX6_has 9 = .ok (.iconst 1, 1) := by decide +kernel
theorem dX6_has_10 : decode cX6_has 10 = .ok (.goto 4, 3) := by decide +kernel
theorem dX6_has_13 : decode cX6_has 13 = .ok (.iconst 0, 1) := by decide +kernel
theorem dX6_has_14 : decode cX6_has 14 = .ok (.ireturn, 1) := by decide +kernel
theorem dX6_bits_0 : decode cX6_bits 0 = .ok (.iconst 0, 1) := by decide +kernel
theorem dX6_bits_1 : decode cX6_bits 1 = .ok (.istore_n 1, 1) := by decide +kernel
theorem dX6_bits_2 : decode cX6_bits 2 = .ok (.iconst 0, 1) := by decide +kernel
theorem dX6_bits_3 : decode cX6_bits 3 = .ok (.istore_n 2, 1) := by decide +kernel
theorem dX6_bits_4 : decode cX6_bits 4 = .ok (.iload_n 2, 1) := by decide +kernel
theorem dX6_bits_5 : decode cX6_bits 5 = .ok (.bipush 8, 2) := by decide +kernel
theorem dX6_bits_7 : decode cX6_bits 7 = .ok (.if_icmp .ge 17, 3) := by decide +kernel
theorem dX6_bits_10 : decode cX6_bits 10 = .ok (.iload_n 1, 1) := by decide +kernel
theorem dX6_bits_11 : decode cX6_bits 11 = .ok (.iload_n 0, 1) := by decide +kernel
theorem dX6_bits_12 : decode cX6_bits 12 = .ok (.iload_n 2, 1) := by decide +kernel
theorem dX6_bits_13 : decode cX6_bits 13 = .ok (.ishr, 1) := by decide +kernel
theorem dX6_bits_14 : decode cX6_bits 14 = .ok (.iconst 1, 1) := by decide +kernel
theorem dX6_bits_15 : decode cX6_bits 15 = .ok (.iand, 1) := by decide +kernel
theorem dX6_bits_16 : decode cX6_bits 16 = .ok (.iadd, 1) := by decide +kernel
theorem dX6_bits_17 : decode cX6_bits 17 = .ok (.istore_n 1, 1) := by decide +kernel
theorem dX6_bits_18 : decode cX6_bits 18 = .ok (.iinc 2 1, 3) := by decide +kernel
theorem dX6_bits_21 : decode cX6_bits 21 = .ok (.goto (-17), 3) := by decide +kernel
theorem dX6_bits_24 : decode cX6_bits 24 = .ok (.iload_n 1, 1) := by decide +kernel
theorem dX6_bits_25 : decode cX6_bits 25 = .ok (.ireturn, 1) := by decide +kernel
theorem dX6_candleBy_0 : decode cX6_candleBy 0 = .ok (.iload_n 0, 1) := by decide +kernel
theorem dX6_candleBy_1 : decode cX6_candleBy 1 = .ok (.tableswitch 45 1 4 #[31, 45, 37, 39], 31) := by decide +kernel
theorem dX6_candleBy_32 : decode cX6_candleBy 32 = .ok (.iconst 1, 1) := by decide +kernel
theorem dX6_candleBy_33 : decode cX6_candleBy 33 = .ok (.iload_n 1, 1) := by decide +kernel
theorem dX6_candleBy_34 : decode cX6_candleBy 34 = .ok (.iconst 2, 1) := by decide +kernel
theorem dX6_candleBy_35 : decode cX6_candleBy 35 = .ok (.idiv, 1) := by decide +kernel
theorem dX6_candleBy_36 : decode cX6_candleBy 36 = .ok (.iadd, 1) := by decide +kernel
theorem dX6_candleBy_37 : decode cX6_candleBy 37 = .ok (.ireturn, 1) := by decide +kernel
theorem dX6_candleBy_38 : decode cX6_candleBy 38 = .ok (.iconst 0, 1) := by decide +kernel
theorem dX6_candleBy_39 : decode cX6_candleBy 39 = .ok (.ireturn, 1) := by decide +kernel
theorem dX6_candleBy_40 : decode cX6_candleBy 40 = .ok (.iconst 3, 1) := by decide +kernel
theorem dX6_candleBy_41 : decode cX6_candleBy 41 = .ok (.iload_n 1, 1) := by decide +kernel
theorem dX6_candleBy_42 : decode cX6_candleBy 42 = .ok (.iconst 2, 1) := by decide +kernel
theorem dX6_candleBy_43 : decode cX6_candleBy 43 = .ok (.idiv, 1) := by decide +kernel
theorem dX6_candleBy_44 : decode cX6_candleBy 44 = .ok (.iadd, 1) := by decide +kernel
theorem dX6_candleBy_45 : decode cX6_candleBy 45 = .ok (.ireturn, 1) := by decide +kernel
theorem dX6_candleBy_46 : decode cX6_candleBy 46 = .ok (.iconst 1, 1) := by decide +kernel
theorem dX6_candleBy_47 : decode cX6_candleBy 47 = .ok (.ireturn, 1) := by decide +kernel
theorem dX6_doesSleep_0 : decode cX6_doesSleep 0 = .ok (.iload_n 2, 1) := by decide +kernel
theorem dX6_doesSleep_1 : decode cX6_doesSleep 1 = .ok (.iload_n 1, 1) := by decide +kernel
theorem dX6_doesSleep_2 : decode cX6_doesSleep 2 = .ok (.iconst 2, 1) := by decide +kernel
theorem dX6_doesSleep_3 : decode cX6_doesSleep 3 = .ok (.iadd, 1) := by decide +kernel
theorem dX6_doesSleep_4 : decode cX6_doesSleep 4 = .ok (.irem, 1) := by decide +kernel
theorem dX6_doesSleep_5 : decode cX6_doesSleep 5 = .ok (.ifCond .ne 7, 3) := by decide +kernel
theorem dX6_doesSleep_8 : decode cX6_doesSleep 8 = .ok (.iconst 1, 1) := by decide +kernel
theorem dX6_doesSleep_9 : decode cX6_doesSleep 9 = .ok (.goto 4, 3) := by decide +kernel
theorem dX6_doesSleep_12 : decode cX6_doesSleep 12 = .ok (.iconst 0, 1) := by decide +kernel
theorem dX6_doesSleep_13 : decode cX6_doesSleep 13 = .ok (.istore_n 3, 1) := by decide +kernel
theorem dX6_doesSleep_14 : decode cX6_doesSleep 14 = .ok (.iload_n 0, 1) := by decide +kernel
theorem dX6_doesSleep_15 : decode cX6_doesSleep 15 = .ok (.tableswitch 60 2 5 #[29, 29, 31, 44], 29) := by decide +kernel
theorem dX6_doesSleep_44 : decode cX6_doesSleep 44 = .ok (.iload_n 3, 1) := by decide +kernel
theorem dX6_doesSleep_45 : decode cX6_doesSleep 45 = .ok (.ireturn, 1) := by decide +kernel
theorem dX6_doesSleep_46 : decode cX6_doesSleep 46 = .ok (.iload_n 2, 1) := by decide +kernel
theorem dX6_doesSleep_47 : decode cX6_doesSleep 47 = .ok (.iconst 2, 1) := by decide +kernel
theorem dX6_doesSleep_48 : decode cX6_doesSleep 48 = .ok (.irem, 1) := by decide +kernel
theorem dX6_doesSleep_49 : decode cX6_doesSleep 49 = .ok (.iconst 1, 1) := by decide +kernel
theorem dX6_doesSleep_50 : decode cX6_doesSleep 50 = .ok (.if_icmp .ne 7, 3) := by decide +kernel
theorem dX6_doesSleep_53 : decode cX6_doesSleep 53 = .ok (.iconst 1, 1) := by decide +kernel
theorem dX6_doesSleep_54 : decode cX6_doesSleep 54 = .ok (.goto 4, 3) := by decide +kernel
theorem dX6_doesSleep_57 : decode cX6_doesSleep 57 = .ok (.iconst 0, 1) := by decide +kernel
theorem dX6_doesSleep_58 : decode cX6_doesSleep 58 = .ok (.ireturn, 1) := by decide +kernel
theorem dX6_doesSleep_59 : decode cX6_doesSleep 59 = .ok (.iload_n 3, 1) := by decide +kernel
theorem dX6_doesSleep_60 : decode cX6_doesSleep 60 = .ok (.ifCond .ne 9, 3) := by decide +kernel
theorem dX6_doesSleep_63 : decode cX6_doesSleep 63 = .ok (.iload_n 2, 1) := by decide +kernel
theorem dX6_doesSleep_64 : decode cX6_doesSleep 64 = .ok (.iconst 3, 1) := by decide +kernel
theorem dX6_doesSleep_65 : decode cX6_doesSleep 65 = .ok (.irem, 1) := by decide +kernel
theorem dX6_doesSleep_66 : decode cX6_doesSleep 66 = .ok (.ifCond .ne 7, 3) := by decide +kernel
theorem dX6_doesSleep_69 : decode cX6_doesSleep 69 = .ok (.iconst 1, 1) := by decide +kernel
theorem dX6_doesSleep_70 : decode cX6_doesSleep 70 = .ok (.goto 4, 3) := by decide +kernel
theorem dX6_doesSleep_73 : decode cX6_doesSleep 73 = .ok (.iconst 0, 1) := by decide +kernel
theorem dX6_doesSleep_74 : decode cX6_doesSleep 74 = .ok (.ireturn, 1) := by decide +kernel
theorem dX6_doesSleep_75 : decode cX6_doesSleep 75 = .ok (.iconst 0, 1) := by decide +kernel
theorem dX6_doesSleep_76 : decode cX6_doesSleep 76 = .ok (.ireturn, 1) := by decide +kernel
theorem dX6_burnsBy_0 : decode cX6_burnsBy 0 = .ok (.iload_n 0, 1) := by decide +kernel
theorem dX6_burnsBy_1 : decode cX6_burnsBy 1 = .ok (.iconst 1, 1) := by decide +kernel
theorem dX6_burnsBy_2 : decode cX6_burnsBy 2 = .ok (.if_icmp .eq 13, 3) := by decide +kernel
theorem dX6_burnsBy_5 : decode cX6_burnsBy 5 = .ok (.iload_n 0, 1) := by decide +kernel
theorem dX6_burnsBy_6 : decode cX6_burnsBy 6 = .ok (.iconst 4, 1) := by decide +kernel
theorem dX6_burnsBy_7 : decode cX6_burnsBy 7 = .ok (.if_icmp .eq 8, 3) := by decide +kernel
theorem dX6_burnsBy_10 : decode cX6_burnsBy 10 = .ok (.iload_n 0, 1) := by decide +kernel
theorem dX6_burnsBy_11 : decode cX6_burnsBy 11 = .ok (.iconst 5, 1) := by decide +kernel
theorem dX6_burnsBy_12 : decode cX6_burnsBy 12 = .ok (.if_icmp .ne 7, 3) := by decide +kernel
theorem dX6_burnsBy_15 : decode cX6_burnsBy 15 = .ok (.iconst 2, 1) := by decide +kernel
theorem dX6_burnsBy_16 : decode cX6_burnsBy 16 = .ok (.goto 4, 3) := by decide +kernel
theorem dX6_burnsBy_19 : decode cX6_burnsBy 19 = .ok (.iconst 1, 1) := by decide +kernel
theorem dX6_burnsBy_20 : decode cX6_burnsBy 20 = .ok (.ireturn, 1) := by decide +kernel
theorem dX6_isLit_0 : decode cX6_isLit 0 = .ok (.aload_n 0, 1) := by decide +kernel
theorem dX6_isLit_1 : decode cX6_isLit 1 = .ok (.iload_n 1, 1) := by decide +kernel
theorem dX6_isLit_2 : decode cX6_isLit 2 = .ok (.iconst 0, 1) := by decide +kernel
theorem dX6_isLit_3 : decode cX6_isLit 3 = .ok (.invokestatic 47, 3) := by decide +kernel
theorem dX6_isLit_6 : decode cX6_isLit 6 = .ok (.iaload, 1) := by decide +kernel
theorem dX6_isLit_7 : decode cX6_isLit 7 = .ok (.istore_n 2, 1) := by decide +kernel
theorem dX6_isLit_8 : decode cX6_isLit 8 = .ok (.aload_n 0, 1) := by decide +kernel
theorem dX6_isLit_9 : decode cX6_isLit 9 = .ok (.iload_n 1, 1) := by decide +kernel
theorem dX6_isLit_10 : decode cX6_isLit 10 = .ok (.iconst 3, 1) := by decide +kernel
theorem dX6_isLit_11 : decode cX6_isLit 11 = .ok (.invokestatic 47, 3) := by decide +kernel
theorem dX6_isLit_14 : decode cX6_isLit 14 = .ok (.iaload, 1) := by decide +kernel
theorem dX6_isLit_15 : decode cX6_isLit 15 = .ok (.iload_n 2, 1) := by decide +kernel
theorem dX6_isLit_16 : decode cX6_isLit 16 = .ok (.invokestatic 51, 3) := by decide +kernel
theorem dX6_isLit_19 : decode cX6_isLit 19 = .ok (.if_icmp .lt 35, 3) := by decide +kernel
theorem dX6_isLit_22 : decode cX6_isLit 22 = .ok (.aload_n 0, 1) := by decide +kernel
theorem dX6_isLit_23 : decode cX6_isLit 23 = .ok (.iload_n 1, 1) := by decide +kernel
theorem dX6_isLit_24 : decode cX6_isLit 24 = .ok (.iconst 4, 1) := by decide +kernel
theorem dX6_isLit_25 : decode cX6_isLit 25 = .ok (.invokestatic 47, 3) := by decide +kernel
theorem dX6_isLit_28 : decode cX6_isLit 28 = .ok (.iaload, 1) := by decide +kernel
theorem dX6_isLit_29 : decode cX6_isLit 29 = .ok (.iconst 1, 1) := by decide +kernel
theorem dX6_isLit_30 : decode cX6_isLit 30 = .ok (.if_icmp .eq 20, 3) := by decide +kernel
theorem dX6_isLit_33 : decode cX6_isLit 33 = .ok (.iload_n 2, 1) := by decide +kernel
theorem dX6_isLit_34 : decode cX6_isLit 34 = .ok (.aload_n 0, 1) := by decide +kernel
theorem dX6_isLit_35 : decode cX6_isLit 35 = .ok (.iload_n 1, 1) := by decide +kernel
theorem dX6_isLit_36 : decode cX6_isLit 36 = .ok (.iconst 1, 1) := by decide +kernel
theorem dX6_isLit_37 : decode cX6_isLit 37 = .ok (.invokestatic 47, 3) := by decide +kernel
theorem dX6_isLit_40 : decode cX6_isLit 40 = .ok (.iaload, 1) := by decide +kernel
theorem dX6_isLit_41 : decode cX6_isLit 41 = .ok (.aload_n 0, 1) := by decide +kernel
theorem dX6_isLit_42 : decode cX6_isLit 42 = .ok (.iconst 1, 1) := by decide +kernel
theorem dX6_isLit_43 : decode cX6_isLit 43 = .ok (.iaload, 1) := by decide +kernel
theorem dX6_isLit_44 : decode cX6_isLit 44 = .ok (.invokestatic 54, 3) := by decide +kernel
theorem dX6_isLit_47 : decode cX6_isLit 47 = .ok (.ifCond .ne 7, 3) := by decide +kernel
theorem dX6_isLit_50 : decode cX6_isLit 50 = .ok (.iconst 1, 1) := by decide +kernel
theorem dX6_isLit_51 : decode cX6_isLit 51 = .ok (.goto 4, 3) := by decide +kernel
theorem dX6_isLit_54 : decode cX6_isLit 54 = .ok (.iconst 0, 1) := by decide +kernel
theorem dX6_isLit_55 : decode cX6_isLit 55 = .ok (.ireturn, 1) := by decide +kernel
theorem dX6_eye_0 : decode cX6_eye 0 = .ok (.iload_n 1, 1) := by decide +kernel
theorem dX6_eye_1 : decode cX6_eye 1 = .ok (.bipush 99, 2) := by decide +kernel
theorem dX6_eye_3 : decode cX6_eye 3 = .ok (.if_icmp .ne 7, 3) := by decide +kernel
theorem dX6_eye_6 : decode cX6_eye 6 = .ok (.iconst 0, 1) := by decide +kernel
theorem dX6_eye_7 : decode cX6_eye 7 = .ok (.goto 40, 3) := by decide +kernel
theorem dX6_eye_10 : decode cX6_eye 10 = .ok (.aload_n 0, 1) := by decide +kernel
theorem dX6_eye_11 : decode cX6_eye 11 = .ok (.iconst 3, 1) := by decide +kernel
theorem dX6_eye_12 : decode cX6_eye 12 = .ok (.aload_n 0, 1) := by decide +kernel
theorem dX6_eye_13 : decode cX6_eye 13 = .ok (.iload_n 1, 1) := by decide +kernel
theorem dX6_eye_14 : decode cX6_eye 14 = .ok (.iconst 2, 1) := by decide +kernel
theorem dX6_eye_15 : decode cX6_eye 15 = .ok (.invokestatic 47, 3) := by decide +kernel
theorem dX6_eye_18 : decode cX6_eye 18 = .ok (.iaload, 1) := by decide +kernel
theorem dX6_eye_19 : decode cX6_eye 19 = .ok (.iadd, 1) := by decide +kernel
theorem dX6_eye_20 : decode cX6_eye 20 = .ok (.iaload, 1) := by decide +kernel
theorem dX6_eye_21 : decode cX6_eye 21 = .ok (.aload_n 0, 1) := by decide +kernel
theorem dX6_eye_22 : decode cX6_eye 22 = .ok (.iload_n 1, 1) := by decide +kernel
theorem dX6_eye_23 : decode cX6_eye 23 = .ok (.iconst 0, 1) := by decide +kernel
theorem dX6_eye_24 : decode cX6_eye 24 = .ok (.invokestatic 47, 3) := by decide +kernel
theorem dX6_eye_27 : decode cX6_eye 27 = .ok (.iaload, 1) := by decide +kernel
theorem dX6_eye_28 : decode cX6_eye 28 = .ok (.aload_n 0, 1) := by decide +kernel
theorem dX6_eye_29 : decode cX6_eye 29 = .ok (.iload_n 1, 1) := by decide +kernel
theorem dX6_eye_30 : decode cX6_eye 30 = .ok (.iconst 1, 1) := by decide +kernel
theorem dX6_eye_31 : decode cX6_eye 31 = .ok (.invokestatic 47, 3) := by decide +kernel
theorem dX6_eye_34 : decode cX6_eye 34 = .ok (.iaload, 1) := by decide +kernel
theorem dX6_eye_35 : decode cX6_eye 35 = .ok (.invokestatic 57, 3) := by decide +kernel
theorem dX6_eye_38 : decode cX6_eye 38 = .ok (.iadd, 1) := by decide +kernel
theorem dX6_eye_39 : decode cX6_eye 39 = .ok (.aload_n 0, 1) := by decide +kernel
theorem dX6_eye_40 : decode cX6_eye 40 = .ok (.iload_n 1, 1) := by decide +kernel
theorem dX6_eye_41 : decode cX6_eye 41 = .ok (.iconst 5, 1) := by decide +kernel
theorem dX6_eye_42 : decode cX6_eye 42 = .ok (.invokestatic 47, 3) := by decide +kernel
theorem dX6_eye_45 : decode cX6_eye 45 = .ok (.iaload, 1) := by decide +kernel
theorem dX6_eye_46 : decode cX6_eye 46 = .ok (.iadd, 1) := by decide +kernel
theorem dX6_eye_47 : decode cX6_eye 47 = .ok (.ireturn, 1) := by decide +kernel
theorem dX6_cellOf_0 : decode cX6_cellOf 0 = .ok (.iload_n 1, 1) := by decide +kernel
theorem dX6_cellOf_1 : decode cX6_cellOf 1 = .ok (.bipush 99, 2) := by decide +kernel
theorem dX6_cellOf_3 : decode cX6_cellOf 3 = .ok (.if_icmp .ne 8, 3) := by decide +kernel
theorem dX6_cellOf_6 : decode cX6_cellOf 6 = .ok (.bipush 20, 2) := by decide +kernel
theorem dX6_cellOf_8 : decode cX6_cellOf 8 = .ok (.goto 10, 3) := by decide +kernel
theorem dX6_cellOf_11 : decode cX6_cellOf 11 = .ok (.aload_n 0, 1) := by decide +kernel
theorem dX6_cellOf_12 : decode cX6_cellOf 12 = .ok (.iload_n 1, 1) := by decide +kernel
theorem dX6_cellOf_13 : decode cX6_cellOf 13 = .ok (.iconst 2, 1) := by decide +kernel
theorem dX6_cellOf_14 : decode cX6_cellOf 14 = .ok (.invokestatic 47, 3) := by decide +kernel
theorem dX6_cellOf_17 : decode cX6_cellOf 17 = .ok (.iaload, 1) := by decide +kernel
theorem dX6_cellOf_18 : decode cX6_cellOf 18 = .ok (.ireturn, 1) := by decide +kernel
theorem dX6_above_0 : decode cX6_above 0 = .ok (.aload_n 0, 1) := by decide +kernel
theorem dX6_above_1 : decode cX6_above 1 = .ok (.iconst 3, 1) := by decide +kernel
theorem dX6_above_2 : decode cX6_above 2 = .ok (.iload 5, 2) := by decide +kernel
theorem dX6_above_4 : decode cX6_above 4 = .ok (.iadd, 1) := by decide +kernel
theorem dX6_above_5 : decode cX6_above 5 = .ok (.iaload, 1) := by decide +kernel
theorem dX6_above_6 : decode cX6_above 6 = .ok (.iload_n 3, 1) := by decide +kernel
theorem dX6_above_7 : decode cX6_above 7 = .ok (.iload_n 1, 1) := by decide +kernel
theorem dX6_above_8 : decode cX6_above 8 = .ok (.isub, 1) := by decide +kernel
theorem dX6_above_9 : decode cX6_above 9 = .ok (.imul, 1) := by decide +kernel
theorem dX6_above_10 : decode cX6_above 10 = .ok (.iload_n 2, 1) := by decide +kernel
theorem dX6_above_11 : decode cX6_above 11 = .ok (.iload_n 3, 1) := by decide +kernel
theorem dX6_above_12 : decode cX6_above 12 = .ok (.iload 5, 2) := by decide +kernel
theorem dX6_above_14 : decode cX6_above 14 = .ok (.isub, 1) := by decide +kernel
theorem dX6_above_15 : decode cX6_above 15 = .ok (.imul, 1) := by decide +kernel
theorem dX6_above_16 : decode cX6_above 16 = .ok (.isub, 1) := by decide +kernel
theorem dX6_above_17 : decode cX6_above 17 = .ok (.iload 4, 2) := by decide +kernel
theorem dX6_above_19 : decode cX6_above 19 = .ok (.iload 5, 2) := by decide +kernel
theorem dX6_above_21 : decode cX6_above 21 = .ok (.iload_n 1, 1) := by decide +kernel
theorem dX6_above_22 : decode cX6_above 22 = .ok (.isub, 1) := by decide +kernel
theorem dX6_above_23 : decode cX6_above 23 = .ok (.imul, 1) := by decide +kernel
theorem dX6_above_24 : decode cX6_above 24 = .ok (.isub, 1) := by decide +kernel
theorem dX6_above_25 : decode cX6_above 25 = .ok (.ireturn, 1) := by decide +kernel
theorem dX6_doesSee_0 : decode cX6_doesSee 0 = .ok (.aload_n 0, 1) := by decide +kernel
theorem dX6_doesSee_1 : decode cX6_doesSee 1 = .ok (.iload_n 1, 1) := by decide +kernel
theorem dX6_doesSee_2 : decode cX6_doesSee 2 = .ok (.invokestatic 60, 3) := by decide +kernel
theorem dX6_doesSee_5 : decode cX6_doesSee 5 = .ok (.aload_n 0, 1) := by decide +kernel
theorem dX6_doesSee_6 : decode cX6_doesSee 6 = .ok (.iload_n 2, 1) := by decide +kernel
theorem dX6_doesSee_7 : decode cX6_doesSee 7 = .ok (.invokestatic 60, 3) := by decide +kernel
theorem dX6_doesSee_10 : decode cX6_doesSee 10 = .ok (.if_icmp .gt 7, 3) := by decide +kernel
theorem dX6_doesSee_13 : decode cX6_doesSee 13 = .ok (.iconst 1, 1) := by decide +kernel
theorem dX6_doesSee_14 : decode cX6_doesSee 14 = .ok (.goto 4, 3) := by decide +kernel
theorem dX6_doesSee_17 : decode cX6_doesSee 17 = .ok (.iconst 0, 1) := by decide +kernel
theorem dX6_doesSee_18 : decode cX6_doesSee 18 = .ok (.istore_n 3, 1) := by decide +kernel
theorem dX6_doesSee_19 : decode cX6_doesSee 19 = .ok (.iload_n 3, 1) := by decide +kernel
theorem dX6_doesSee_20 : decode cX6_doesSee 20 = .ok (.ifCond .eq 7, 3) := by decide +kernel
theorem dX6_doesSee_23 : decode cX6_doesSee 23 = .ok (.iload_n 1, 1) := by decide +kernel
theorem dX6_doesSee_24 : decode cX6_doesSee 24 = .ok (.goto 4, 3) := by decide +kernel
theorem dX6_doesSee_27 : decode cX6_doesSee 27 = .ok (.iload_n 2, 1) := by decide +kernel
theorem dX6_doesSee_28 : decode cX6_doesSee 28 = .ok (.istore 4, 2) := by decide +kernel
theorem dX6_doesSee_30 : decode cX6_doesSee 30 = .ok (.iload_n 3, 1) := by decide +kernel
theorem dX6_doesSee_31 : decode cX6_doesSee 31 = .ok (.ifCond .eq 7, 3) := by decide +kernel
theorem dX6_doesSee_34 : decode cX6_doesSee 34 = .ok (.iload_n 2, 1) := by decide +kernel
theorem dX6_doesSee_35 : decode cX6_doesSee 35 = .ok (.goto 4, 3) := by decide +kernel
theorem dX6_doesSee_38 : decode cX6_doesSee 38 = .ok (.iload_n 1, 1) := by decide +kernel
theorem dX6_doesSee_39 : decode cX6_doesSee 39 = .ok (.istore 5, 2) := by decide +kernel
theorem dX6_doesSee_41 : decode cX6_doesSee 41 = .ok (.aload_n 0, 1) := by decide +kernel
theorem dX6_doesSee_42 : decode cX6_doesSee 42 = .ok (.iload 4, 2) := by decide +kernel
theorem dX6_doesSee_44 : decode cX6_doesSee 44 = .ok (.invokestatic 60, 3) := by decide +kernel
theorem dX6_doesSee_47 : decode cX6_doesSee 47 = .ok (.istore 6, 2) := by decide +kernel
theorem dX6_doesSee_49 : decode cX6_doesSee 49 = .ok (.aload_n 0, 1) := by decide +kernel
theorem dX6_doesSee_50 : decode cX6_doesSee 50 = .ok (.iload 5, 2) := by decide +kernel
theorem dX6_doesSee_52 : decode cX6_doesSee 52 = .ok (.invokestatic 60, 3) := by decide +kernel
theorem dX6_doesSee_55 : decode cX6_doesSee 55 = .ok (.istore 7, 2) := by decide +kernel
theorem dX6_doesSee_57 : decode cX6_doesSee 57 = .ok (.iload 7, 2) := by decide +kernel
theorem dX6_doesSee_59 : decode cX6_doesSee 59 = .ok (.iload 6, 2) := by decide +kernel
theorem dX6_doesSee_61 : decode cX6_doesSee 61 = .ok (.isub, 1) := by decide +kernel
theorem dX6_doesSee_62 : decode cX6_doesSee 62 = .ok (.bipush 20, 2) := by decide +kernel
theorem dX6_doesSee_64 : decode cX6_doesSee 64 = .ok (.iconst 2, 1) := by decide +kernel
theorem dX6_doesSee_65 : decode cX6_doesSee 65 = .ok (.aload_n 0, 1) := by decide +kernel
theorem dX6_doesSee_66 : decode cX6_doesSee 66 = .ok (.iconst 2, 1) := by decide +kernel
theorem dX6_doesSee_67 : decode cX6_doesSee 67 = .ok (.iaload, 1) := by decide +kernel
theorem dX6_doesSee_68 : decode cX6_doesSee 68 = .ok (.imul, 1) := by decide +kernel
theorem dX6_doesSee_69 : decode cX6_doesSee 69 = .ok (.isub, 1) := by decide +kernel
theorem dX6_doesSee_70 : decode cX6_doesSee 70 = .ok (.if_icmp .le 12, 3) := by decide +kernel
theorem dX6_doesSee_73 : decode cX6_doesSee 73 = .ok (.iload 6, 2) := by decide +kernel
theorem dX6_doesSee_75 : decode cX6_doesSee 75 = .ok (.iload 7, 2) := by decide +kernel
theorem dX6_doesSee_77 : decode cX6_doesSee 77 = .ok (.if_icmp .eq 5, 3) := by decide +kernel
theorem dX6_doesSee_80 : decode cX6_doesSee 80 = .ok (.iconst 0, 1) := by decide +kernel
theorem dX6_doesSee_81 : decode cX6_doesSee 81 = .ok (.ireturn, 1) := by decide +kernel
theorem dX6_doesSee_82 : decode cX6_doesSee 82 = .ok (.iload 6, 2) := by decide +kernel
theorem dX6_doesSee_84 : decode cX6_doesSee 84 = .ok (.iconst 1, 1) := by decide +kernel
theorem dX6_doesSee_85 : decode cX6_doesSee 85 = .ok (.iadd, 1) := by decide +kernel
theorem dX6_doesSee_86 : decode cX6_doesSee 86 = .ok (.istore 8, 2) := by decide +kernel
theorem dX6_doesSee_88 : decode cX6_doesSee 88 = .ok (.iload 8, 2) := by decide +kernel
theorem dX6_doesSee_90 : decode cX6_doesSee 90 = .ok (.iload 7, 2) := by decide +kernel
theorem dX6_doesSee_92 : decode cX6_doesSee 92 = .ok (.if_icmp .ge 36, 3) := by decide +kernel
theorem dX6_doesSee_95 : decode cX6_doesSee 95 = .ok (.aload_n 0, 1) := by decide +kernel
theorem dX6_doesSee_96 : decode cX6_doesSee 96 = .ok (.iload 6, 2) := by decide +kernel
theorem dX6_doesSee_98 : decode cX6_doesSee 98 = .ok (.aload_n 0, 1) := by decide +kernel
theorem dX6_doesSee_99 : decode cX6_doesSee 99 = .ok (.iload 4, 2) := by decide +kernel
theorem dX6_doesSee_101 : decode cX6_doesSee 101 = .ok (.invokestatic 64, 3) := by decide +kernel
theorem dX6_doesSee_104 : decode cX6_doesSee 104 = .ok (.iload 7, 2) := by decide +kernel
theorem dX6_doesSee_106 : decode cX6_doesSee 106 = .ok (.aload_n 0, 1) := by decide +kernel
theorem dX6_doesSee_107 : decode cX6_doesSee 107 = .ok (.iload 5, 2) := by decide +kernel
theorem dX6_doesSee_109 : decode cX6_doesSee 109 = .ok (.invokestatic 64, 3) := by decide +kernel
theorem dX6_doesSee_112 : decode cX6_doesSee 112 = .ok (.iload 8, 2) := by decide +kernel
theorem dX6_doesSee_114 : decode cX6_doesSee 114 = .ok (.invokestatic 67, 3) := by decide +kernel
theorem dX6_doesSee_117 : decode cX6_doesSee 117 = .ok (.ifCond .lt 5, 3) := by decide +kernel
theorem dX6_doesSee_120 : decode cX6_doesSee 120 = .ok (.iconst 0, 1) := by decide +kernel
theorem dX6_doesSee_121 : decode cX6_doesSee 121 = .ok (.ireturn, 1) := by decide +kernel
theorem dX6_doesSee_122 : decode cX6_doesSee 122 = .ok (.iinc 8 1, 3) := by decide +kernel
theorem dX6_doesSee_125 : decode cX6_doesSee 125 = .ok (.goto (-37), 3) := by decide +kernel
theorem dX6_doesSee_128 : decode cX6_doesSee 128 = .ok (.iconst 1, 1) := by decide +kernel
theorem dX6_doesSee_129 : decode cX6_doesSee 129 = .ok (.ireturn, 1) := by decide +kernel
theorem dX6_litIn_0 : decode cX6_litIn 0 = .ok (.iconst 0, 1) := by decide +kernel
theorem dX6_litIn_1 : decode cX6_litIn 1 = .ok (.istore_n 1, 1) := by decide +kernel
theorem dX6_litIn_2 : decode cX6_litIn 2 = .ok (.iconst 0, 1) := by decide +kernel
theorem dX6_litIn_3 : decode cX6_litIn 3 = .ok (.istore_n 2, 1) := by decide +kernel
theorem dX6_litIn_4 : decode cX6_litIn 4 = .ok (.iload_n 2, 1) := by decide +kernel
theorem dX6_litIn_5 : decode cX6_litIn 5 = .ok (.aload_n 0, 1) := by decide +kernel
theorem dX6_litIn_6 : decode cX6_litIn 6 = .ok (.iconst 0, 1) := by decide +kernel
theorem dX6_litIn_7 : decode cX6_litIn 7 = .ok (.iaload, 1) := by decide +kernel
theorem dX6_litIn_8 : decode cX6_litIn 8 = .ok (.if_icmp .ge 27, 3) := by decide +kernel
theorem dX6_litIn_11 : decode cX6_litIn 11 = .ok (.iload_n 1, 1) := by decide +kernel
theorem dX6_litIn_12 : decode cX6_litIn 12 = .ok (.aload_n 0, 1) := by decide +kernel
theorem dX6_litIn_13 : decode cX6_litIn 13 = .ok (.iload_n 2, 1) := by decide +kernel
theorem dX6_litIn_14 : decode cX6_litIn 14 = .ok (.invokestatic 71, 3) := by decide +kernel
theorem dX6_litIn_17 : decode cX6_litIn 17 = .ok (.ifCond .eq 9, 3) := by decide +kernel
theorem dX6_litIn_20 : decode cX6_litIn 20 = .ok (.iconst 1, 1) := by decide +kernel
theorem dX6_litIn_21 : decode cX6_litIn 21 = .ok (.iload_n 2, 1) := by decide +kernel
theorem dX6_litIn_22 : decode cX6_litIn 22 = .ok (.ishl, 1) := by decide +kernel
theorem dX6_litIn_23 : decode cX6_litIn 23 = .ok (.goto 4, 3) := by decide +kernel
theorem dX6_litIn_26 : decode cX6_litIn 26 = .ok (.iconst 0, 1) := by decide +kernel
theorem dX6_litIn_27 : decode cX6_litIn 27 = .ok (.ior, 1) := by decide +kernel
theorem dX6_litIn_28 : decode cX6_litIn 28 = .ok (.istore_n 1, 1) := by decide +kernel
theorem dX6_litIn_29 : decode cX6_litIn 29 = .ok (.iinc 2 1, 3) := by decide +kernel
theorem dX6_litIn_32 : decode cX6_litIn 32 = .ok (.goto (-28), 3) := by decide +kernel
theorem dX6_litIn_35 : decode cX6_litIn 35 = .ok (.iload_n 1, 1) := by decide +kernel
theorem dX6_litIn_36 : decode cX6_litIn 36 = .ok (.ireturn, 1) := by decide +kernel
theorem dX6_hangBy_0 : decode cX6_hangBy 0 = .ok (.iconst 0, 1) := by decide +kernel
theorem dX6_hangBy_1 : decode cX6_hangBy 1 = .ok (.istore_n 2, 1) := by decide +kernel
theorem dX6_hangBy_2 : decode cX6_hangBy 2 = .ok (.iconst 0, 1) := by decide +kernel
theorem dX6_hangBy_3 : decode cX6_hangBy 3 = .ok (.istore_n 3, 1) := by decide +kernel
theorem dX6_hangBy_4 : decode cX6_hangBy 4 = .ok (.iload_n 3, 1) := by decide +kernel
theorem dX6_hangBy_5 : decode cX6_hangBy 5 = .ok (.aload_n 0, 1) := by decide +kernel
theorem dX6_hangBy_6 : decode cX6_hangBy 6 = .ok (.iconst 0, 1) := by decide +kernel
theorem dX6_hangBy_7 : decode cX6_hangBy 7 = .ok (.iaload, 1) := by decide +kernel
theorem dX6_hangBy_8 : decode cX6_hangBy 8 = .ok (.if_icmp .ge 37, 3) := by decide +kernel
theorem dX6_hangBy_11 : decode cX6_hangBy 11 = .ok (.iload_n 2, 1) := by decide +kernel
theorem dX6_hangBy_12 : decode cX6_hangBy 12 = .ok (.iload_n 1, 1) := by decide +kernel
theorem dX6_hangBy_13 : decode cX6_hangBy 13 = .ok (.iload_n 3, 1) := by decide +kernel
theorem dX6_hangBy_14 : decode cX6_hangBy 14 = .ok (.invokestatic 75, 3) := by decide +kernel
theorem dX6_hangBy_17 : decode cX6_hangBy 17 = .ok (.ifCond .eq 19, 3) := by decide +kernel
theorem dX6_hangBy_20 : decode cX6_hangBy 20 = .ok (.aload_n 0, 1) := by decide +kernel
theorem dX6_hangBy_21 : decode cX6_hangBy 21 = .ok (.iload_n 3, 1) := by decide +kernel
theorem dX6_hangBy_22 : decode cX6_hangBy 22 = .ok (.bipush 99, 2) := by decide +kernel
theorem dX6_hangBy_24 : decode cX6_hangBy 24 = .ok (.invokestatic 79, 3) := by decide +kernel
theorem dX6_hangBy_27 : decode cX6_hangBy 27 = .ok (.ifCond .eq 9, 3) := by decide +kernel
theorem dX6_hangBy_30 : decode cX6_hangBy 30 = .ok (.iconst 1, 1) := by decide +kernel
theorem dX6_hangBy_31 : decode cX6_hangBy 31 = .ok (.iload_n 3, 1) := by decide +kernel
theorem dX6_hangBy_32 : decode cX6_hangBy 32 = .ok (.ishl, 1) := by decide +kernel
theorem dX6_hangBy_33 : decode cX6_hangBy 33 = .ok (.goto 4, 3) := by decide +kernel
theorem dX6_hangBy_36 : decode cX6_hangBy 36 = .ok (.iconst 0, 1) := by decide +kernel
theorem dX6_hangBy_37 : decode cX6_hangBy 37 = .ok (.ior, 1) := by decide +kernel
theorem dX6_hangBy_38 : decode cX6_hangBy 38 = .ok (.istore_n 2, 1) := by decide +kernel
theorem dX6_hangBy_39 : decode cX6_hangBy 39 = .ok (.iinc 3 1, 3) := by decide +kernel
theorem dX6_hangBy_42 : decode cX6_hangBy 42 = .ok (.goto (-38), 3) := by decide +kernel
theorem dX6_hangBy_45 : decode cX6_hangBy 45 = .ok (.iload_n 2, 1) := by decide +kernel
theorem dX6_hangBy_46 : decode cX6_hangBy 46 = .ok (.istore_n 3, 1) := by decide +kernel
theorem dX6_hangBy_47 : decode cX6_hangBy 47 = .ok (.iload_n 3, 1) := by decide +kernel
theorem dX6_hangBy_48 : decode cX6_hangBy 48 = .ok (.ifCond .eq 94, 3) := by decide +kernel
theorem dX6_hangBy_51 : decode cX6_hangBy 51 = .ok (.iconst 0, 1) := by decide +kernel
theorem dX6_hangBy_52 : decode cX6_hangBy 52 = .ok (.istore_n 3, 1) := by decide +kernel
theorem dX6_hangBy_53 : decode cX6_hangBy 53 = .ok (.iconst 0, 1) := by decide +kernel
theorem dX6_hangBy_54 : decode cX6_hangBy 54 = .ok (.istore 4, 2) := by decide +kernel
theorem dX6_hangBy_56 : decode cX6_hangBy 56 = .ok (.iload 4, 2) := by decide +kernel
theorem dX6_hangBy_58 : decode cX6_hangBy 58 = .ok (.aload_n 0, 1) := by decide +kernel
theorem dX6_hangBy_59 : decode cX6_hangBy 59 = .ok (.iconst 0, 1) := by decide +kernel
theorem dX6_hangBy_60 : decode cX6_hangBy 60 = .ok (.iaload, 1) := by decide +kernel
theorem dX6_hangBy_61 : decode cX6_hangBy 61 = .ok (.if_icmp .ge 74, 3) := by decide +kernel
theorem dX6_hangBy_64 : decode cX6_hangBy 64 = .ok (.iload_n 1, 1) := by decide +kernel
theorem dX6_hangBy_65 : decode cX6_hangBy 65 = .ok (.iload 4, 2) := by decide +kernel
theorem dX6_hangBy_67 : decode cX6_hangBy 67 = .ok (.invokestatic 75, 3) := by decide +kernel
theorem dX6_hangBy_70 : decode cX6_hangBy 70 = .ok (.ifCond .eq 59, 3) := by decide +kernel
theorem dX6_hangBy_73 : decode cX6_hangBy 73 = .ok (.iload_n 2, 1) := by decide +kernel
theorem dX6_hangBy_74 : decode cX6_hangBy 74 = .ok (.iload 4, 2) := by decide +kernel
theorem dX6_hangBy_76 : decode cX6_hangBy 76 = .ok (.invokestatic 75, 3) := by decide +kernel
theorem dX6_hangBy_79 : decode cX6_hangBy 79 = .ok (.ifCond .eq 6, 3) := by decide +kernel
theorem dX6_hangBy_82 : decode cX6_hangBy 82 = .ok (.goto 47, 3) := by decide +kernel
theorem dX6_hangBy_85 : decode cX6_hangBy 85 = .ok (.iconst 0, 1) := by decide +kernel
theorem dX6_hangBy_86 : decode cX6_hangBy 86 = .ok (.istore 5, 2) := by decide +kernel
theorem dX6_hangBy_88 : decode cX6_hangBy 88 = .ok (.iload 5, 2) := by decide +kernel
theorem dX6_hangBy_90 : decode cX6_hangBy 90 = .ok (.aload_n 0, 1) := by decide +kernel
theorem dX6_hangBy_91 : decode cX6_hangBy 91 = .ok (.iconst 0, 1) := by decide +kernel
theorem dX6_hangBy_92 : decode cX6_hangBy 92 = .ok (.iaload, 1) := by decide +kernel
theorem dX6_hangBy_93 : decode cX6_hangBy 93 = .ok (.if_icmp .ge 36, 3) := by decide +kernel
theorem dX6_hangBy_96 : decode cX6_hangBy 96 = .ok (.iload_n 2, 1) := by decide +kernel
theorem dX6_hangBy_97 : decode cX6_hangBy 97 = .ok (.iload 5, 2) := by decide +kernel
theorem dX6_hangBy_99 : decode cX6_hangBy 99 = .ok (.invokestatic 75, 3) := by decide +kernel
theorem dX6_hangBy_102 : decode cX6_hangBy 102 = .ok (.ifCond .eq 21, 3) := by decide +kernel
theorem dX6_hangBy_105 : decode cX6_hangBy 105 = .ok (.aload_n 0, 1) := by decide +kernel
theorem dX6_hangBy_106 : decode cX6_hangBy 106 = .ok (.iload 4, 2) := by decide +kernel
theorem dX6_hangBy_108 : decode cX6_hangBy 108 = .ok (.iload 5, 2) := by decide +kernel
theorem dX6_hangBy_110 : decode cX6_hangBy 110 = .ok (.invokestatic 79, 3) := by decide +kernel
theorem dX6_hangBy_113 : decode cX6_hangBy 113 = .ok (.ifCond .eq 10, 3) := by decide +kernel
theorem dX6_hangBy_116 : decode cX6_hangBy 116 = .ok (.iload_n 3, 1) := by decide +kernel
theorem dX6_hangBy_117 : decode cX6_hangBy 117 = .ok (.iconst 1, 1) := by decide +kernel
theorem dX6_hangBy_118 : decode cX6_hangBy 118 = .ok (.iload 4, 2) := by decide +kernel
theorem dX6_hangBy_120 : decode cX6_hangBy 120 = .ok (.ishl, 1) := by decide +kernel
theorem dX6_hangBy_121 : decode cX6_hangBy 121 = .ok (.ior, 1) := by decide +kernel
theorem dX6_hangBy_122 : decode cX6_hangBy 122 = .ok (.istore_n 3, 1) := by decide +kernel
theorem dX6_hangBy_123 : decode cX6_hangBy 123 = .ok (.iinc 5 1, 3) := by decide +kernel
theorem dX6_hangBy_126 : decode cX6_hangBy 126 = .ok (.goto (-38), 3) := by decide +kernel
theorem dX6_hangBy_129 : decode cX6_hangBy 129 = .ok (.iinc 4 1, 3) := by decide +kernel
theorem dX6_hangBy_132 : decode cX6_hangBy 132 = .ok (.goto (-76), 3) := by decide +kernel
theorem dX6_hangBy_135 : decode cX6_hangBy 135 = .ok (.iload_n 2, 1) := by decide +kernel
theorem dX6_hangBy_136 : decode cX6_hangBy 136 = .ok (.iload_n 3, 1) := by decide +kernel
theorem dX6_hangBy_137 : decode cX6_hangBy 137 = .ok (.ior, 1) := by decide +kernel
theorem dX6_hangBy_138 : decode cX6_hangBy 138 = .ok (.istore_n 2, 1) := by decide +kernel
theorem dX6_hangBy_139 : decode cX6_hangBy 139 = .ok (.goto (-92), 3) := by decide +kernel
theorem dX6_hangBy_142 : decode cX6_hangBy 142 = .ok (.iload_n 2, 1) := by decide +kernel
theorem dX6_hangBy_143 : decode cX6_hangBy 143 = .ok (.ireturn, 1) := by decide +kernel
theorem dX6_hangIn_0 : decode cX6_hangIn 0 = .ok (.aload_n 0, 1) := by decide +kernel
theorem dX6_hangIn_1 : decode cX6_hangIn 1 = .ok (.aload_n 0, 1) := by decide +kernel
theorem dX6_hangIn_2 : decode cX6_hangIn 2 = .ok (.invokestatic 83, 3) := by decide +kernel
theorem dX6_hangIn_5 : decode cX6_hangIn 5 = .ok (.invokestatic 87, 3) := by decide +kernel
theorem dX6_hangIn_8 : decode cX6_hangIn 8 = .ok (.ireturn, 1) := by decide +kernel
theorem dX6_night_0 : decode cX6_night 0 = .ok (.aload_n 0, 1) := by decide +kernel
theorem dX6_night_1 : decode cX6_night 1 = .ok (.invokestatic 83, 3) := by decide +kernel
theorem dX6_night_4 : decode cX6_night 4 = .ok (.istore_n 1, 1) := by decide +kernel
theorem dX6_night_5 : decode cX6_night 5 = .ok (.iconst 0, 1) := by decide +kernel
theorem dX6_night_6 : decode cX6_night 6 = .ok (.istore_n 2, 1) := by decide +kernel
theorem dX6_night_7 : decode cX6_night 7 = .ok (.iconst 0, 1) := by decide +kernel
theorem dX6_night_8 : decode cX6_night 8 = .ok (.istore_n 3, 1) := by decide +kernel
