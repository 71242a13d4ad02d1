theorem dX6_night_9 : decode cX6_night 9 = .ok (.iload_n 3, 1) := by decide +kernel
theorem dX6_night_10 : decode cX6_night 10 = .ok (.aload_n 0, 1) := by decide +kernel
theorem dX6_night_11 : decode cX6_night 11 = .ok (.iconst 0, 1) := by decide +kernel
theorem dX6_night_12 : decode cX6_night 12 = .ok (.iaload, 1) := by decide +kernel
theorem dX6_night_13 : decode cX6_night 13 = .ok (.if_icmp .ge 50, 3) := by decide +kernel
theorem dX6_night_16 : decode cX6_night 16 = .ok (.iload_n 1, 1) := by decide +kernel
theorem dX6_night_17 : decode cX6_night 17 = .ok (.iload_n 3, 1) := by decide +kernel
theorem dX6_night_18 : decode cX6_night 18 = .ok (.invokestatic 75, 3) := by decide +kernel
theorem dX6_night_21 : decode cX6_night 21 = .ok (.ifCond .eq 16, 3) := by decide +kernel
theorem dX6_night_24 : decode cX6_night 24 = .ok (.aload_n 0, 1) := by decide +kernel
theorem dX6_night_25 : decode cX6_night 25 = .ok (.iload_n 3, 1) := by decide +kernel
theorem dX6_night_26 : decode cX6_night 26 = .ok (.iconst 0, 1) := by decide +kernel
theorem dX6_night_27 : decode cX6_night 27 = .ok (.invokestatic 47, 3) := by decide +kernel
theorem dX6_night_30 : decode cX6_night 30 = .ok (.iaload, 1) := by decide +kernel
theorem dX6_night_31 : decode cX6_night 31 = .ok (.invokestatic 51, 3) := by decide +kernel
theorem dX6_night_34 : decode cX6_night 34 = .ok (.goto 4, 3) := by decide +kernel
theorem dX6_night_37 : decode cX6_night 37 = .ok (.iconst 0, 1) := by decide +kernel
theorem dX6_night_38 : decode cX6_night 38 = .ok (.istore 4, 2) := by decide +kernel
theorem dX6_night_40 : decode cX6_night 40 = .ok (.aload_n 0, 1) := by decide +kernel
theorem dX6_night_41 : decode cX6_night 41 = .ok (.iload_n 3, 1) := by decide +kernel
theorem dX6_night_42 : decode cX6_night 42 = .ok (.iconst 3, 1) := by decide +kernel
theorem dX6_night_43 : decode cX6_night 43 = .ok (.invokestatic 47, 3) := by decide +kernel
theorem dX6_night_46 : decode cX6_night 46 = .ok (.dup2, 1) := by decide +kernel
theorem dX6_night_47 : decode cX6_night 47 = .ok (.iaload, 1) := by decide +kernel
theorem dX6_night_48 : decode cX6_night 48 = .ok (.iload 4, 2) := by decide +kernel
theorem dX6_night_50 : decode cX6_night 50 = .ok (.isub, 1) := by decide +kernel
theorem dX6_night_51 : decode cX6_night 51 = .ok (.iastore, 1) := by decide +kernel
theorem dX6_night_52 : decode cX6_night 52 = .ok (.iload_n 2, 1) := by decide +kernel
theorem dX6_night_53 : decode cX6_night 53 = .ok (.iload 4, 2) := by decide +kernel
theorem dX6_night_55 : decode cX6_night 55 = .ok (.iadd, 1) := by decide +kernel
theorem dX6_night_56 : decode cX6_night 56 = .ok (.istore_n 2, 1) := by decide +kernel
theorem dX6_night_57 : decode cX6_night 57 = .ok (.iinc 3 1, 3) := by decide +kernel
theorem dX6_night_60 : decode cX6_night 60 = .ok (.goto (-51), 3) := by decide +kernel
theorem dX6_night_63 : decode cX6_night 63 = .ok (.aload_n 0, 1) := by decide +kernel
theorem dX6_night_64 : decode cX6_night 64 = .ok (.iconst 1, 1) := by decide +kernel
theorem dX6_night_65 : decode cX6_night 65 = .ok (.dup2, 1) := by decide +kernel
theorem dX6_night_66 : decode cX6_night 66 = .ok (.iaload, 1) := by decide +kernel
theorem dX6_night_67 : decode cX6_night 67 = .ok (.iconst 1, 1) := by decide +kernel
theorem dX6_night_68 : decode cX6_night 68 = .ok (.iadd, 1) := by decide +kernel
theorem dX6_night_69 : decode cX6_night 69 = .ok (.iastore, 1) := by decide +kernel
theorem dX6_night_70 : decode cX6_night 70 = .ok (.iload_n 2, 1) := by decide +kernel
theorem dX6_night_71 : decode cX6_night 71 = .ok (.ireturn, 1) := by decide +kernel
theorem dX6_nightsOn_0 : decode cX6_nightsOn 0 = .ok (.iconst 0, 1) := by decide +kernel
theorem dX6_nightsOn_1 : decode cX6_nightsOn 1 = .ok (.istore_n 2, 1) := by decide +kernel
theorem dX6_nightsOn_2 : decode cX6_nightsOn 2 = .ok (.iconst 0, 1) := by decide +kernel
theorem dX6_nightsOn_3 : decode cX6_nightsOn 3 = .ok (.istore_n 3, 1) := by decide +kernel
theorem dX6_nightsOn_4 : decode cX6_nightsOn 4 = .ok (.iload_n 3, 1) := by decide +kernel
theorem dX6_nightsOn_5 : decode cX6_nightsOn 5 = .ok (.iload_n 1, 1) := by decide +kernel
theorem dX6_nightsOn_6 : decode cX6_nightsOn 6 = .ok (.if_icmp .ge 16, 3) := by decide +kernel
theorem dX6_nightsOn_9 : decode cX6_nightsOn 9 = .ok (.iload_n 2, 1) := by decide +kernel
theorem dX6_nightsOn_10 : decode cX6_nightsOn 10 = .ok (.aload_n 0, 1) := by decide +kernel
theorem dX6_nightsOn_11 : decode cX6_nightsOn 11 = .ok (.invokestatic 90, 3) := by decide +kernel
theorem dX6_nightsOn_14 : decode cX6_nightsOn 14 = .ok (.iadd, 1) := by decide +kernel
theorem dX6_nightsOn_15 : decode cX6_nightsOn 15 = .ok (.istore_n 2, 1) := by decide +kernel
theorem dX6_nightsOn_16 : decode cX6_nightsOn 16 = .ok (.iinc 3 1, 3) := by decide +kernel
theorem dX6_nightsOn_19 : decode cX6_nightsOn 19 = .ok (.goto (-15), 3) := by decide +kernel
theorem dX6_nightsOn_22 : decode cX6_nightsOn 22 = .ok (.iload_n 2, 1) := by decide +kernel
theorem dX6_nightsOn_23 : decode cX6_nightsOn 23 = .ok (.ireturn, 1) := by decide +kernel
theorem dX6_allWicks_0 : decode cX6_allWicks 0 = .ok (.iconst 0, 1) := by decide +kernel
theorem dX6_allWicks_1 : decode cX6_allWicks 1 = .ok (.istore_n 1, 1) := by decide +kernel
theorem dX6_allWicks_2 : decode cX6_allWicks 2 = .ok (.iconst 0, 1) := by decide +kernel
theorem dX6_allWicks_3 : decode cX6_allWicks 3 = .ok (.istore_n 2, 1) := by decide +kernel
theorem dX6_allWicks_4 : decode cX6_allWicks 4 = .ok (.iload_n 2, 1) := by decide +kernel
theorem dX6_allWicks_5 : decode cX6_allWicks 5 = .ok (.aload_n 0, 1) := by decide +kernel
theorem dX6_allWicks_6 : decode cX6_allWicks 6 = .ok (.iconst 0, 1) := by decide +kernel
theorem dX6_allWicks_7 : decode cX6_allWicks 7 = .ok (.iaload, 1) := by decide +kernel
theorem dX6_allWicks_8 : decode cX6_allWicks 8 = .ok (.if_icmp .ge 19, 3) := by decide +kernel
theorem dX6_allWicks_11 : decode cX6_allWicks 11 = .ok (.iload_n 1, 1) := by decide +kernel
theorem dX6_allWicks_12 : decode cX6_allWicks 12 = .ok (.aload_n 0, 1) := by decide +kernel
theorem dX6_allWicks_13 : decode cX6_allWicks 13 = .ok (.iload_n 2, 1) := by decide +kernel
theorem dX6_allWicks_14 : decode cX6_allWicks 14 = .ok (.iconst 3, 1) := by decide +kernel
theorem dX6_allWicks_15 : decode cX6_allWicks 15 = .ok (.invokestatic 47, 3) := by decide +kernel
theorem dX6_allWicks_18 : decode cX6_allWicks 18 = .ok (.iaload, 1) := by decide +kernel
theorem dX6_allWicks_19 : decode cX6_allWicks 19 = .ok (.iadd, 1) := by decide +kernel
theorem dX6_allWicks_20 : decode cX6_allWicks 20 = .ok (.istore_n 1, 1) := by decide +kernel
theorem dX6_allWicks_21 : decode cX6_allWicks 21 = .ok (.iinc 2 1, 3) := by decide +kernel
theorem dX6_allWicks_24 : decode cX6_allWicks 24 = .ok (.goto (-20), 3) := by decide +kernel
theorem dX6_allWicks_27 : decode cX6_allWicks 27 = .ok (.iload_n 1, 1) := by decide +kernel
theorem dX6_allWicks_28 : decode cX6_allWicks 28 = .ok (.ireturn, 1) := by decide +kernel
theorem dX6_letter_0 : decode cX6_letter 0 = .ok (.iload_n 1, 1) := by decide +kernel
theorem dX6_letter_1 : decode cX6_letter 1 = .ok (.ifCond .ge 10, 3) := by decide +kernel
theorem dX6_letter_4 : decode cX6_letter 4 = .ok (.aload_n 0, 1) := by decide +kernel
theorem dX6_letter_5 : decode cX6_letter 5 = .ok (.bipush (-4), 2) := by decide +kernel
theorem dX6_letter_7 : decode cX6_letter 7 = .ok (.invokevirtual 39, 3) := by decide +kernel
theorem dX6_letter_10 : decode cX6_letter 10 = .ok (.ireturn, 1) := by decide +kernel
theorem dX6_letter_11 : decode cX6_letter 11 = .ok (.iload_n 1, 1) := by decide +kernel
theorem dX6_letter_12 : decode cX6_letter 12 = .ok (.sipush 255, 3) := by decide +kernel
theorem dX6_letter_15 : decode cX6_letter 15 = .ok (.if_icmp .gt 12, 3) := by decide +kernel
theorem dX6_letter_18 : decode cX6_letter 18 = .ok (.aload_n 0, 1) := by decide +kernel
theorem dX6_letter_19 : decode cX6_letter 19 = .ok (.getfield 93, 3) := by decide +kernel
theorem dX6_letter_22 : decode cX6_letter 22 = .ok (.bipush 96, 2) := by decide +kernel
theorem dX6_letter_24 : decode cX6_letter 24 = .ok (.if_icmp .ne 10, 3) := by decide +kernel
theorem dX6_letter_27 : decode cX6_letter 27 = .ok (.aload_n 0, 1) := by decide +kernel
theorem dX6_letter_28 : decode cX6_letter 28 = .ok (.bipush (-6), 2) := by decide +kernel
theorem dX6_letter_30 : decode cX6_letter 30 = .ok (.invokevirtual 39, 3) := by decide +kernel
theorem dX6_letter_33 : decode cX6_letter 33 = .ok (.ireturn, 1) := by decide +kernel
theorem dX6_letter_34 : decode cX6_letter 34 = .ok (.aload_n 0, 1) := by decide +kernel
theorem dX6_letter_35 : decode cX6_letter 35 = .ok (.getfield 22, 3) := by decide +kernel
theorem dX6_letter_38 : decode cX6_letter 38 = .ok (.aload_n 0, 1) := by decide +kernel
theorem dX6_letter_39 : decode cX6_letter 39 = .ok (.getfield 93, 3) := by decide +kernel
theorem dX6_letter_42 : decode cX6_letter 42 = .ok (.iload_n 1, 1) := by decide +kernel
theorem dX6_letter_43 : decode cX6_letter 43 = .ok (.iastore, 1) := by decide +kernel
theorem dX6_letter_44 : decode cX6_letter 44 = .ok (.aload_n 0, 1) := by decide +kernel
theorem dX6_letter_45 : decode cX6_letter 45 = .ok (.dup, 1) := by decide +kernel
theorem dX6_letter_46 : decode cX6_letter 46 = .ok (.getfield 93, 3) := by decide +kernel
theorem dX6_letter_49 : decode cX6_letter 49 = .ok (.iconst 1, 1) := by decide +kernel
theorem dX6_letter_50 : decode cX6_letter 50 = .ok (.iadd, 1) := by decide +kernel
theorem dX6_letter_51 : decode cX6_letter 51 = .ok (.putfield 93, 3) := by decide +kernel
theorem dX6_letter_54 : decode cX6_letter 54 = .ok (.aload_n 0, 1) := by decide +kernel
theorem dX6_letter_55 : decode cX6_letter 55 = .ok (.getfield 93, 3) := by decide +kernel
theorem dX6_letter_58 : decode cX6_letter 58 = .ok (.ireturn, 1) := by decide +kernel
theorem dX6_here_0 : decode cX6_here 0 = .ok (.aload_n 0, 1) := by decide +kernel
theorem dX6_here_1 : decode cX6_here 1 = .ok (.getfield 97, 3) := by decide +kernel
theorem dX6_here_4 : decode cX6_here 4 = .ok (.aload_n 0, 1) := by decide +kernel
theorem dX6_here_5 : decode cX6_here 5 = .ok (.getfield 93, 3) := by decide +kernel
theorem dX6_here_8 : decode cX6_here 8 = .ok (.if_icmp .ge 15, 3) := by decide +kernel
theorem dX6_here_11 : decode cX6_here 11 = .ok (.aload_n 0, 1) := by decide +kernel
theorem dX6_here_12 : decode cX6_here 12 = .ok (.getfield 22, 3) := by decide +kernel
theorem dX6_here_15 : decode cX6_here 15 = .ok (.aload_n 0, 1) := by decide +kernel
theorem dX6_here_16 : decode cX6_here 16 = .ok (.getfield 97, 3) := by decide +kernel
theorem dX6_here_19 : decode cX6_here 19 = .ok (.iaload, 1) := by decide +kernel
theorem dX6_here_20 : decode cX6_here 20 = .ok (.goto 4, 3) := by decide +kernel
theorem dX6_here_23 : decode cX6_here 23 = .ok (.iconst (-1), 1) := by decide +kernel
theorem dX6_here_24 : decode cX6_here 24 = .ok (.ireturn, 1) := by decide +kernel
theorem dX6_readsNumber_0 : decode cX6_readsNumber 0 = .ok (.aload_n 0, 1) := by decide +kernel
theorem dX6_readsNumber_1 : decode cX6_readsNumber 1 = .ok (.getfield 31, 3) := by decide +kernel
theorem dX6_readsNumber_4 : decode cX6_readsNumber 4 = .ok (.iload_n 1, 1) := by decide +kernel
theorem dX6_readsNumber_5 : decode cX6_readsNumber 5 = .ok (.iconst 0, 1) := by decide +kernel
theorem dX6_readsNumber_6 : decode cX6_readsNumber 6 = .ok (.iastore, 1) := by decide +kernel
theorem dX6_readsNumber_7 : decode cX6_readsNumber 7 = .ok (.iconst 0, 1) := by decide +kernel
theorem dX6_readsNumber_8 : decode cX6_readsNumber 8 = .ok (.istore_n 3, 1) := by decide +kernel
theorem dX6_readsNumber_9 : decode cX6_readsNumber 9 = .ok (.iload_n 3, 1) := by decide +kernel
theorem dX6_readsNumber_10 : decode cX6_readsNumber 10 = .ok (.iload_n 2, 1) := by decide +kernel
theorem dX6_readsNumber_11 : decode cX6_readsNumber 11 = .ok (.if_icmp .ge 58, 3) := by decide +kernel
theorem dX6_readsNumber_14 : decode cX6_readsNumber 14 = .ok (.aload_n 0, 1) := by decide +kernel
theorem dX6_readsNumber_15 : decode cX6_readsNumber 15 = .ok (.invokevirtual 100, 3) := by decide +kernel
theorem dX6_readsNumber_18 : decode cX6_readsNumber 18 = .ok (.bipush 48, 2) := by decide +kernel
theorem dX6_readsNumber_20 : decode cX6_readsNumber 20 = .ok (.bipush 57, 2) := by decide +kernel
theorem dX6_readsNumber_22 : decode cX6_readsNumber 22 = .ok (.invokestatic 43, 3) := by decide +kernel
theorem dX6_readsNumber_25 : decode cX6_readsNumber 25 = .ok (.ifCond .ne 5, 3) := by decide +kernel
theorem dX6_readsNumber_28 : decode cX6_readsNumber 28 = .ok (.iconst 0, 1) := by decide +kernel
theorem dX6_readsNumber_29 : decode cX6_readsNumber 29 = .ok (.ireturn, 1) := by decide +kernel
theorem dX6_readsNumber_30 : decode cX6_readsNumber 30 = .ok (.aload_n 0, 1) := by decide +kernel
theorem dX6_readsNumber_31 : decode cX6_readsNumber 31 = .ok (.getfield 31, 3) := by decide +kernel
theorem dX6_readsNumber_34 : decode cX6_readsNumber 34 = .ok (.iload_n 1, 1) := by decide +kernel
theorem dX6_readsNumber_35 : decode cX6_readsNumber 35 = .ok (.bipush 10, 2) := by decide +kernel
theorem dX6_readsNumber_37 : decode cX6_readsNumber 37 = .ok (.aload_n 0, 1) := by decide +kernel
theorem dX6_readsNumber_38 : decode cX6_readsNumber 38 = .ok (.getfield 31, 3) := by decide +kernel
theorem dX6_readsNumber_41 : decode cX6_readsNumber 41 = .ok (.iload_n 1, 1) := by decide +kernel
theorem dX6_readsNumber_42 : decode cX6_readsNumber 42 = .ok (.iaload, 1) := by decide +kernel
theorem dX6_readsNumber_43 : decode cX6_readsNumber 43 = .ok (.imul, 1) := by decide +kernel
theorem dX6_readsNumber_44 : decode cX6_readsNumber 44 = .ok (.aload_n 0, 1) := by decide +kernel
theorem dX6_readsNumber_45 : decode cX6_readsNumber 45 = .ok (.invokevirtual 100, 3) := by decide +kernel
theorem dX6_readsNumber_48 : decode cX6_readsNumber 48 = .ok (.iadd, 1) := by decide +kernel
theorem dX6_readsNumber_49 : decode cX6_readsNumber 49 = .ok (.bipush 48, 2) := by decide +kernel
theorem dX6_readsNumber_51 : decode cX6_readsNumber 51 = .ok (.isub, 1) := by decide +kernel
theorem dX6_readsNumber_52 : decode cX6_readsNumber 52 = .ok (.iastore, 1) := by decide +kernel
theorem dX6_readsNumber_53 : decode cX6_readsNumber 53 = .ok (.aload_n 0, 1) := by decide +kernel
theorem dX6_readsNumber_54 : decode cX6_readsNumber 54 = .ok (.dup, 1) := by decide +kernel
theorem dX6_readsNumber_55 : decode cX6_readsNumber 55 = .ok (.getfield 97, 3) := by decide +kernel
theorem dX6_readsNumber_58 : decode cX6_readsNumber 58 = .ok (.iconst 1, 1) := by decide +kernel
theorem dX6_readsNumber_59 : decode cX6_readsNumber 59 = .ok (.iadd, 1) := by decide +kernel
theorem dX6_readsNumber_60 : decode cX6_readsNumber 60 = .ok (.putfield 97, 3) := by decide +kernel
theorem dX6_readsNumber_63 : decode cX6_readsNumber 63 = .ok (.iinc 3 1, 3) := by decide +kernel
theorem dX6_readsNumber_66 : decode cX6_readsNumber 66 = .ok (.goto (-57), 3) := by decide +kernel
theorem dX6_readsNumber_69 : decode cX6_readsNumber 69 = .ok (.iconst 1, 1) := by decide +kernel
theorem dX6_readsNumber_70 : decode cX6_readsNumber 70 = .ok (.ireturn, 1) := by decide +kernel
theorem dX6_kindBy_0 : decode cX6_kindBy 0 = .ok (.iload_n 0, 1) := by decide +kernel
theorem dX6_kindBy_1 : decode cX6_kindBy 1 = .ok (.tableswitch 99 99 116 #[87, 99, 99, 99, 99, 99, 99, 99, 99, 93, 95, 99, 97, 99, 99, 99, 91, 89], 87) := by decide +kernel
theorem dX6_kindBy_88 : decode cX6_kindBy 88 = .ok (.iconst 0, 1) := by decide +kernel
theorem dX6_kindBy_89 : decode cX6_kindBy 89 = .ok (.ireturn, 1) := by decide +kernel
theorem dX6_kindBy_90 : decode cX6_kindBy 90 = .ok (.iconst 1, 1) := by decide +kernel
theorem dX6_kindBy_91 : decode cX6_kindBy 91 = .ok (.ireturn, 1) := by decide +kernel
theorem dX6_kindBy_92 : decode cX6_kindBy 92 = .ok (.iconst 2, 1) := by decide +kernel
theorem dX6_kindBy_93 : decode cX6_kindBy 93 = .ok (.ireturn, 1) := by decide +kernel
theorem dX6_kindBy_94 : decode cX6_kindBy 94 = .ok (.iconst 3, 1) := by decide +kernel
theorem dX6_kindBy_95 : decode cX6_kindBy 95 = .ok (.ireturn, 1) := by decide +kernel
theorem dX6_kindBy_96 : decode cX6_kindBy 96 = .ok (.iconst 4, 1) := by decide +kernel
theorem dX6_kindBy_97 : decode cX6_kindBy 97 = .ok (.ireturn, 1) := by decide +kernel
theorem dX6_kindBy_98 : decode cX6_kindBy 98 = .ok (.iconst 5, 1) := by decide +kernel
theorem dX6_kindBy_99 : decode cX6_kindBy 99 = .ok (.ireturn, 1) := by decide +kernel
theorem dX6_kindBy_100 : decode cX6_kindBy 100 = .ok (.bipush (-9), 2) := by decide +kernel
theorem dX6_kindBy_102 : decode cX6_kindBy 102 = .ok (.ireturn, 1) := by decide +kernel
theorem dX6_readsKind_0 : decode cX6_readsKind 0 = .ok (.aload_n 0, 1) := by decide +kernel
theorem dX6_readsKind_1 : decode cX6_readsKind 1 = .ok (.getfield 31, 3) := by decide +kernel
theorem dX6_readsKind_4 : decode cX6_readsKind 4 = .ok (.iconst 0, 1) := by decide +kernel
theorem dX6_readsKind_5 : decode cX6_readsKind 5 = .ok (.aload_n 0, 1) := by decide +kernel
theorem dX6_readsKind_6 : decode cX6_readsKind 6 = .ok (.invokevirtual 100, 3) := by decide +kernel
theorem dX6_readsKind_9 : decode cX6_readsKind 9 = .ok (.invokestatic 104, 3) := by decide +kernel
theorem dX6_readsKind_12 : decode cX6_readsKind 12 = .ok (.iastore, 1) := by decide +kernel
theorem dX6_readsKind_13 : decode cX6_readsKind 13 = .ok (.aload_n 0, 1) := by decide +kernel
theorem dX6_readsKind_14 : decode cX6_readsKind 14 = .ok (.dup, 1) := by decide +kernel
theorem dX6_readsKind_15 : decode cX6_readsKind 15 = .ok (.getfield 97, 3) := by decide +kernel
theorem dX6_readsKind_18 : decode cX6_readsKind 18 = .ok (.aload_n 0, 1) := by decide +kernel
theorem dX6_readsKind_19 : decode cX6_readsKind 19 = .ok (.getfield 31, 3) := by decide +kernel
theorem dX6_readsKind_22 : decode cX6_readsKind 22 = .ok (.iconst 0, 1) := by decide +kernel
theorem dX6_readsKind_23 : decode cX6_readsKind 23 = .ok (.iaload, 1) := by decide +kernel
theorem dX6_readsKind_24 : decode cX6_readsKind 24 = .ok (.ifCond .ge 7, 3) := by decide +kernel
theorem dX6_readsKind_27 : decode cX6_readsKind 27 = .ok (.iconst 0, 1) := by decide +kernel
theorem dX6_readsKind_28 : decode cX6_readsKind 28 = .ok (.goto 4, 3) := by decide +kernel
theorem dX6_readsKind_31 : decode cX6_readsKind 31 = .ok (.iconst 1, 1) := by decide +kernel
theorem dX6_readsKind_32 : decode cX6_readsKind 32 = .ok (.iadd, 1) := by decide +kernel
theorem dX6_readsKind_33 : decode cX6_readsKind 33 = .ok (.putfield 97, 3) := by decide +kernel
theorem dX6_readsKind_36 : decode cX6_readsKind 36 = .ok (.aload_n 0, 1) := by decide +kernel
theorem dX6_readsKind_37 : decode cX6_readsKind 37 = .ok (.getfield 31, 3) := by decide +kernel
theorem dX6_readsKind_40 : decode cX6_readsKind 40 = .ok (.iconst 0, 1) := by decide +kernel
theorem dX6_readsKind_41 : decode cX6_readsKind 41 = .ok (.iaload, 1) := by decide +kernel
theorem dX6_readsKind_42 : decode cX6_readsKind 42 = .ok (.ifCond .lt 7, 3) := by decide +kernel
theorem dX6_readsKind_45 : decode cX6_readsKind 45 = .ok (.iconst 1, 1) := by decide +kernel
theorem dX6_readsKind_46 : decode cX6_readsKind 46 = .ok (.goto 4, 3) := by decide +kernel
theorem dX6_readsKind_49 : decode cX6_readsKind 49 = .ok (.iconst 0, 1) := by decide +kernel
theorem dX6_readsKind_50 : decode cX6_readsKind 50 = .ok (.ireturn, 1) := by decide +kernel
theorem dX6_readsStatement_0 : decode cX6_readsStatement 0 = .ok (.aload_n 0, 1) := by decide +kernel
theorem dX6_readsStatement_1 : decode cX6_readsStatement 1 = .ok (.invokevirtual 100, 3) := by decide +kernel
theorem dX6_readsStatement_4 : decode cX6_readsStatement 4 = .ok (.istore_n 1, 1) := by decide +kernel
theorem dX6_readsStatement_5 : decode cX6_readsStatement 5 = .ok (.aload_n 0, 1) := by decide +kernel
theorem dX6_readsStatement_6 : decode cX6_readsStatement 6 = .ok (.dup, 1) := by decide +kernel
theorem dX6_readsStatement_7 : decode cX6_readsStatement 7 = .ok (.getfield 97, 3) := by decide +kernel
theorem dX6_readsStatement_10 : decode cX6_readsStatement 10 = .ok (.iconst 1, 1) := by decide +kernel
theorem dX6_readsStatement_11 : decode cX6_readsStatement 11 = .ok (.iadd, 1) := by decide +kernel
theorem dX6_readsStatement_12 : decode cX6_readsStatement 12 = .ok (.putfield 97, 3) := by decide +kernel
theorem dX6_readsStatement_15 : decode cX6_readsStatement 15 = .ok (.iload_n 1, 1) := by decide +kernel
theorem dX6_readsStatement_16 : decode cX6_readsStatement 16 = .ok (.tableswitch 208 99 119 #[100, 208, 208, 188, 208, 127, 208, 208, 208, 208, 161, 198, 208, 208, 208, 208, 208, 208, 188, 208, 161], 100) := by decide +kernel
theorem dX6_readsStatement_116 : decode cX6_readsStatement 116 = .ok (.aload_n 0, 1) := by decide +kernel
theorem dX6_readsStatement_117 : decode cX6_readsStatement 117 = .ok (.iconst 0, 1) := by decide +kernel
theorem dX6_readsStatement_118 : decode cX6_readsStatement 118 = .ok (.iconst 2, 1) := by decide +kernel
theorem dX6_readsStatement_119 : decode cX6_readsStatement 119 = .ok (.invokevirtual 107, 3) := by decide +kernel
theorem dX6_readsStatement_122 : decode cX6_readsStatement 122 = .ok (.ifCond .eq 16, 3) := by decide +kernel
theorem dX6_readsStatement_125 : decode cX6_readsStatement 125 = .ok (.aload_n 0, 1) := by decide +kernel
theorem dX6_readsStatement_126 : decode cX6_readsStatement 126 = .ok (.iconst 1, 1) := by decide +kernel
theorem dX6_readsStatement_127 : decode cX6_readsStatement 127 = .ok (.iconst 1, 1) := by decide +kernel
theorem dX6_readsStatement_128 : decode cX6_readsStatement 128 = .ok (.invokevirtual 107, 3) := by decide +kernel
theorem dX6_readsStatement_131 : decode cX6_readsStatement 131 = .ok (.ifCond .eq 7, 3) := by decide +kernel
theorem dX6_readsStatement_134 : decode cX6_readsStatement 134 = .ok (.iconst 1, 1) := by decide +kernel
theorem dX6_readsStatement_135 : decode cX6_readsStatement 135 = .ok (.goto 4, 3) := by decide +kernel
theorem dX6_readsStatement_138 : decode cX6_readsStatement 138 = .ok (.iconst 0, 1) := by decide +kernel
theorem dX6_readsStatement_139 : decode cX6_readsStatement 139 = .ok (.istore_n 2, 1) := by decide +kernel
theorem dX6_readsStatement_140 : decode cX6_readsStatement 140 = .ok (.goto 96, 3) := by decide +kernel
theorem dX6_readsStatement_143 : decode cX6_readsStatement 143 = .ok (.aload_n 0, 1) := by decide +kernel
theorem dX6_readsStatement_144 : decode cX6_readsStatement 144 = .ok (.invokevirtual 110, 3) := by decide +kernel
theorem dX6_readsStatement_147 : decode cX6_readsStatement 147 = .ok (.ifCond .eq 25, 3) := by decide +kernel
theorem dX6_readsStatement_150 : decode cX6_readsStatement 150 = .ok (.aload_n 0, 1) := by decide +kernel
theorem dX6_readsStatement_151 : decode cX6_readsStatement 151 = .ok (.iconst 1, 1) := by decide +kernel
theorem dX6_readsStatement_152 : decode cX6_readsStatement 152 = .ok (.iconst 1, 1) := by decide +kernel
theorem dX6_readsStatement_153 : decode cX6_readsStatement 153 = .ok (.invokevirtual 107, 3) := by decide +kernel
theorem dX6_readsStatement_156 : decode cX6_readsStatement 156 = .ok (.ifCond .eq 16, 3) := by decide +kernel
theorem dX6_readsStatement_159 : decode cX6_readsStatement 159 = .ok (.aload_n 0, 1) := by decide +kernel
theorem dX6_readsStatement_160 : decode cX6_readsStatement 160 = .ok (.iconst 2, 1) := by decide +kernel
theorem dX6_readsStatement_161 : decode cX6_readsStatement 161 = .ok (.iconst 2, 1) := by decide +kernel
theorem dX6_readsStatement_162 : decode cX6_readsStatement 162 = .ok (.invokevirtual 107, 3) := by decide +kernel
theorem dX6_readsStatement_165 : decode cX6_readsStatement 165 = .ok (.ifCond .eq 7, 3) := by decide +kernel
theorem dX6_readsStatement_168 : decode cX6_readsStatement 168 = .ok (.iconst 1, 1) := by decide +kernel
theorem dX6_readsStatement_169 : decode cX6_readsStatement 169 = .ok (.goto 4, 3) := by decide +kernel
theorem dX6_readsStatement_172 : decode cX6_readsStatement 172 = .ok (.iconst 0, 1) := by decide +kernel
theorem dX6_readsStatement_173 : decode cX6_readsStatement 173 = .ok (.istore_n 2, 1) := by decide +kernel
theorem dX6_readsStatement_174 : decode cX6_readsStatement 174 = .ok (.goto 62, 3) := by decide +kernel
theorem dX6_readsStatement_177 : decode cX6_readsStatement 177 = .ok (.aload_n 0, 1) := by decide +kernel
theorem dX6_readsStatement_178 : decode cX6_readsStatement 178 = .ok (.iconst 0, 1) := by decide +kernel
theorem dX6_readsStatement_179 : decode cX6_readsStatement 179 = .ok (.iconst 1, 1) := by decide +kernel
theorem dX6_readsStatement_180 : decode cX6_readsStatement 180 = .ok (.invokevirtual 107, 3) := by decide +kernel
theorem dX6_readsStatement_183 : decode cX6_readsStatement 183 = .ok (.ifCond .eq 16, 3) := by decide +kernel
theorem dX6_readsStatement_186 : decode cX6_readsStatement 186 = .ok (.aload_n 0, 1) := by decide +kernel
theorem dX6_readsStatement_187 : decode cX6_readsStatement 187 = .ok (.iconst 1, 1) := by decide +kernel
theorem dX6_readsStatement_188 : decode cX6_readsStatement 188 = .ok (.iconst 2, 1) := by decide +kernel
theorem dX6_readsStatement_189 : decode cX6_readsStatement 189 = .ok (.invokevirtual 107, 3) := by decide +kernel
theorem dX6_readsStatement_192 : decode cX6_readsStatement 192 = .ok (.ifCond .eq 7, 3) := by decide +kernel
theorem dX6_readsStatement_195 : decode cX6_readsStatement 195 = .ok (.iconst 1, 1) := by decide +kernel
theorem dX6_readsStatement_196 : decode cX6_readsStatement 196 = .ok (.goto 4, 3) := by decide +kernel
theorem dX6_readsStatement_199 : decode cX6_readsStatement 199 = .ok (.iconst 0, 1) := by decide +kernel
theorem dX6_readsStatement_200 : decode cX6_readsStatement 200 = .ok (.istore_n 2, 1) := by decide +kernel
theorem dX6_readsStatement_201 : decode cX6_readsStatement 201 = .ok (.goto 35, 3) := by decide +kernel
theorem dX6_readsStatement_204 : decode cX6_readsStatement 204 = .ok (.aload_n 0, 1) := by decide +kernel
theorem dX6_readsStatement_205 : decode cX6_readsStatement 205 = .ok (.iconst 0, 1) := by decide +kernel
theorem dX6_readsStatement_206 : decode cX6_readsStatement 206 = .ok (.iconst 1, 1) := by decide +kernel
theorem dX6_readsStatement_207 : decode cX6_readsStatement 207 = .ok (.invokevirtual 107, 3) := by decide +kernel
theorem dX6_readsStatement_210 : decode cX6_readsStatement 210 = .ok (.istore_n 2, 1) := by decide +kernel
theorem dX6_readsStatement_211 : decode cX6_readsStatement 211 = .ok (.goto 25, 3) := by decide +kernel
theorem dX6_readsStatement_214 : decode cX6_readsStatement 214 = .ok (.aload_n 0, 1) := by decide +kernel
theorem dX6_readsStatement_215 : decode cX6_readsStatement 215 = .ok (.iconst 0, 1) := by decide +kernel
theorem dX6_readsStatement_216 : decode cX6_readsStatement 216 = .ok (.iconst 2, 1) := by decide +kernel
theorem dX6_readsStatement_217 : decode cX6_readsStatement 217 = .ok (.invokevirtual 107, 3) := by decide +kernel
theorem dX6_readsStatement_220 : decode cX6_readsStatement 220 = .ok (.istore_n 2, 1) := by decide +kernel
theorem dX6_readsStatement_221 : decode cX6_readsStatement 221 = .ok (.goto 15, 3) := by decide +kernel
theorem dX6_readsStatement_224 : decode cX6_readsStatement 224 = .ok (.aload_n 0, 1) := by decide +kernel
theorem dX6_readsStatement_225 : decode cX6_readsStatement 225 = .ok (.dup, 1) := by decide +kernel
theorem dX6_readsStatement_226 : decode cX6_readsStatement 226 = .ok (.getfield 97, 3) := by decide +kernel
theorem dX6_readsStatement_229 : decode cX6_readsStatement 229 = .ok (.iconst 1, 1) := by decide +kernel
theorem dX6_readsStatement_230 : decode cX6_readsStatement 230 = .ok (.isub, 1) := by decide +kernel
theorem dX6_readsStatement_231 : decode cX6_readsStatement 231 = .ok (.putfield 97, 3) := by decide +kernel
theorem dX6_readsStatement_234 : decode cX6_readsStatement 234 = .ok (.iconst 0, 1) := by decide +kernel
theorem dX6_readsStatement_235 : decode cX6_readsStatement 235 = .ok (.ireturn, 1) := by decide +kernel
theorem dX6_readsStatement_236 : decode cX6_readsStatement 236 = .ok (.iload_n 2, 1) := by decide +kernel
theorem dX6_readsStatement_237 : decode cX6_readsStatement 237 = .ok (.ifCond .eq 12, 3) := by decide +kernel
theorem dX6_readsStatement_240 : decode cX6_readsStatement 240 = .ok (.aload_n 0, 1) := by decide +kernel
theorem dX6_readsStatement_241 : decode cX6_readsStatement 241 = .ok (.invokevirtual 100, 3) := by decide +kernel
theorem dX6_readsStatement_244 : decode cX6_readsStatement 244 = .ok (.bipush 59, 2) := by decide +kernel
theorem dX6_readsStatement_246 : decode cX6_readsStatement 246 = .ok (.if_icmp .eq 5, 3) := by decide +kernel
theorem dX6_readsStatement_249 : decode cX6_readsStatement 249 = .ok (.iconst 0, 1) := by decide +kernel
theorem dX6_readsStatement_250 : decode cX6_readsStatement 250 = .ok (.ireturn, 1) := by decide +kernel
theorem dX6_readsStatement_251 : decode cX6_readsStatement 251 = .ok (.aload_n 0, 1) := by decide +kernel
theorem dX6_readsStatement_252 : decode cX6_readsStatement 252 = .ok (.dup, 1) := by decide +kernel
theorem dX6_readsStatement_253 : decode cX6_readsStatement 253 = .ok (.getfield 97, 3) := by decide +kernel
theorem dX6_readsStatement_256 : decode cX6_readsStatement 256 = .ok (.iconst 1, 1) := by decide +kernel
theorem dX6_readsStatement_257 : decode cX6_readsStatement 257 = .ok (.iadd, 1) := by decide +kernel
theorem dX6_readsStatement_258 : decode cX6_readsStatement 258 = .ok (.putfield 97, 3) := by decide +kernel
theorem dX6_readsStatement_261 : decode cX6_readsStatement 261 = .ok (.iconst 1, 1) := by decide +kernel
theorem dX6_readsStatement_262 : decode cX6_readsStatement 262 = .ok (.ireturn, 1) := by decide +kernel
theorem dX6_adds_0 : decode cX6_adds 0 = .ok (.aload_n 0, 1) := by decide +kernel
theorem dX6_adds_1 : decode cX6_adds 1 = .ok (.iconst 0, 1) := by decide +kernel
theorem dX6_adds_2 : decode cX6_adds 2 = .ok (.iaload, 1) := by decide +kernel
theorem dX6_adds_3 : decode cX6_adds 3 = .ok (.istore 4, 2) := by decide +kernel
theorem dX6_adds_5 : decode cX6_adds 5 = .ok (.aload_n 0, 1) := by decide +kernel
theorem dX6_adds_6 : decode cX6_adds 6 = .ok (.iload 4, 2) := by decide +kernel
theorem dX6_adds_8 : decode cX6_adds 8 = .ok (.iconst 0, 1) := by decide +kernel
theorem dX6_adds_9 : decode cX6_adds 9 = .ok (.invokestatic 47, 3) := by decide +kernel
theorem dX6_adds_12 : decode cX6_adds 12 = .ok (.iload_n 1, 1) := by decide +kernel
theorem dX6_adds_13 : decode cX6_adds 13 = .ok (.iastore, 1) := by decide +kernel
theorem dX6_adds_14 : decode cX6_adds 14 = .ok (.aload_n 0, 1) := by decide +kernel
theorem dX6_adds_15 : decode cX6_adds 15 = .ok (.iload 4, 2) := by decide +kernel
theorem dX6_adds_17 : decode cX6_adds 17 = .ok (.iconst 1, 1) := by decide +kernel
theorem dX6_adds_18 : decode cX6_adds 18 = .ok (.invokestatic 47, 3) := by decide +kernel
theorem dX6_adds_21 : decode cX6_adds 21 = .ok (.iload_n 2, 1) := by decide +kernel
theorem dX6_adds_22 : decode cX6_adds 22 = .ok (.iastore, 1) := by decide +kernel
theorem dX6_adds_23 : decode cX6_adds 23 = .ok (.aload_n 0, 1) := by decide +kernel
theorem dX6_adds_24 : decode cX6_adds 24 = .ok (.iload 4, 2) := by decide +kernel
theorem dX6_adds_26 : decode cX6_adds 26 = .ok (.iconst 2, 1) := by decide +kernel
theorem dX6_adds_27 : decode cX6_adds 27 = .ok (.invokestatic 47, 3) := by decide +kernel
theorem dX6_adds_30 : decode cX6_adds 30 = .ok (.iload_n 3, 1) := by decide +kernel
theorem dX6_adds_31 : decode cX6_adds 31 = .ok (.iastore, 1) := by decide +kernel
theorem dX6_adds_32 : decode cX6_adds 32 = .ok (.aload_n 0, 1) := by decide +kernel
theorem dX6_adds_33 : decode cX6_adds 33 = .ok (.iload 4, 2) := by decide +kernel
theorem dX6_adds_35 : decode cX6_adds 35 = .ok (.iconst 3, 1) := by decide +kernel
theorem dX6_adds_36 : decode cX6_adds 36 = .ok (.invokestatic 47, 3) := by decide +kernel
theorem dX6_adds_39 : decode cX6_adds 39 = .ok (.bipush 20, 2) := by decide +kernel
theorem dX6_adds_41 : decode cX6_adds 41 = .ok (.iastore, 1) := by decide +kernel
theorem dX6_adds_42 : decode cX6_adds 42 = .ok (.aload_n 0, 1) := by decide +kernel
theorem dX6_adds_43 : decode cX6_adds 43 = .ok (.iload 4, 2) := by decide +kernel
theorem dX6_adds_45 : decode cX6_adds 45 = .ok (.iconst 4, 1) := by decide +kernel
theorem dX6_adds_46 : decode cX6_adds 46 = .ok (.invokestatic 47, 3) := by decide +kernel
theorem dX6_adds_49 : decode cX6_adds 49 = .ok (.iconst 0, 1) := by decide +kernel
theorem dX6_adds_50 : decode cX6_adds 50 = .ok (.iastore, 1) := by decide +kernel
theorem dX6_adds_51 : decode cX6_adds 51 = .ok (.aload_n 0, 1) := by decide +kernel
theorem dX6_adds_52 : decode cX6_adds 52 = .ok (.iload 4, 2) := by decide +kernel
theorem dX6_adds_54 : decode cX6_adds 54 = .ok (.iconst 5, 1) := by decide +kernel
theorem dX6_adds_55 : decode cX6_adds 55 = .ok (.invokestatic 47, 3) := by decide +kernel
theorem dX6_adds_58 : decode cX6_adds 58 = .ok (.iconst 0, 1) := by decide +kernel
theorem dX6_adds_59 : decode cX6_adds 59 = .ok (.iastore, 1) := by decide +kernel
theorem dX6_adds_60 : decode cX6_adds 60 = .ok (.aload_n 0, 1) := by decide +kernel
theorem dX6_adds_61 : decode cX6_adds 61 = .ok (.iconst 0, 1) := by decide +kernel
theorem dX6_adds_62 : decode cX6_adds 62 = .ok (.dup2, 1) := by decide +kernel
theorem dX6_adds_63 : decode cX6_adds 63 = .ok (.iaload, 1) := by decide +kernel
theorem dX6_adds_64 : decode cX6_adds 64 = .ok (.iconst 1, 1) := by decide +kernel
theorem dX6_adds_65 : decode cX6_adds 65 = .ok (.iadd, 1) := by decide +kernel
theorem dX6_adds_66 : decode cX6_adds 66 = .ok (.iastore, 1) := by decide +kernel
theorem dX6_adds_67 : decode cX6_adds 67 = .ok (.return_, 1) := by decide +kernel
theorem dX6_isDone_0 : decode cX6_isDone 0 = .ok (.aload_n 0, 1) := by decide +kernel
theorem dX6_isDone_1 : decode cX6_isDone 1 = .ok (.getfield 31, 3) := by decide +kernel
theorem dX6_isDone_4 : decode cX6_isDone 4 = .ok (.iconst 0, 1) := by decide +kernel
theorem dX6_isDone_5 : decode cX6_isDone 5 = .ok (.iaload, 1) := by decide +kernel
theorem dX6_isDone_6 : decode cX6_isDone 6 = .ok (.istore_n 2, 1) := by decide +kernel
theorem dX6_isDone_7 : decode cX6_isDone 7 = .ok (.aload_n 0, 1) := by decide +kernel
theorem dX6_isDone_8 : decode cX6_isDone 8 = .ok (.getfield 31, 3) := by decide +kernel
theorem dX6_isDone_11 : decode cX6_isDone 11 = .ok (.iconst 1, 1) := by decide +kernel
theorem dX6_isDone_12 : decode cX6_isDone 12 = .ok (.iaload, 1) := by decide +kernel
theorem dX6_isDone_13 : decode cX6_isDone 13 = .ok (.istore_n 3, 1) := by decide +kernel
theorem dX6_isDone_14 : decode cX6_isDone 14 = .ok (.iconst 0, 1) := by decide +kernel
theorem dX6_isDone_15 : decode cX6_isDone 15 = .ok (.istore 4, 2) := by decide +kernel
theorem dX6_isDone_17 : decode cX6_isDone 17 = .ok (.iload_n 1, 1) := by decide +kernel
theorem dX6_isDone_18 : decode cX6_isDone 18 = .ok (.lookupswitch 224 #[(99, 58), (102, 215), (104, 78), (109, 120), (117, 189), (119, 150)], 58) := by decide +kernel
theorem dX6_isDone_76 : decode cX6_isDone 76 = .ok (.iload_n 2, 1) := by decide +kernel
theorem dX6_isDone_77 : decode cX6_isDone 77 = .ok (.invokestatic 114, 3) := by decide +kernel
theorem dX6_isDone_80 : decode cX6_isDone 80 = .ok (.ifCond .ne 5, 3) := by decide +kernel
theorem dX6_isDone_83 : decode cX6_isDone 83 = .ok (.iconst 0, 1) := by decide +kernel
theorem dX6_isDone_84 : decode cX6_isDone 84 = .ok (.ireturn, 1) := by decide +kernel
theorem dX6_isDone_85 : decode cX6_isDone 85 = .ok (.aload_n 0, 1) := by decide +kernel
theorem dX6_isDone_86 : decode cX6_isDone 86 = .ok (.getfield 9, 3) := by decide +kernel
theorem dX6_isDone_89 : decode cX6_isDone 89 = .ok (.iconst 3, 1) := by decide +kernel
theorem dX6_isDone_90 : decode cX6_isDone 90 = .ok (.iload_n 2, 1) := by decide +kernel
theorem dX6_isDone_91 : decode cX6_isDone 91 = .ok (.iadd, 1) := by decide +kernel
theorem dX6_isDone_92 : decode cX6_isDone 92 = .ok (.iload_n 3, 1) := by decide +kernel
theorem dX6_isDone_93 : decode cX6_isDone 93 = .ok (.iastore, 1) := by decide +kernel
theorem dX6_isDone_94 : decode cX6_isDone 94 = .ok (.iconst 1, 1) := by decide +kernel
theorem dX6_isDone_95 : decode cX6_isDone 95 = .ok (.ireturn, 1) := by decide +kernel
theorem dX6_isDone_96 : decode cX6_isDone 96 = .ok (.aload_n 0, 1) := by decide +kernel
theorem dX6_isDone_97 : decode cX6_isDone 97 = .ok (.getfield 31, 3) := by decide +kernel
theorem dX6_isDone_100 : decode cX6_isDone 100 = .ok (.iconst 2, 1) := by decide +kernel
theorem dX6_isDone_101 : decode cX6_isDone 101 = .ok (.iaload, 1) := by decide +kernel
theorem dX6_isDone_102 : decode cX6_isDone 102 = .ok (.invokestatic 114, 3) := by decide +kernel
theorem dX6_isDone_105 : decode cX6_isDone 105 = .ok (.ifCond .eq 14, 3) := by decide +kernel
theorem dX6_isDone_108 : decode cX6_isDone 108 = .ok (.aload_n 0, 1) := by decide +kernel
theorem dX6_isDone_109 : decode cX6_isDone 109 = .ok (.getfield 9, 3) := by decide +kernel
theorem dX6_isDone_112 : decode cX6_isDone 112 = .ok (.iconst 0, 1) := by decide +kernel
theorem dX6_isDone_113 : decode cX6_isDone 113 = .ok (.iaload, 1) := by decide +kernel
theorem dX6_isDone_114 : decode cX6_isDone 114 = .ok (.bipush 7, 2) := by decide +kernel
theorem dX6_isDone_116 : decode cX6_isDone 116 = .ok (.if_icmp .ne 5, 3) := by decide +kernel
theorem dX6_isDone_119 : decode cX6_isDone 119 = .ok (.iconst 0, 1) := by decide +kernel
theorem dX6_isDone_120 : decode cX6_isDone 120 = .ok (.ireturn, 1) := by decide +kernel
theorem dX6_isDone_121 : decode cX6_isDone 121 = .ok (.aload_n 0, 1) := by decide +kernel
theorem dX6_isDone_122 : decode cX6_isDone 122 = .ok (.getfield 9, 3) := by decide +kernel
theorem dX6_isDone_125 : decode cX6_isDone 125 = .ok (.iload_n 2, 1) := by decide +kernel
theorem dX6_isDone_126 : decode cX6_isDone 126 = .ok (.iload_n 3, 1) := by decide +kernel
theorem dX6_isDone_127 : decode cX6_isDone 127 = .ok (.aload_n 0, 1) := by decide +kernel
theorem dX6_isDone_128 : decode cX6_isDone 128 = .ok (.getfield 31, 3) := by decide +kernel
theorem dX6_isDone_131 : decode cX6_isDone 131 = .ok (.iconst 2, 1) := by decide +kernel
theorem dX6_isDone_132 : decode cX6_isDone 132 = .ok (.iaload, 1) := by decide +kernel
theorem dX6_isDone_133 : decode cX6_isDone 133 = .ok (.invokestatic 118, 3) := by decide +kernel
theorem dX6_isDone_136 : decode cX6_isDone 136 = .ok (.iconst 1, 1) := by decide +kernel
theorem dX6_isDone_137 : decode cX6_isDone 137 = .ok (.ireturn, 1) := by decide +kernel
theorem dX6_isDone_138 : decode cX6_isDone 138 = .ok (.aload_n 0, 1) := by decide +kernel
theorem dX6_isDone_139 : decode cX6_isDone 139 = .ok (.iload_n 2, 1) := by decide +kernel
theorem dX6_isDone_140 : decode cX6_isDone 140 = .ok (.invokevirtual 122, 3) := by decide +kernel
theorem dX6_isDone_143 : decode cX6_isDone 143 = .ok (.ifCond .eq 10, 3) := by decide +kernel
theorem dX6_isDone_146 : decode cX6_isDone 146 = .ok (.iload_n 3, 1) := by decide +kernel
theorem dX6_isDone_147 : decode cX6_isDone 147 = .ok (.invokestatic 114, 3) := by decide +kernel
theorem dX6_isDone_150 : decode cX6_isDone 150 = .ok (.ifCond .ne 5, 3) := by decide +kernel
theorem dX6_isDone_153 : decode cX6_isDone 153 = .ok (.iconst 0, 1) := by decide +kernel
theorem dX6_isDone_154 : decode cX6_isDone 154 = .ok (.ireturn, 1) := by decide +kernel
theorem dX6_isDone_155 : decode cX6_isDone 155 = .ok (.aload_n 0, 1) := by decide +kernel
theorem dX6_isDone_156 : decode cX6_isDone 156 = .ok (.getfield 9, 3) := by decide +kernel
theorem dX6_isDone_159 : decode cX6_isDone 159 = .ok (.iload_n 2, 1) := by decide +kernel
theorem dX6_isDone_160 : decode cX6_isDone 160 = .ok (.iconst 2, 1) := by decide +kernel
theorem dX6_isDone_161 : decode cX6_isDone 161 = .ok (.invokestatic 47, 3) := by decide +kernel
theorem dX6_isDone_164 : decode cX6_isDone 164 = .ok (.iload_n 3, 1) := by decide +kernel
theorem dX6_isDone_165 : decode cX6_isDone 165 = .ok (.iastore, 1) := by decide +kernel
theorem dX6_isDone_166 : decode cX6_isDone 166 = .ok (.iconst 1, 1) := by decide +kernel
theorem dX6_isDone_167 : decode cX6_isDone 167 = .ok (.ireturn, 1) := by decide +kernel
theorem dX6_isDone_168 : decode cX6_isDone 168 = .ok (.aload_n 0, 1) := by decide +kernel
theorem dX6_isDone_169 : decode cX6_isDone 169 = .ok (.iload_n 2, 1) := by decide +kernel
theorem dX6_isDone_170 : decode cX6_isDone 170 = .ok (.invokevirtual 122, 3) := by decide +kernel
theorem dX6_isDone_173 : decode cX6_isDone 173 = .ok (.ifCond .ne 5, 3) := by decide +kernel
theorem dX6_isDone_176 : decode cX6_isDone 176 = .ok (.iconst 0, 1) := by decide +kernel
theorem dX6_isDone_177 : decode cX6_isDone 177 = .ok (.ireturn, 1) := by decide +kernel
theorem dX6_isDone_178 : decode cX6_isDone 178 = .ok (.aload_n 0, 1) := by decide +kernel
theorem dX6_isDone_179 : decode cX6_isDone 179 = .ok (.getfield 9, 3) := by decide +kernel
theorem dX6_isDone_182 : decode cX6_isDone 182 = .ok (.iload_n 2, 1) := by decide +kernel
theorem dX6_isDone_183 : decode cX6_isDone 183 = .ok (.iconst 3, 1) := by decide +kernel
theorem dX6_isDone_184 : decode cX6_isDone 184 = .ok (.invokestatic 47, 3) := by decide +kernel
theorem dX6_isDone_187 : decode cX6_isDone 187 = .ok (.bipush 99, 2) := by decide +kernel
theorem dX6_isDone_189 : decode cX6_isDone 189 = .ok (.aload_n 0, 1) := by decide +kernel
theorem dX6_isDone_190 : decode cX6_isDone 190 = .ok (.getfield 9, 3) := by decide +kernel
theorem dX6_isDone_193 : decode cX6_isDone 193 = .ok (.iload_n 2, 1) := by decide +kernel
theorem dX6_isDone_194 : decode cX6_isDone 194 = .ok (.iconst 3, 1) := by decide +kernel
theorem dX6_isDone_195 : decode cX6_isDone 195 = .ok (.invokestatic 47, 3) := by decide +kernel
theorem dX6_isDone_198 : decode cX6_isDone 198 = .ok (.iaload, 1) := by decide +kernel
theorem dX6_isDone_199 : decode cX6_isDone 199 = .ok (.iload_n 3, 1) := by decide +kernel
theorem dX6_isDone_200 : decode cX6_isDone 200 = .ok (.iadd, 1) := by decide +kernel
theorem dX6_isDone_201 : decode cX6_isDone 201 = .ok (.invokestatic 125, 3) := by decide +kernel
theorem dX6_isDone_204 : decode cX6_isDone 204 = .ok (.iastore, 1) := by decide +kernel
theorem dX6_isDone_205 : decode cX6_isDone 205 = .ok (.iconst 1, 1) := by decide +kernel
theorem dX6_isDone_206 : decode cX6_isDone 206 = .ok (.ireturn, 1) := by decide +kernel
theorem dX6_isDone_207 : decode cX6_isDone 207 = .ok (.aload_n 0, 1) := by decide +kernel
theorem dX6_isDone_208 : decode cX6_isDone 208 = .ok (.iload_n 2, 1) := by decide +kernel
theorem dX6_isDone_209 : decode cX6_isDone 209 = .ok (.invokevirtual 122, 3) := by decide +kernel
theorem dX6_isDone_212 : decode cX6_isDone 212 = .ok (.ifCond .ne 5, 3) := by decide +kernel
theorem dX6_isDone_215 : decode cX6_isDone 215 = .ok (.iconst 0, 1) := by decide +kernel
theorem dX6_isDone_216 : decode cX6_isDone 216 = .ok (.ireturn, 1) := by decide +kernel
theorem dX6_isDone_217 : decode cX6_isDone 217 = .ok (.aload_n 0, 1) := by decide +kernel
theorem dX6_isDone_218 : decode cX6_isDone 218 = .ok (.getfield 9, 3) := by decide +kernel
theorem dX6_isDone_221 : decode cX6_isDone 221 = .ok (.iload_n 2, 1) := by decide +kernel
theorem dX6_isDone_222 : decode cX6_isDone 222 = .ok (.iconst 4, 1) := by decide +kernel
theorem dX6_isDone_223 : decode cX6_isDone 223 = .ok (.invokestatic 47, 3) := by decide +kernel
theorem dX6_isDone_226 : decode cX6_isDone 226 = .ok (.dup2, 1) := by decide +kernel
theorem dX6_isDone_227 : decode cX6_isDone 227 = .ok (.iaload, 1) := by decide +kernel
theorem dX6_isDone_228 : decode cX6_isDone 228 = .ok (.iconst 1, 1) := by decide +kernel
theorem dX6_isDone_229 : decode cX6_isDone 229 = .ok (.ixor, 1) := by decide +kernel
theorem dX6_isDone_230 : decode cX6_isDone 230 = .ok (.iastore, 1) := by decide +kernel
theorem dX6_isDone_231 : decode cX6_isDone 231 = .ok (.iconst 1, 1) := by decide +kernel
theorem dX6_isDone_232 : decode cX6_isDone 232 = .ok (.ireturn, 1) := by decide +kernel
theorem dX6_isDone_233 : decode cX6_isDone 233 = .ok (.aload_n 0, 1) := by decide +kernel
theorem dX6_isDone_234 : decode cX6_isDone 234 = .ok (.getfield 9, 3) := by decide +kernel
theorem dX6_isDone_237 : decode cX6_isDone 237 = .ok (.iconst 2, 1) := by decide +kernel
theorem dX6_isDone_238 : decode cX6_isDone 238 = .ok (.iload_n 2, 1) := by decide +kernel
theorem dX6_isDone_239 : decode cX6_isDone 239 = .ok (.iastore, 1) := by decide +kernel
theorem dX6_isDone_240 : decode cX6_isDone 240 = .ok (.iconst 1, 1) := by decide +kernel
theorem dX6_isDone_241 : decode cX6_isDone 241 = .ok (.ireturn, 1) := by decide +kernel
theorem dX6_isDone_242 : decode cX6_isDone 242 = .ok (.iload_n 2, 1) := by decide +kernel
theorem dX6_isDone_243 : decode cX6_isDone 243 = .ok (.iconst 1, 1) := by decide +kernel
theorem dX6_isDone_244 : decode cX6_isDone 244 = .ok (.bipush 60, 2) := by decide +kernel
theorem dX6_isDone_246 : decode cX6_isDone 246 = .ok (.invokestatic 43, 3) := by decide +kernel
theorem dX6_isDone_249 : decode cX6_isDone 249 = .ok (.ifCond .eq 17, 3) := by decide +kernel
theorem dX6_isDone_252 : decode cX6_isDone 252 = .ok (.aload_n 0, 1) := by decide +kernel
theorem dX6_isDone_253 : decode cX6_isDone 253 = .ok (.getfield 9, 3) := by decide +kernel
theorem dX6_isDone_256 : decode cX6_isDone 256 = .ok (.iconst 1, 1) := by decide +kernel
theorem dX6_isDone_257 : decode cX6_isDone 257 = .ok (.iaload, 1) := by decide +kernel
theorem dX6_isDone_258 : decode cX6_isDone 258 = .ok (.iload_n 2, 1) := by decide +kernel
theorem dX6_isDone_259 : decode cX6_isDone 259 = .ok (.iadd, 1) := by decide +kernel
theorem dX6_isDone_260 : decode cX6_isDone 260 = .ok (.sipush 999, 3) := by decide +kernel
theorem dX6_isDone_263 : decode cX6_isDone 263 = .ok (.if_icmp .le 5, 3) := by decide +kernel
theorem dX6_isDone_266 : decode cX6_isDone 266 = .ok (.iconst 0, 1) := by decide +kernel
theorem dX6_isDone_267 : decode cX6_isDone 267 = .ok (.ireturn, 1) := by decide +kernel
theorem dX6_isDone_268 : decode cX6_isDone 268 = .ok (.aload_n 0, 1) := by decide +kernel
theorem dX6_isDone_269 : decode cX6_isDone 269 = .ok (.getfield 9, 3) := by decide +kernel
theorem dX6_isDone_272 : decode cX6_isDone 272 = .ok (.iload_n 2, 1) := by decide +kernel
theorem dX6_isDone_273 : decode cX6_isDone 273 = .ok (.invokestatic 128, 3) := by decide +kernel
theorem dX6_isDone_276 : decode cX6_isDone 276 = .ok (.istore 4, 2) := by decide +kernel
theorem dX6_isDone_278 : decode cX6_isDone 278 = .ok (.iconst 1, 1) := by decide +kernel
theorem dX6_isDone_279 : decode cX6_isDone 279 = .ok (.ireturn, 1) := by decide +kernel
theorem dX6_land_0 : decode cX6_land 0 = .ok (.aload_n 0, 1) := by decide +kernel
theorem dX6_land_1 : decode cX6_land 1 = .ok (.iconst 0, 1) := by decide +kernel
theorem dX6_land_2 : decode cX6_land 2 = .ok (.putfield 97, 3) := by decide +kernel
theorem dX6_land_5 : decode cX6_land 5 = .ok (.iconst 0, 1) := by decide +kernel
theorem dX6_land_6 : decode cX6_land 6 = .ok (.istore_n 1, 1) := by decide +kernel
theorem dX6_land_7 : decode cX6_land 7 = .ok (.bipush (-9), 2) := by decide +kernel
theorem dX6_land_9 : decode cX6_land 9 = .ok (.istore_n 2, 1) := by decide +kernel
theorem dX6_land_10 : decode cX6_land 10 = .ok (.aload_n 0, 1) := by decide +kernel
theorem dX6_land_11 : decode cX6_land 11 = .ok (.invokevirtual 131, 3) := by decide +kernel
theorem dX6_land_14 : decode cX6_land 14 = .ok (.ifCond .ne 12, 3) := by decide +kernel
theorem dX6_land_17 : decode cX6_land 17 = .ok (.sipush (-1000), 3) := by decide +kernel
theorem dX6_land_20 : decode cX6_land 20 = .ok (.aload_n 0, 1) := by decide +kernel
theorem dX6_land_21 : decode cX6_land 21 = .ok (.getfield 97, 3) := by decide +kernel
theorem dX6_land_24 : decode cX6_land 24 = .ok (.isub, 1) := by decide +kernel
theorem dX6_land_25 : decode cX6_land 25 = .ok (.istore_n 2, 1) := by decide +kernel
theorem dX6_land_26 : decode cX6_land 26 = .ok (.iinc 1 1, 3) := by decide +kernel
theorem dX6_land_29 : decode cX6_land 29 = .ok (.iload_n 2, 1) := by decide +kernel
theorem dX6_land_30 : decode cX6_land 30 = .ok (.bipush (-9), 2) := by decide +kernel
theorem dX6_land_32 : decode cX6_land 32 = .ok (.if_icmp .ne 14, 3) := by decide +kernel
theorem dX6_land_35 : decode cX6_land 35 = .ok (.aload_n 0, 1) := by decide +kernel
theorem dX6_land_36 : decode cX6_land 36 = .ok (.getfield 97, 3) := by decide +kernel
theorem dX6_land_39 : decode cX6_land 39 = .ok (.aload_n 0, 1) := by decide +kernel
theorem dX6_land_40 : decode cX6_land 40 = .ok (.getfield 93, 3) := by decide +kernel
theorem dX6_land_43 : decode cX6_land 43 = .ok (.if_icmp .lt (-33), 3) := by decide +kernel
theorem dX6_land_46 : decode cX6_land 46 = .ok (.aload_n 0, 1) := by decide +kernel
theorem dX6_land_47 : decode cX6_land 47 = .ok (.getfield 9, 3) := by decide +kernel
theorem dX6_land_50 : decode cX6_land 50 = .ok (.aload_n 0, 1) := by decide +kernel
theorem dX6_land_51 : decode cX6_land 51 = .ok (.getfield 19, 3) := by decide +kernel
theorem dX6_land_54 : decode cX6_land 54 = .ok (.invokestatic 134, 3) := by decide +kernel
theorem dX6_land_57 : decode cX6_land 57 = .ok (.aload_n 0, 1) := by decide +kernel
theorem dX6_land_58 : decode cX6_land 58 = .ok (.iconst 0, 1) := by decide +kernel
theorem dX6_land_59 : decode cX6_land 59 = .ok (.putfield 97, 3) := by decide +kernel
theorem dX6_land_62 : decode cX6_land 62 = .ok (.iload_n 2, 1) := by decide +kernel
theorem dX6_land_63 : decode cX6_land 63 = .ok (.bipush (-9), 2) := by decide +kernel
theorem dX6_land_65 : decode cX6_land 65 = .ok (.if_icmp .ne 63, 3) := by decide +kernel
theorem dX6_land_68 : decode cX6_land 68 = .ok (.aload_n 0, 1) := by decide +kernel
theorem dX6_land_69 : decode cX6_land 69 = .ok (.getfield 97, 3) := by decide +kernel
theorem dX6_land_72 : decode cX6_land 72 = .ok (.aload_n 0, 1) := by decide +kernel
theorem dX6_land_73 : decode cX6_land 73 = .ok (.getfield 93, 3) := by decide +kernel
theorem dX6_land_76 : decode cX6_land 76 = .ok (.if_icmp .ge 52, 3) := by decide +kernel
theorem dX6_land_79 : decode cX6_land 79 = .ok (.aload_n 0, 1) := by decide +kernel
theorem dX6_land_80 : decode cX6_land 80 = .ok (.getfield 97, 3) := by decide +kernel
theorem dX6_land_83 : decode cX6_land 83 = .ok (.istore_n 3, 1) := by decide +kernel
theorem dX6_land_84 : decode cX6_land 84 = .ok (.aload_n 0, 1) := by decide +kernel
theorem dX6_land_85 : decode cX6_land 85 = .ok (.invokevirtual 100, 3) := by decide +kernel
theorem dX6_land_88 : decode cX6_land 88 = .ok (.istore 4, 2) := by decide +kernel
theorem dX6_land_90 : decode cX6_land 90 = .ok (.aload_n 0, 1) := by decide +kernel
theorem dX6_land_91 : decode cX6_land 91 = .ok (.invokevirtual 131, 3) := by decide +kernel
theorem dX6_land_94 : decode cX6_land 94 = .ok (.istore 5, 2) := by decide +kernel
theorem dX6_land_96 : decode cX6_land 96 = .ok (.aload_n 0, 1) := by decide +kernel
theorem dX6_land_97 : decode cX6_land 97 = .ok (.iload 4, 2) := by decide +kernel
theorem dX6_land_99 : decode cX6_land 99 = .ok (.invokevirtual 138, 3) := by decide +kernel
theorem dX6_land_102 : decode cX6_land 102 = .ok (.ifCond .eq 6, 3) := by decide +kernel
theorem dX6_land_105 : decode cX6_land 105 = .ok (.goto (-43), 3) := by decide +kernel
theorem dX6_land_108 : decode cX6_land 108 = .ok (.sipush (-2000), 3) := by decide +kernel
theorem dX6_land_111 : decode cX6_land 111 = .ok (.iload_n 3, 1) := by decide +kernel
theorem dX6_land_112 : decode cX6_land 112 = .ok (.isub, 1) := by decide +kernel
theorem dX6_land_113 : decode cX6_land 113 = .ok (.istore_n 2, 1) := by decide +kernel
theorem dX6_land_114 : decode cX6_land 114 = .ok (.aload_n 0, 1) := by decide +kernel
theorem dX6_land_115 : decode cX6_land 115 = .ok (.getfield 19, 3) := by decide +kernel
theorem dX6_land_118 : decode cX6_land 118 = .ok (.aload_n 0, 1) := by decide +kernel
theorem dX6_land_119 : decode cX6_land 119 = .ok (.getfield 9, 3) := by decide +kernel
theorem dX6_land_122 : decode cX6_land 122 = .ok (.invokestatic 134, 3) := by decide +kernel
theorem dX6_land_125 : decode cX6_land 125 = .ok (.goto (-63), 3) := by decide +kernel
theorem dX6_land_128 : decode cX6_land 128 = .ok (.aload_n 0, 1) := by decide +kernel
theorem dX6_land_129 : decode cX6_land 129 = .ok (.iconst 0, 1) := by decide +kernel
theorem dX6_land_130 : decode cX6_land 130 = .ok (.putfield 93, 3) := by decide +kernel
theorem dX6_land_133 : decode cX6_land 133 = .ok (.iload_n 2, 1) := by decide +kernel
theorem dX6_land_134 : decode cX6_land 134 = .ok (.bipush (-9), 2) := by decide +kernel
theorem dX6_land_136 : decode cX6_land 136 = .ok (.if_icmp .ne 7, 3) := by decide +kernel
theorem dX6_land_139 : decode cX6_land 139 = .ok (.iload_n 1, 1) := by decide +kernel
theorem dX6_land_140 : decode cX6_land 140 = .ok (.goto 4, 3) := by decide +kernel
theorem dX6_land_143 : decode cX6_land 143 = .ok (.iload_n 2, 1) := by decide +kernel
theorem dX6_land_144 : decode cX6_land 144 = .ok (.ireturn, 1) := by decide +kernel
theorem dX6_house_0 : decode cX6_house 0 = .ok (.aload_n 0, 1) := by decide +kernel
theorem dX6_house_1 : decode cX6_house 1 = .ok (.iload_n 1, 1) := by decide +kernel
theorem dX6_house_2 : decode cX6_house 2 = .ok (.invokevirtual 122, 3) := by decide +kernel
theorem dX6_house_5 : decode cX6_house 5 = .ok (.ifCond .ne 9, 3) := by decide +kernel
theorem dX6_house_8 : decode cX6_house 8 = .ok (.aload_n 0, 1) := by decide +kernel
theorem dX6_house_9 : decode cX6_house 9 = .ok (.iconst (-1), 1) := by decide +kernel
theorem dX6_house_10 : decode cX6_house 10 = .ok (.invokevirtual 39, 3) := by decide +kernel
theorem dX6_house_13 : decode cX6_house 13 = .ok (.ireturn, 1) := by decide +kernel
theorem dX6_house_14 : decode cX6_house 14 = .ok (.iload_n 2, 1) := by decide +kernel
theorem dX6_house_15 : decode cX6_house 15 = .ok (.iconst 0, 1) := by decide +kernel
theorem dX6_house_16 : decode cX6_house 16 = .ok (.iconst 4, 1) := by decide +kernel
theorem dX6_house_17 : decode cX6_house 17 = .ok (.invokestatic 43, 3) := by decide +kernel
theorem dX6_house_20 : decode cX6_house 20 = .ok (.ifCond .eq 14, 3) := by decide +kernel
theorem dX6_house_23 : decode cX6_house 23 = .ok (.aload_n 0, 1) := by decide +kernel
theorem dX6_house_24 : decode cX6_house 24 = .ok (.getfield 9, 3) := by decide +kernel
theorem dX6_house_27 : decode cX6_house 27 = .ok (.iload_n 1, 1) := by decide +kernel
theorem dX6_house_28 : decode cX6_house 28 = .ok (.iload_n 2, 1) := by decide +kernel
theorem dX6_house_29 : decode cX6_house 29 = .ok (.invokestatic 47, 3) := by decide +kernel
theorem dX6_house_32 : decode cX6_house 32 = .ok (.iaload, 1) := by decide +kernel
theorem dX6_house_33 : decode cX6_house 33 = .ok (.ireturn, 1) := by decide +kernel
theorem dX6_house_34 : decode cX6_house 34 = .ok (.iload_n 2, 1) := by decide +kernel
theorem dX6_house_35 : decode cX6_house 35 = .ok (.tableswitch 65 5 7 #[25, 42, 51], 25) := by decide +kernel
theorem dX6_house_60 : decode cX6_house 60 = .ok (.aload_n 0, 1) := by decide +kernel
theorem dX6_house_61 : decode cX6_house 61 = .ok (.getfield 9, 3) := by decide +kernel
theorem dX6_house_64 : decode cX6_house 64 = .ok (.iload_n 1, 1) := by decide +kernel
theorem dX6_house_65 : decode cX6_house 65 = .ok (.invokestatic 71, 3) := by decide +kernel
theorem dX6_house_68 : decode cX6_house 68 = .ok (.ifCond .eq 7, 3) := by decide +kernel
theorem dX6_house_71 : decode cX6_house 71 = .ok (.iconst 1, 1) := by decide +kernel
theorem dX6_house_72 : decode cX6_house 72 = .ok (.goto 4, 3) := by decide +kernel
theorem dX6_house_75 : decode cX6_house 75 = .ok (.iconst 0, 1) := by decide +kernel
theorem dX6_house_76 : decode cX6_house 76 = .ok (.ireturn, 1) := by decide +kernel
theorem dX6_house_77 : decode cX6_house 77 = .ok (.aload_n 0, 1) := by decide +kernel
theorem dX6_house_78 : decode cX6_house 78 = .ok (.getfield 9, 3) := by decide +kernel
theorem dX6_house_81 : decode cX6_house 81 = .ok (.iload_n 1, 1) := by decide +kernel
theorem dX6_house_82 : decode cX6_house 82 = .ok (.invokestatic 64, 3) := by decide +kernel
theorem dX6_house_85 : decode cX6_house 85 = .ok (.ireturn, 1) := by decide +kernel
theorem dX6_house_86 : decode cX6_house 86 = .ok (.aload_n 0, 1) := by decide +kernel
theorem dX6_house_87 : decode cX6_house 87 = .ok (.getfield 9, 3) := by decide +kernel
theorem dX6_house_90 : decode cX6_house 90 = .ok (.iload_n 1, 1) := by decide +kernel
theorem dX6_house_91 : decode cX6_house 91 = .ok (.iconst 0, 1) := by decide +kernel
theorem dX6_house_92 : decode cX6_house 92 = .ok (.invokestatic 47, 3) := by decide +kernel
theorem dX6_house_95 : decode cX6_house 95 = .ok (.iaload, 1) := by decide +kernel
theorem dX6_house_96 : decode cX6_house 96 = .ok (.invokestatic 51, 3) := by decide +kernel
theorem dX6_house_99 : decode cX6_house 99 = .ok (.ireturn, 1) := by decide +kernel
theorem dX6_house_100 : decode cX6_house 100 = .ok (.aload_n 0, 1) := by decide +kernel
theorem dX6_house_101 : decode cX6_house 101 = .ok (.bipush (-2), 2) := by decide +kernel
theorem dX6_house_103 : decode cX6_house 103 = .ok (.invokevirtual 39, 3) := by decide +kernel
theorem dX6_house_106 : decode cX6_house 106 = .ok (.ireturn, 1) := by decide +kernel
theorem dX6_height_0 : decode cX6_height 0 = .ok (.iload_n 1, 1) := by decide +kernel
theorem dX6_height_1 : decode cX6_height 1 = .ok (.invokestatic 114, 3) := by decide +kernel
theorem dX6_height_4 : decode cX6_height 4 = .ok (.ifCond .eq 14, 3) := by decide +kernel
theorem dX6_height_7 : decode cX6_height 7 = .ok (.aload_n 0, 1) := by decide +kernel
theorem dX6_height_8 : decode cX6_height 8 = .ok (.getfield 9, 3) := by decide +kernel
theorem dX6_height_11 : decode cX6_height 11 = .ok (.iconst 3, 1) := by decide +kernel
theorem dX6_height_12 : decode cX6_height 12 = .ok (.iload_n 1, 1) := by decide +kernel
theorem dX6_height_13 : decode cX6_height 13 = .ok (.iadd, 1) := by decide +kernel
theorem dX6_height_14 : decode cX6_height 14 = .ok (.iaload, 1) := by decide +kernel
theorem dX6_height_15 : decode cX6_height 15 = .ok (.goto 8, 3) := by decide +kernel
theorem dX6_height_18 : decode cX6_height 18 = .ok (.aload_n 0, 1) := by decide +kernel
theorem dX6_height_19 : decode cX6_height 19 = .ok (.iconst (-1), 1) := by decide +kernel
theorem dX6_height_20 : decode cX6_height 20 = .ok (.invokevirtual 39, 3) := by decide +kernel
theorem dX6_height_23 : decode cX6_height 23 = .ok (.ireturn, 1) := by decide +kernel
theorem dX6_wrongBy_0 : decode cX6_wrongBy 0 = .ok (.iload_n 0, 1) := by decide +kernel
theorem dX6_wrongBy_1 : decode cX6_wrongBy 1 = .ok (.iload_n 1, 1) := by decide +kernel
theorem dX6_wrongBy_2 : decode cX6_wrongBy 2 = .ok (.if_icmp .ge 8, 3) := by decide +kernel
theorem dX6_wrongBy_5 : decode cX6_wrongBy 5 = .ok (.bipush (-4), 2) := by decide +kernel
theorem dX6_wrongBy_7 : decode cX6_wrongBy 7 = .ok (.goto 14, 3) := by decide +kernel
theorem dX6_wrongBy_10 : decode cX6_wrongBy 10 = .ok (.iload_n 0, 1) := by decide +kernel
theorem dX6_wrongBy_11 : decode cX6_wrongBy 11 = .ok (.iload_n 2, 1) := by decide +kernel
theorem dX6_wrongBy_12 : decode cX6_wrongBy 12 = .ok (.if_icmp .le 8, 3) := by decide +kernel
theorem dX6_wrongBy_15 : decode cX6_wrongBy 15 = .ok (.bipush (-6), 2) := by decide +kernel
theorem dX6_wrongBy_17 : decode cX6_wrongBy 17 = .ok (.goto 4, 3) := by decide +kernel
theorem dX6_wrongBy_20 : decode cX6_wrongBy 20 = .ok (.iconst 0, 1) := by decide +kernel
theorem dX6_wrongBy_21 : decode cX6_wrongBy 21 = .ok (.ireturn, 1) := by decide +kernel
theorem dX6_heaps_0 : decode cX6_heaps 0 = .ok (.iload_n 1, 1) := by decide +kernel
theorem dX6_heaps_1 : decode cX6_heaps 1 = .ok (.invokestatic 114, 3) := by decide +kernel
theorem dX6_heaps_4 : decode cX6_heaps 4 = .ok (.ifCond .eq 13, 3) := by decide +kernel
theorem dX6_heaps_7 : decode cX6_heaps 7 = .ok (.iload_n 2, 1) := by decide +kernel
theorem dX6_heaps_8 : decode cX6_heaps 8 = .ok (.iconst 0, 1) := by decide +kernel
theorem dX6_heaps_9 : decode cX6_heaps 9 = .ok (.bipush 9, 2) := by decide +kernel
theorem dX6_heaps_11 : decode cX6_heaps 11 = .ok (.invokestatic 141, 3) := by decide +kernel
theorem dX6_heaps_14 : decode cX6_heaps 14 = .ok (.goto 4, 3) := by decide +kernel
theorem dX6_heaps_17 : decode cX6_heaps 17 = .ok (.iconst (-1), 1) := by decide +kernel
theorem dX6_heaps_18 : decode cX6_heaps 18 = .ok (.istore_n 3, 1) := by decide +kernel
theorem dX6_heaps_19 : decode cX6_heaps 19 = .ok (.iload_n 3, 1) := by decide +kernel
theorem dX6_heaps_20 : decode cX6_heaps 20 = .ok (.ifCond .eq 9, 3) := by decide +kernel
theorem dX6_heaps_23 : decode cX6_heaps 23 = .ok (.aload_n 0, 1) := by decide +kernel
theorem dX6_heaps_24 : decode cX6_heaps 24 = .ok (.iload_n 3, 1) := by decide +kernel
theorem dX6_heaps_25 : decode cX6_heaps 25 = .ok (.invokevirtual 39, 3) := by decide +kernel
theorem dX6_heaps_28 : decode cX6_heaps 28 = .ok (.ireturn, 1) := by decide +kernel
theorem dX6_heaps_29 : decode cX6_heaps 29 = .ok (.aload_n 0, 1) := by decide +kernel
theorem dX6_heaps_30 : decode cX6_heaps 30 = .ok (.getfield 9, 3) := by decide +kernel
theorem dX6_heaps_33 : decode cX6_heaps 33 = .ok (.iconst 3, 1) := by decide +kernel
theorem dX6_heaps_34 : decode cX6_heaps 34 = .ok (.iload_n 1, 1) := by decide +kernel
theorem dX6_heaps_35 : decode cX6_heaps 35 = .ok (.iadd, 1) := by decide +kernel
theorem dX6_heaps_36 : decode cX6_heaps 36 = .ok (.iaload, 1) := by decide +kernel
theorem dX6_heaps_37 : decode cX6_heaps 37 = .ok (.istore 4, 2) := by decide +kernel
theorem dX6_heaps_39 : decode cX6_heaps 39 = .ok (.aload_n 0, 1) := by decide +kernel
theorem dX6_heaps_40 : decode cX6_heaps 40 = .ok (.getfield 9, 3) := by decide +kernel
theorem dX6_heaps_43 : decode cX6_heaps 43 = .ok (.iconst 3, 1) := by decide +kernel
theorem dX6_heaps_44 : decode cX6_heaps 44 = .ok (.iload_n 1, 1) := by decide +kernel
theorem dX6_heaps_45 : decode cX6_heaps 45 = .ok (.iadd, 1) := by decide +kernel
theorem dX6_heaps_46 : decode cX6_heaps 46 = .ok (.iload_n 2, 1) := by decide +kernel
theorem dX6_heaps_47 : decode cX6_heaps 47 = .ok (.iastore, 1) := by decide +kernel
theorem dX6_heaps_48 : decode cX6_heaps 48 = .ok (.iload 4, 2) := by decide +kernel
theorem dX6_heaps_50 : decode cX6_heaps 50 = .ok (.ireturn, 1) := by decide +kernel
theorem dX6_moves_0 : decode cX6_moves 0 = .ok (.aload_n 0, 1) := by decide +kernel
theorem dX6_moves_1 : decode cX6_moves 1 = .ok (.iload_n 1, 1) := by decide +kernel
theorem dX6_moves_2 : decode cX6_moves 2 = .ok (.invokevirtual 122, 3) := by decide +kernel
theorem dX6_moves_5 : decode cX6_moves 5 = .ok (.ifCond .eq 10, 3) := by decide +kernel
theorem dX6_moves_8 : decode cX6_moves 8 = .ok (.iload_n 2, 1) := by decide +kernel
theorem dX6_moves_9 : decode cX6_moves 9 = .ok (.invokestatic 114, 3) := by decide +kernel
theorem dX6_moves_12 : decode cX6_moves 12 = .ok (.ifCond .ne 9, 3) := by decide +kernel
theorem dX6_moves_15 : decode cX6_moves 15 = .ok (.aload_n 0, 1) := by decide +kernel
theorem dX6_moves_16 : decode cX6_moves 16 = .ok (.iconst (-1), 1) := by decide +kernel
theorem dX6_moves_17 : decode cX6_moves 17 = .ok (.invokevirtual 39, 3) := by decide +kernel
theorem dX6_moves_20 : decode cX6_moves 20 = .ok (.ireturn, 1) := by decide +kernel
theorem dX6_moves_21 : decode cX6_moves 21 = .ok (.aload_n 0, 1) := by decide +kernel
theorem dX6_moves_22 : decode cX6_moves 22 = .ok (.getfield 9, 3) := by decide +kernel
theorem dX6_moves_25 : decode cX6_moves 25 = .ok (.iload_n 1, 1) := by decide +kernel
theorem dX6_moves_26 : decode cX6_moves 26 = .ok (.iconst 2, 1) := by decide +kernel
theorem dX6_moves_27 : decode cX6_moves 27 = .ok (.invokestatic 47, 3) := by decide +kernel
theorem dX6_moves_30 : decode cX6_moves 30 = .ok (.iaload, 1) := by decide +kernel
theorem dX6_moves_31 : decode cX6_moves 31 = .ok (.istore_n 3, 1) := by decide +kernel
theorem dX6_moves_32 : decode cX6_moves 32 = .ok (.aload_n 0, 1) := by decide +kernel
theorem dX6_moves_33 : decode cX6_moves 33 = .ok (.getfield 9, 3) := by decide +kernel
theorem dX6_moves_36 : decode cX6_moves 36 = .ok (.iload_n 1, 1) := by decide +kernel
theorem dX6_moves_37 : decode cX6_moves 37 = .ok (.iconst 2, 1) := by decide +kernel
theorem dX6_moves_38 : decode cX6_moves 38 = .ok (.invokestatic 47, 3) := by decide +kernel
theorem dX6_moves_41 : decode cX6_moves 41 = .ok (.iload_n 2, 1) := by decide +kernel
theorem dX6_moves_42 : decode cX6_moves 42 = .ok (.iastore, 1) := by decide +kernel
theorem dX6_moves_43 : decode cX6_moves 43 = .ok (.iload_n 3, 1) := by decide +kernel
theorem dX6_moves_44 : decode cX6_moves 44 = .ok (.ireturn, 1) := by decide +kernel
theorem dX6_gives_0 : decode cX6_gives 0 = .ok (.aload_n 0, 1) := by decide +kernel
theorem dX6_gives_1 : decode cX6_gives 1 = .ok (.iload_n 1, 1) := by decide +kernel
theorem dX6_gives_2 : decode cX6_gives 2 = .ok (.invokevirtual 122, 3) := by decide +kernel
theorem dX6_gives_5 : decode cX6_gives 5 = .ok (.ifCond .eq 13, 3) := by decide +kernel
theorem dX6_gives_8 : decode cX6_gives 8 = .ok (.iload_n 2, 1) := by decide +kernel
theorem dX6_gives_9 : decode cX6_gives 9 = .ok (.iconst 0, 1) := by decide +kernel
theorem dX6_gives_10 : decode cX6_gives 10 = .ok (.bipush 99, 2) := by decide +kernel
theorem dX6_gives_12 : decode cX6_gives 12 = .ok (.invokestatic 141, 3) := by decide +kernel
theorem dX6_gives_15 : decode cX6_gives 15 = .ok (.goto 4, 3) := by decide +kernel
theorem dX6_gives_18 : decode cX6_gives 18 = .ok (.iconst (-1), 1) := by decide +kernel
theorem dX6_gives_19 : decode cX6_gives 19 = .ok (.istore_n 3, 1) := by decide +kernel
theorem dX6_gives_20 : decode cX6_gives 20 = .ok (.iload_n 3, 1) := by decide +kernel
theorem dX6_gives_21 : decode cX6_gives 21 = .ok (.ifCond .eq 9, 3) := by decide +kernel
theorem dX6_gives_24 : decode cX6_gives 24 = .ok (.aload_n 0, 1) := by decide +kernel
theorem dX6_gives_25 : decode cX6_gives 25 = .ok (.iload_n 3, 1) := by decide +kernel
theorem dX6_gives_26 : decode cX6_gives 26 = .ok (.invokevirtual 39, 3) := by decide +kernel
theorem dX6_gives_29 : decode cX6_gives 29 = .ok (.ireturn, 1) := by decide +kernel
theorem dX6_gives_30 : decode cX6_gives 30 = .ok (.aload_n 0, 1) := by decide +kernel
theorem dX6_gives_31 : decode cX6_gives 31 = .ok (.getfield 9, 3) := by decide +kernel
theorem dX6_gives_34 : decode cX6_gives 34 = .ok (.iload_n 1, 1) := by decide +kernel
theorem dX6_gives_35 : decode cX6_gives 35 = .ok (.iconst 3, 1) := by decide +kernel
theorem dX6_gives_36 : decode cX6_gives 36 = .ok (.invokestatic 47, 3) := by decide +kernel
theorem dX6_gives_39 : decode cX6_gives 39 = .ok (.bipush 99, 2) := by decide +kernel
theorem dX6_gives_41 : decode cX6_gives 41 = .ok (.aload_n 0, 1) := by decide +kernel
theorem dX6_gives_42 : decode cX6_gives 42 = .ok (.getfield 9, 3) := by decide +kernel
theorem dX6_gives_45 : decode cX6_gives 45 = .ok (.iload_n 1, 1) := by decide +kernel
theorem dX6_gives_46 : decode cX6_gives 46 = .ok (.iconst 3, 1) := by decide +kernel
theorem dX6_gives_47 : decode cX6_gives 47 = .ok (.invokestatic 47, 3) := by decide +kernel
theorem dX6_gives_50 : decode cX6_gives 50 = .ok (.iaload, 1) := by decide +kernel
theorem dX6_gives_51 : decode cX6_gives 51 = .ok (.iload_n 2, 1) := by decide +kernel
theorem dX6_gives_52 : decode cX6_gives 52 = .ok (.iadd, 1) := by decide +kernel
theorem dX6_gives_53 : decode cX6_gives 53 = .ok (.invokestatic 125, 3) := by decide +kernel
theorem dX6_gives_56 : decode cX6_gives 56 = .ok (.iastore, 1) := by decide +kernel
theorem dX6_gives_57 : decode cX6_gives 57 = .ok (.aload_n 0, 1) := by decide +kernel
theorem dX6_gives_58 : decode cX6_gives 58 = .ok (.getfield 9, 3) := by decide +kernel
theorem dX6_gives_61 : decode cX6_gives 61 = .ok (.iload_n 1, 1) := by decide +kernel
theorem dX6_gives_62 : decode cX6_gives 62 = .ok (.iconst 3, 1) := by decide +kernel
theorem dX6_gives_63 : decode cX6_gives 63 = .ok (.invokestatic 47, 3) := by decide +kernel
theorem dX6_gives_66 : decode cX6_gives 66 = .ok (.iaload, 1) := by decide +kernel
theorem dX6_gives_67 : decode cX6_gives 67 = .ok (.ireturn, 1) := by decide +kernel
theorem dX6_calls_0 : decode cX6_calls 0 = .ok (.aload_n 0, 1) := by decide +kernel
theorem dX6_calls_1 : decode cX6_calls 1 = .ok (.iload_n 1, 1) := by decide +kernel
theorem dX6_calls_2 : decode cX6_calls 2 = .ok (.invokevirtual 122, 3) := by decide +kernel
theorem dX6_calls_5 : decode cX6_calls 5 = .ok (.ifCond .ne 9, 3) := by decide +kernel
theorem dX6_calls_8 : decode cX6_calls 8 = .ok (.aload_n 0, 1) := by decide +kernel
theorem dX6_calls_9 : decode cX6_calls 9 = .ok (.iconst (-1), 1) := by decide +kernel
theorem dX6_calls_10 : decode cX6_calls 10 = .ok (.invokevirtual 39, 3) := by decide +kernel
theorem dX6_calls_13 : decode cX6_calls 13 = .ok (.ireturn, 1) := by decide +kernel
theorem dX6_calls_14 : decode cX6_calls 14 = .ok (.aload_n 0, 1) := by decide +kernel
theorem dX6_calls_15 : decode cX6_calls 15 = .ok (.getfield 9, 3) := by decide +kernel
theorem dX6_calls_18 : decode cX6_calls 18 = .ok (.iload_n 1, 1) := by decide +kernel
theorem dX6_calls_19 : decode cX6_calls 19 = .ok (.iconst 4, 1) := by decide +kernel
theorem dX6_calls_20 : decode cX6_calls 20 = .ok (.invokestatic 47, 3) := by decide +kernel
theorem dX6_calls_23 : decode cX6_calls 23 = .ok (.dup2, 1) := by decide +kernel
theorem dX6_calls_24 : decode cX6_calls 24 = .ok (.iaload, 1) := by decide +kernel
theorem dX6_calls_25 : decode cX6_calls 25 = .ok (.iconst 1, 1) := by decide +kernel
theorem dX6_calls_26 : decode cX6_calls 26 = .ok (.ixor, 1) := by decide +kernel
theorem dX6_calls_27 : decode cX6_calls 27 = .ok (.iastore, 1) := by decide +kernel
theorem dX6_calls_28 : decode cX6_calls 28 = .ok (.aload_n 0, 1) := by decide +kernel
theorem dX6_calls_29 : decode cX6_calls 29 = .ok (.getfield 9, 3) := by decide +kernel
theorem dX6_calls_32 : decode cX6_calls 32 = .ok (.iload_n 1, 1) := by decide +kernel
theorem dX6_calls_33 : decode cX6_calls 33 = .ok (.iconst 4, 1) := by decide +kernel
theorem dX6_calls_34 : decode cX6_calls 34 = .ok (.invokestatic 47, 3) := by decide +kernel
theorem dX6_calls_37 : decode cX6_calls 37 = .ok (.iaload, 1) := by decide +kernel
theorem dX6_calls_38 : decode cX6_calls 38 = .ok (.ireturn, 1) := by decide +kernel
theorem dX6_fog_0 : decode cX6_fog 0 = .ok (.iload_n 1, 1) := by decide +kernel
theorem dX6_fog_1 : decode cX6_fog 1 = .ok (.iconst 0, 1) := by decide +kernel
theorem dX6_fog_2 : decode cX6_fog 2 = .ok (.bipush 9, 2) := by decide +kernel
theorem dX6_fog_4 : decode cX6_fog 4 = .ok (.invokestatic 141, 3) := by decide +kernel
theorem dX6_fog_7 : decode cX6_fog 7 = .ok (.istore_n 2, 1) := by decide +kernel
theorem dX6_fog_8 : decode cX6_fog 8 = .ok (.iload_n 2, 1) := by decide +kernel
theorem dX6_fog_9 : decode cX6_fog 9 = .ok (.ifCond .eq 9, 3) := by decide +kernel
theorem dX6_fog_12 : decode cX6_fog 12 = .ok (.aload_n 0, 1) := by decide +kernel
theorem dX6_fog_13 : decode cX6_fog 13 = .ok (.iload_n 2, 1) := by decide +kernel
theorem dX6_fog_14 : decode cX6_fog 14 = .ok (.invokevirtual 39, 3) := by decide +kernel
theorem dX6_fog_17 : decode cX6_fog 17 = .ok (.ireturn, 1) := by decide +kernel
theorem dX6_fog_18 : decode cX6_fog 18 = .ok (.aload_n 0, 1) := by decide +kernel
theorem dX6_fog_19 : decode cX6_fog 19 = .ok (.getfield 9, 3) := by decide +kernel
theorem dX6_fog_22 : decode cX6_fog 22 = .ok (.iconst 2, 1) := by decide +kernel
theorem dX6_fog_23 : decode cX6_fog 23 = .ok (.iaload, 1) := by decide +kernel
theorem dX6_fog_24 : decode cX6_fog 24 = .ok (.istore_n 3, 1) := by decide +kernel
theorem dX6_fog_25 : decode cX6_fog 25 = .ok (.aload_n 0, 1) := by decide +kernel
theorem dX6_fog_26 : decode cX6_fog 26 = .ok (.getfield 9, 3) := by decide +kernel
theorem dX6_fog_29 : decode cX6_fog 29 = .ok (.iconst 2, 1) := by decide +kernel
theorem dX6_fog_30 : decode cX6_fog 30 = .ok (.iload_n 1, 1) := by decide +kernel
theorem dX6_fog_31 : decode cX6_fog 31 = .ok (.iastore, 1) := by decide +kernel
theorem dX6_fog_32 : decode cX6_fog 32 = .ok (.iload_n 3, 1) := by decide +kernel
theorem dX6_fog_33 : decode cX6_fog 33 = .ok (.ireturn, 1) := by decide +kernel
theorem dX6_turn_0 : decode cX6_turn 0 = .ok (.aload_n 0, 1) := by decide +kernel
theorem dX6_turn_1 : decode cX6_turn 1 = .ok (.iload_n 1, 1) := by decide +kernel
theorem dX6_turn_2 : decode cX6_turn 2 = .ok (.invokevirtual 122, 3) := by decide +kernel
theorem dX6_turn_5 : decode cX6_turn 5 = .ok (.ifCond .ne 7, 3) := by decide +kernel
theorem dX6_turn_8 : decode cX6_turn 8 = .ok (.iconst (-1), 1) := by decide +kernel
theorem dX6_turn_9 : decode cX6_turn 9 = .ok (.goto 24, 3) := by decide +kernel
theorem dX6_turn_12 : decode cX6_turn 12 = .ok (.iload_n 2, 1) := by decide +kernel
theorem dX6_turn_13 : decode cX6_turn 13 = .ok (.iconst 0, 1) := by decide +kernel
theorem dX6_turn_14 : decode cX6_turn 14 = .ok (.iconst 5, 1) := by decide +kernel
theorem dX6_turn_15 : decode cX6_turn 15 = .ok (.invokestatic 43, 3) := by decide +kernel
theorem dX6_turn_18 : decode cX6_turn 18 = .ok (.ifCond .ne 8, 3) := by decide +kernel
theorem dX6_turn_21 : decode cX6_turn 21 = .ok (.bipush (-2), 2) := by decide +kernel
theorem dX6_turn_23 : decode cX6_turn 23 = .ok (.goto 10, 3) := by decide +kernel
theorem dX6_turn_26 : decode cX6_turn 26 = .ok (.iload_n 3, 1) := by decide +kernel
theorem dX6_turn_27 : decode cX6_turn 27 = .ok (.iconst 0, 1) := by decide +kernel
theorem dX6_turn_28 : decode cX6_turn 28 = .ok (.bipush 9, 2) := by decide +kernel
theorem dX6_turn_30 : decode cX6_turn 30 = .ok (.invokestatic 141, 3) := by decide +kernel
theorem dX6_turn_33 : decode cX6_turn 33 = .ok (.istore 4, 2) := by decide +kernel
theorem dX6_turn_35 : decode cX6_turn 35 = .ok (.iload 4, 2) := by decide +kernel
theorem dX6_turn_37 : decode cX6_turn 37 = .ok (.ifCond .eq 10, 3) := by decide +kernel
theorem dX6_turn_40 : decode cX6_turn 40 = .ok (.aload_n 0, 1) := by decide +kernel
theorem dX6_turn_41 : decode cX6_turn 41 = .ok (.iload 4, 2) := by decide +kernel
theorem dX6_turn_43 : decode cX6_turn 43 = .ok (.invokevirtual 39, 3) := by decide +kernel
theorem dX6_turn_46 : decode cX6_turn 46 = .ok (.ireturn, 1) := by decide +kernel
theorem dX6_turn_47 : decode cX6_turn 47 = .ok (.bipush 10, 2) := by decide +kernel
theorem dX6_turn_49 : decode cX6_turn 49 = .ok (.aload_n 0, 1) := by decide +kernel
theorem dX6_turn_50 : decode cX6_turn 50 = .ok (.getfield 9, 3) := by decide +kernel
theorem dX6_turn_53 : decode cX6_turn 53 = .ok (.iload_n 1, 1) := by decide +kernel
theorem dX6_turn_54 : decode cX6_turn 54 = .ok (.iconst 0, 1) := by decide +kernel
theorem dX6_turn_55 : decode cX6_turn 55 = .ok (.invokestatic 47, 3) := by decide +kernel
theorem dX6_turn_58 : decode cX6_turn 58 = .ok (.iaload, 1) := by decide +kernel
theorem dX6_turn_59 : decode cX6_turn 59 = .ok (.imul, 1) := by decide +kernel
theorem dX6_turn_60 : decode cX6_turn 60 = .ok (.aload_n 0, 1) := by decide +kernel
theorem dX6_turn_61 : decode cX6_turn 61 = .ok (.getfield 9, 3) := by decide +kernel
theorem dX6_turn_64 : decode cX6_turn 64 = .ok (.iload_n 1, 1) := by decide +kernel
theorem dX6_turn_65 : decode cX6_turn 65 = .ok (.iconst 1, 1) := by decide +kernel
theorem dX6_turn_66 : decode cX6_turn 66 = .ok (.invokestatic 47, 3) := by decide +kernel
theorem dX6_turn_69 : decode cX6_turn 69 = .ok (.iaload, 1) := by decide +kernel
theorem dX6_turn_70 : decode cX6_turn 70 = .ok (.iadd, 1) := by decide +kernel
theorem dX6_turn_71 : decode cX6_turn 71 = .ok (.istore 5, 2) := by decide +kernel
theorem dX6_turn_73 : decode cX6_turn 73 = .ok (.aload_n 0, 1) := by decide +kernel
theorem dX6_turn_74 : decode cX6_turn 74 = .ok (.getfield 9, 3) := by decide +kernel
theorem dX6_turn_77 : decode cX6_turn 77 = .ok (.iload_n 1, 1) := by decide +kernel
theorem dX6_turn_78 : decode cX6_turn 78 = .ok (.iconst 0, 1) := by decide +kernel
theorem dX6_turn_79 : decode cX6_turn 79 = .ok (.invokestatic 47, 3) := by decide +kernel
theorem dX6_turn_82 : decode cX6_turn 82 = .ok (.iload_n 2, 1) := by decide +kernel
theorem dX6_turn_83 : decode cX6_turn 83 = .ok (.iastore, 1) := by decide +kernel
theorem dX6_turn_84 : decode cX6_turn 84 = .ok (.aload_n 0, 1) := by decide +kernel
theorem dX6_turn_85 : decode cX6_turn 85 = .ok (.getfield 9, 3) := by decide +kernel
theorem dX6_turn_88 : decode cX6_turn 88 = .ok (.iload_n 1, 1) := by decide +kernel
theorem dX6_turn_89 : decode cX6_turn 89 = .ok (.iconst 1, 1) := by decide +kernel
theorem dX6_turn_90 : decode cX6_turn 90 = .ok (.invokestatic 47, 3) := by decide +kernel
theorem dX6_turn_93 : decode cX6_turn 93 = .ok (.iload_n 3, 1) := by decide +kernel
theorem dX6_turn_94 : decode cX6_turn 94 = .ok (.iastore, 1) := by decide +kernel
theorem dX6_turn_95 : decode cX6_turn 95 = .ok (.iload 5, 2) := by decide +kernel
theorem dX6_turn_97 : decode cX6_turn 97 = .ok (.ireturn, 1) := by decide +kernel
theorem dX6_nights_0 : decode cX6_nights 0 = .ok (.iload_n 1, 1) := by decide +kernel
theorem dX6_nights_1 : decode cX6_nights 1 = .ok (.iconst 1, 1) := by decide +kernel
theorem dX6_nights_2 : decode cX6_nights 2 = .ok (.if_icmp .ge 10, 3) := by decide +kernel
theorem dX6_nights_5 : decode cX6_nights 5 = .ok (.aload_n 0, 1) := by decide +kernel
theorem dX6_nights_6 : decode cX6_nights 6 = .ok (.bipush (-4), 2) := by decide +kernel
theorem dX6_nights_8 : decode cX6_nights 8 = .ok (.invokevirtual 39, 3) := by decide +kernel
theorem dX6_nights_11 : decode cX6_nights 11 = .ok (.ireturn, 1) := by decide +kernel
theorem dX6_nights_12 : decode cX6_nights 12 = .ok (.iload_n 1, 1) := by decide +kernel
theorem dX6_nights_13 : decode cX6_nights 13 = .ok (.bipush 60, 2) := by decide +kernel
theorem dX6_nights_15 : decode cX6_nights 15 = .ok (.if_icmp .gt 17, 3) := by decide +kernel
theorem dX6_nights_18 : decode cX6_nights 18 = .ok (.aload_n 0, 1) := by decide +kernel
theorem dX6_nights_19 : decode cX6_nights 19 = .ok (.getfield 9, 3) := by decide +kernel
theorem dX6_nights_22 : decode cX6_nights 22 = .ok (.iconst 1, 1) := by decide +kernel
theorem dX6_nights_23 : decode cX6_nights 23 = .ok (.iaload, 1) := by decide +kernel
theorem dX6_nights_24 : decode cX6_nights 24 = .ok (.iload_n 1, 1) := by decide +kernel
theorem dX6_nights_25 : decode cX6_nights 25 = .ok (.iadd, 1) := by decide +kernel
theorem dX6_nights_26 : decode cX6_nights 26 = .ok (.sipush 999, 3) := by decide +kernel
theorem dX6_nights_29 : decode cX6_nights 29 = .ok (.if_icmp .le 10, 3) := by decide +kernel
theorem dX6_nights_32 : decode cX6_nights 32 = .ok (.aload_n 0, 1) := by decide +kernel
theorem dX6_nights_33 : decode cX6_nights 33 = .ok (.bipush (-6), 2) := by decide +kernel
theorem dX6_nights_35 : decode cX6_nights 35 = .ok (.invokevirtual 39, 3) := by decide +kernel
theorem dX6_nights_38 : decode cX6_nights 38 = .ok (.ireturn, 1) := by decide +kernel
theorem dX6_nights_39 : decode cX6_nights 39 = .ok (.aload_n 0, 1) := by decide +kernel
theorem dX6_nights_40 : decode cX6_nights 40 = .ok (.getfield 9, 3) := by decide +kernel
theorem dX6_nights_43 : decode cX6_nights 43 = .ok (.iload_n 1, 1) := by decide +kernel
theorem dX6_nights_44 : decode cX6_nights 44 = .ok (.invokestatic 128, 3) := by decide +kernel
theorem dX6_nights_47 : decode cX6_nights 47 = .ok (.istore_n 2, 1) := by decide +kernel
theorem dX6_nights_48 : decode cX6_nights 48 = .ok (.aload_n 0, 1) := by decide +kernel
theorem dX6_nights_49 : decode cX6_nights 49 = .ok (.getfield 9, 3) := by decide +kernel
theorem dX6_nights_52 : decode cX6_nights 52 = .ok (.invokestatic 145, 3) := by decide +kernel
theorem dX6_nights_55 : decode cX6_nights 55 = .ok (.invokestatic 148, 3) := by decide +kernel
theorem dX6_nights_58 : decode cX6_nights 58 = .ok (.ireturn, 1) := by decide +kernel
theorem dX6_takes_0 : decode cX6_takes 0 = .ok (.aload_n 0, 1) := by decide +kernel
theorem dX6_takes_1 : decode cX6_takes 1 = .ok (.getfield 9, 3) := by decide +kernel
theorem dX6_takes_4 : decode cX6_takes 4 = .ok (.aload_n 0, 1) := by decide +kernel
theorem dX6_takes_5 : decode cX6_takes 5 = .ok (.getfield 13, 3) := by decide +kernel
theorem dX6_takes_8 : decode cX6_takes 8 = .ok (.invokestatic 134, 3) := by decide +kernel
theorem dX6_takes_11 : decode cX6_takes 11 = .ok (.aload_n 0, 1) := by decide +kernel
theorem dX6_takes_12 : decode cX6_takes 12 = .ok (.getfield 13, 3) := by decide +kernel
theorem dX6_takes_15 : decode cX6_takes 15 = .ok (.iload_n 1, 1) := by decide +kernel
theorem dX6_takes_16 : decode cX6_takes 16 = .ok (.invokestatic 128, 3) := by decide +kernel
theorem dX6_takes_19 : decode cX6_takes 19 = .ok (.ireturn, 1) := by decide +kernel
theorem dX6_litThen_0 : decode cX6_litThen 0 = .ok (.iload_n 1, 1) := by decide +kernel
theorem dX6_litThen_1 : decode cX6_litThen 1 = .ok (.iconst 0, 1) := by decide +kernel
theorem dX6_litThen_2 : decode cX6_litThen 2 = .ok (.bipush 60, 2) := by decide +kernel
theorem dX6_litThen_4 : decode cX6_litThen 4 = .ok (.invokestatic 141, 3) := by decide +kernel
theorem dX6_litThen_7 : decode cX6_litThen 7 = .ok (.istore_n 2, 1) := by decide +kernel
theorem dX6_litThen_8 : decode cX6_litThen 8 = .ok (.iload_n 2, 1) := by decide +kernel
theorem dX6_litThen_9 : decode cX6_litThen 9 = .ok (.ifCond .eq 9, 3) := by decide +kernel
theorem dX6_litThen_12 : decode cX6_litThen 12 = .ok (.aload_n 0, 1) := by decide +kernel
theorem dX6_litThen_13 : decode cX6_litThen 13 = .ok (.iload_n 2, 1) := by decide +kernel
theorem dX6_litThen_14 : decode cX6_litThen 14 = .ok (.invokevirtual 39, 3) := by decide +kernel
theorem dX6_litThen_17 : decode cX6_litThen 17 = .ok (.ireturn, 1) := by decide +kernel
theorem dX6_litThen_18 : decode cX6_litThen 18 = .ok (.aload_n 0, 1) := by decide +kernel
theorem dX6_litThen_19 : decode cX6_litThen 19 = .ok (.iload_n 1, 1) := by decide +kernel
theorem dX6_litThen_20 : decode cX6_litThen 20 = .ok (.invokevirtual 151, 3) := by decide +kernel
theorem dX6_litThen_23 : decode cX6_litThen 23 = .ok (.istore_n 3, 1) := by decide +kernel
theorem dX6_litThen_24 : decode cX6_litThen 24 = .ok (.aload_n 0, 1) := by decide +kernel
theorem dX6_litThen_25 : decode cX6_litThen 25 = .ok (.getfield 13, 3) := by decide +kernel
theorem dX6_litThen_28 : decode cX6_litThen 28 = .ok (.invokestatic 83, 3) := by decide +kernel
theorem dX6_litThen_31 : decode cX6_litThen 31 = .ok (.ireturn, 1) := by decide +kernel
theorem dX6_hangThen_0 : decode cX6_hangThen 0 = .ok (.iload_n 1, 1) := by decide +kernel
theorem dX6_hangThen_1 : decode cX6_hangThen 1 = .ok (.iconst 0, 1) := by decide +kernel
theorem dX6_hangThen_2 : decode cX6_hangThen 2 = .ok (.bipush 60, 2) := by decide +kernel
theorem dX6_hangThen_4 : decode cX6_hangThen 4 = .ok (.invokestatic 141, 3) := by decide +kernel
theorem dX6_hangThen_7 : decode cX6_hangThen 7 = .ok (.istore_n 2, 1) := by decide +kernel
theorem dX6_hangThen_8 : decode cX6_hangThen 8 = .ok (.iload_n 2, 1) := by decide +kernel
theorem dX6_hangThen_9 : decode cX6_hangThen 9 = .ok (.ifCond .eq 9, 3) := by decide +kernel
theorem dX6_hangThen_12 : decode cX6_hangThen 12 = .ok (.aload_n 0, 1) := by decide +kernel
theorem dX6_hangThen_13 : decode cX6_hangThen 13 = .ok (.iload_n 2, 1) := by decide +kernel
theorem dX6_hangThen_14 : decode cX6_hangThen 14 = .ok (.invokevirtual 39, 3) := by decide +kernel
theorem dX6_hangThen_17 : decode cX6_hangThen 17 = .ok (.ireturn, 1) := by decide +kernel
theorem dX6_hangThen_18 : decode cX6_hangThen 18 = .ok (.aload_n 0, 1) := by decide +kernel
theorem dX6_hangThen_19 : decode cX6_hangThen 19 = .ok (.iload_n 1, 1) := by decide +kernel
theorem dX6_hangThen_20 : decode cX6_hangThen 20 = .ok (.invokevirtual 151, 3) := by decide +kernel
theorem dX6_hangThen_23 : decode cX6_hangThen 23 = .ok (.istore_n 3, 1) := by decide +kernel
theorem dX6_hangThen_24 : decode cX6_hangThen 24 = .ok (.aload_n 0, 1) := by decide +kernel
theorem dX6_hangThen_25 : decode cX6_hangThen 25 = .ok (.getfield 13, 3) := by decide +kernel
theorem dX6_hangThen_28 : decode cX6_hangThen 28 = .ok (.invokestatic 145, 3) := by decide +kernel
theorem dX6_hangThen_31 : decode cX6_hangThen 31 = .ok (.ireturn, 1) := by decide +kernel
theorem dX6_wicksThen_0 : decode cX6_wicksThen 0 = .ok (.aload_n 0, 1) := by decide +kernel
theorem dX6_wicksThen_1 : decode cX6_wicksThen 1 = .ok (.iload_n 1, 1) := by decide +kernel
theorem dX6_wicksThen_2 : decode cX6_wicksThen 2 = .ok (.invokevirtual 122, 3) := by decide +kernel
theorem dX6_wicksThen_5 : decode cX6_wicksThen 5 = .ok (.ifCond .eq 13, 3) := by decide +kernel
theorem dX6_wicksThen_8 : decode cX6_wicksThen 8 = .ok (.iload_n 2, 1) := by decide +kernel
theorem dX6_wicksThen_9 : decode cX6_wicksThen 9 = .ok (.iconst 0, 1) := by decide +kernel
theorem dX6_wicksThen_10 : decode cX6_wicksThen 10 = .ok (.bipush 60, 2) := by decide +kernel
theorem dX6_wicksThen_12 : decode cX6_wicksThen 12 = .ok (.invokestatic 141, 3) := by decide +kernel
theorem dX6_wicksThen_15 : decode cX6_wicksThen 15 = .ok (.goto 4, 3) := by decide +kernel
theorem dX6_wicksThen_18 : decode cX6_wicksThen 18 = .ok (.iconst (-1), 1) := by decide +kernel
theorem dX6_wicksThen_19 : decode cX6_wicksThen 19 = .ok (.istore_n 3, 1) := by decide +kernel
theorem dX6_wicksThen_20 : decode cX6_wicksThen 20 = .ok (.iload_n 3, 1) := by decide +kernel
theorem dX6_wicksThen_21 : decode cX6_wicksThen 21 = .ok (.ifCond .eq 9, 3) := by decide +kernel
theorem dX6_wicksThen_24 : decode cX6_wicksThen 24 = .ok (.aload_n 0, 1) := by decide +kernel
theorem dX6_wicksThen_25 : decode cX6_wicksThen 25 = .ok (.iload_n 3, 1) := by decide +kernel
theorem dX6_wicksThen_26 : decode cX6_wicksThen 26 = .ok (.invokevirtual 39, 3) := by decide +kernel
theorem dX6_wicksThen_29 : decode cX6_wicksThen 29 = .ok (.ireturn, 1) := by decide +kernel
theorem dX6_wicksThen_30 : decode cX6_wicksThen 30 = .ok (.aload_n 0, 1) := by decide +kernel
theorem dX6_wicksThen_31 : decode cX6_wicksThen 31 = .ok (.iload_n 2, 1) := by decide +kernel
theorem dX6_wicksThen_32 : decode cX6_wicksThen 32 = .ok (.invokevirtual 151, 3) := by decide +kernel
theorem dX6_wicksThen_35 : decode cX6_wicksThen 35 = .ok (.istore 4, 2) := by decide +kernel
theorem dX6_wicksThen_37 : decode cX6_wicksThen 37 = .ok (.aload_n 0, 1) := by decide +kernel
theorem dX6_wicksThen_38 : decode cX6_wicksThen 38 = .ok (.getfield 13, 3) := by decide +kernel
theorem dX6_wicksThen_41 : decode cX6_wicksThen 41 = .ok (.iload_n 1, 1) := by decide +kernel
theorem dX6_wicksThen_42 : decode cX6_wicksThen 42 = .ok (.iconst 3, 1) := by decide +kernel
theorem dX6_wicksThen_43 : decode cX6_wicksThen 43 = .ok (.invokestatic 47, 3) := by decide +kernel
theorem dX6_wicksThen_46 : decode cX6_wicksThen 46 = .ok (.iaload, 1) := by decide +kernel
theorem dX6_wicksThen_47 : decode cX6_wicksThen 47 = .ok (.ireturn, 1) := by decide +kernel
theorem dX6_darkOf_0 : decode cX6_darkOf 0 = .ok (.aload_n 0, 1) := by decide +kernel
theorem dX6_darkOf_1 : decode cX6_darkOf 1 = .ok (.getfield 9, 3) := by decide +kernel
theorem dX6_darkOf_4 : decode cX6_darkOf 4 = .ok (.aload_n 0, 1) := by decide +kernel
theorem dX6_darkOf_5 : decode cX6_darkOf 5 = .ok (.getfield 13, 3) := by decide +kernel
theorem dX6_darkOf_8 : decode cX6_darkOf 8 = .ok (.invokestatic 134, 3) := by decide +kernel
theorem dX6_darkOf_11 : decode cX6_darkOf 11 = .ok (.iconst 0, 1) := by decide +kernel
theorem dX6_darkOf_12 : decode cX6_darkOf 12 = .ok (.istore_n 2, 1) := by decide +kernel
theorem dX6_darkOf_13 : decode cX6_darkOf 13 = .ok (.iload_n 2, 1) := by decide +kernel
theorem dX6_darkOf_14 : decode cX6_darkOf 14 = .ok (.bipush 60, 2) := by decide +kernel
theorem dX6_darkOf_16 : decode cX6_darkOf 16 = .ok (.if_icmp .gt 33, 3) := by decide +kernel
theorem dX6_darkOf_19 : decode cX6_darkOf 19 = .ok (.aload_n 0, 1) := by decide +kernel
theorem dX6_darkOf_20 : decode cX6_darkOf 20 = .ok (.getfield 13, 3) := by decide +kernel
theorem dX6_darkOf_23 : decode cX6_darkOf 23 = .ok (.invokestatic 145, 3) := by decide +kernel
theorem dX6_darkOf_26 : decode cX6_darkOf 26 = .ok (.iload_n 1, 1) := by decide +kernel
theorem dX6_darkOf_27 : decode cX6_darkOf 27 = .ok (.invokestatic 75, 3) := by decide +kernel
theorem dX6_darkOf_30 : decode cX6_darkOf 30 = .ok (.ifCond .ne 5, 3) := by decide +kernel
theorem dX6_darkOf_33 : decode cX6_darkOf 33 = .ok (.iload_n 2, 1) := by decide +kernel
theorem dX6_darkOf_34 : decode cX6_darkOf 34 = .ok (.ireturn, 1) := by decide +kernel
theorem dX6_darkOf_35 : decode cX6_darkOf 35 = .ok (.aload_n 0, 1) := by decide +kernel
theorem dX6_darkOf_36 : decode cX6_darkOf 36 = .ok (.getfield 13, 3) := by decide +kernel
theorem dX6_darkOf_39 : decode cX6_darkOf 39 = .ok (.invokestatic 90, 3) := by decide +kernel
theorem dX6_darkOf_42 : decode cX6_darkOf 42 = .ok (.istore_n 3, 1) := by decide +kernel
theorem dX6_darkOf_43 : decode cX6_darkOf 43 = .ok (.iinc 2 1, 3) := by decide +kernel
theorem dX6_darkOf_46 : decode cX6_darkOf 46 = .ok (.goto (-33), 3) := by decide +kernel
theorem dX6_darkOf_49 : decode cX6_darkOf 49 = .ok (.bipush (-9), 2) := by decide +kernel
theorem dX6_darkOf_51 : decode cX6_darkOf 51 = .ok (.ireturn, 1) := by decide +kernel
theorem dX6_dark_0 : decode cX6_dark 0 = .ok (.aload_n 0, 1) := by decide +kernel
theorem dX6_dark_1 : decode cX6_dark 1 = .ok (.iload_n 1, 1) := by decide +kernel
theorem dX6_dark_2 : decode cX6_dark 2 = .ok (.invokevirtual 122, 3) := by decide +kernel
theorem dX6_dark_5 : decode cX6_dark 5 = .ok (.ifCond .eq 11, 3) := by decide +kernel
theorem dX6_dark_8 : decode cX6_dark 8 = .ok (.aload_n 0, 1) := by decide +kernel
theorem dX6_dark_9 : decode cX6_dark 9 = .ok (.iload_n 1, 1) := by decide +kernel
theorem dX6_dark_10 : decode cX6_dark 10 = .ok (.invokevirtual 154, 3) := by decide +kernel
theorem dX6_dark_13 : decode cX6_dark 13 = .ok (.goto 8, 3) := by decide +kernel
theorem dX6_dark_16 : decode cX6_dark 16 = .ok (.aload_n 0, 1) := by decide +kernel
theorem dX6_dark_17 : decode cX6_dark 17 = .ok (.iconst (-1), 1) := by decide +kernel
theorem dX6_dark_18 : decode cX6_dark 18 = .ok (.invokevirtual 39, 3) := by decide +kernel
theorem dX6_dark_21 : decode cX6_dark 21 = .ok (.ireturn, 1) := by decide +kernel
theorem dX6_firstDark_0 : decode cX6_firstDark 0 = .ok (.aload_n 0, 1) := by decide +kernel
theorem dX6_firstDark_1 : decode cX6_firstDark 1 = .ok (.getfield 9, 3) := by decide +kernel
theorem dX6_firstDark_4 : decode cX6_firstDark 4 = .ok (.invokestatic 145, 3) := by decide +kernel
theorem dX6_firstDark_7 : decode cX6_firstDark 7 = .ok (.istore_n 1, 1) := by decide +kernel
theorem dX6_firstDark_8 : decode cX6_firstDark 8 = .ok (.bipush (-9), 2) := by decide +kernel
theorem dX6_firstDark_10 : decode cX6_firstDark 10 = .ok (.istore_n 2, 1) := by decide +kernel
theorem dX6_firstDark_11 : decode cX6_firstDark 11 = .ok (.ldc 157, 2) := by decide +kernel
theorem dX6_firstDark_13 : decode cX6_firstDark 13 = .ok (.istore_n 3, 1) := by decide +kernel
theorem dX6_firstDark_14 : decode cX6_firstDark 14 = .ok (.iconst 0, 1) := by decide +kernel
theorem dX6_firstDark_15 : decode cX6_firstDark 15 = .ok (.istore 4, 2) := by decide +kernel
theorem dX6_firstDark_17 : decode cX6_firstDark 17 = .ok (.iload 4, 2) := by decide +kernel
theorem dX6_firstDark_19 : decode cX6_firstDark 19 = .ok (.aload_n 0, 1) := by decide +kernel
theorem dX6_firstDark_20 : decode cX6_firstDark 20 = .ok (.getfield 9, 3) := by decide +kernel
theorem dX6_firstDark_23 : decode cX6_firstDark 23 = .ok (.iconst 0, 1) := by decide +kernel
theorem dX6_firstDark_24 : decode cX6_firstDark 24 = .ok (.iaload, 1) := by decide +kernel
theorem dX6_firstDark_25 : decode cX6_firstDark 25 = .ok (.if_icmp .ge 51, 3) := by decide +kernel
theorem dX6_firstDark_28 : decode cX6_firstDark 28 = .ok (.iload_n 1, 1) := by decide +kernel
theorem dX6_firstDark_29 : decode cX6_firstDark 29 = .ok (.iload 4, 2) := by decide +kernel
theorem dX6_firstDark_31 : decode cX6_firstDark 31 = .ok (.invokestatic 75, 3) := by decide +kernel
theorem dX6_firstDark_34 : decode cX6_firstDark 34 = .ok (.ifCond .eq 12, 3) := by decide +kernel
theorem dX6_firstDark_37 : decode cX6_firstDark 37 = .ok (.aload_n 0, 1) := by decide +kernel
theorem dX6_firstDark_38 : decode cX6_firstDark 38 = .ok (.iload 4, 2) := by decide +kernel
theorem dX6_firstDark_40 : decode cX6_firstDark 40 = .ok (.invokevirtual 154, 3) := by decide +kernel
theorem dX6_firstDark_43 : decode cX6_firstDark 43 = .ok (.goto 5, 3) := by decide +kernel
theorem dX6_firstDark_46 : decode cX6_firstDark 46 = .ok (.bipush (-9), 2) := by decide +kernel
theorem dX6_firstDark_48 : decode cX6_firstDark 48 = .ok (.istore 5, 2) := by decide +kernel
theorem dX6_firstDark_50 : decode cX6_firstDark 50 = .ok (.iload 5, 2) := by decide +kernel
theorem dX6_firstDark_52 : decode cX6_firstDark 52 = .ok (.ifCond .lt 18, 3) := by decide +kernel
theorem dX6_firstDark_55 : decode cX6_firstDark 55 = .ok (.iload 5, 2) := by decide +kernel
theorem dX6_firstDark_57 : decode cX6_firstDark 57 = .ok (.iload_n 3, 1) := by decide +kernel
theorem dX6_firstDark_58 : decode cX6_firstDark 58 = .ok (.if_icmp .lt 6, 3) := by decide +kernel
theorem dX6_firstDark_61 : decode cX6_firstDark 61 = .ok (.goto 9, 3) := by decide +kernel
theorem dX6_firstDark_64 : decode cX6_firstDark 64 = .ok (.iload 4, 2) := by decide +kernel
theorem dX6_firstDark_66 : decode cX6_firstDark 66 = .ok (.istore_n 2, 1) := by decide +kernel
theorem dX6_firstDark_67 : decode cX6_firstDark 67 = .ok (.iload 5, 2) := by decide +kernel
theorem dX6_firstDark_69 : decode cX6_firstDark 69 = .ok (.istore_n 3, 1) := by decide +kernel
theorem dX6_firstDark_70 : decode cX6_firstDark 70 = .ok (.iinc 4 1, 3) := by decide +kernel
theorem dX6_firstDark_73 : decode cX6_firstDark 73 = .ok (.goto (-56), 3) := by decide +kernel
theorem dX6_firstDark_76 : decode cX6_firstDark 76 = .ok (.iload_n 2, 1) := by decide +kernel
theorem dX6_firstDark_77 : decode cX6_firstDark 77 = .ok (.ireturn, 1) := by decide +kernel
theorem dX6_whole_0 : decode cX6_whole 0 = .ok (.aload_n 0, 1) := by decide +kernel
theorem dX6_whole_1 : decode cX6_whole 1 = .ok (.getfield 9, 3) := by decide +kernel
theorem dX6_whole_4 : decode cX6_whole 4 = .ok (.aload_n 0, 1) := by decide +kernel
theorem dX6_whole_5 : decode cX6_whole 5 = .ok (.getfield 13, 3) := by decide +kernel
theorem dX6_whole_8 : decode cX6_whole 8 = .ok (.invokestatic 134, 3) := by decide +kernel
theorem dX6_whole_11 : decode cX6_whole 11 = .ok (.iconst 0, 1) := by decide +kernel
theorem dX6_whole_12 : decode cX6_whole 12 = .ok (.istore_n 1, 1) := by decide +kernel
theorem dX6_whole_13 : decode cX6_whole 13 = .ok (.iload_n 1, 1) := by decide +kernel
theorem dX6_whole_14 : decode cX6_whole 14 = .ok (.bipush 60, 2) := by decide +kernel
theorem dX6_whole_16 : decode cX6_whole 16 = .ok (.if_icmp .gt 38, 3) := by decide +kernel
theorem dX6_whole_19 : decode cX6_whole 19 = .ok (.aload_n 0, 1) := by decide +kernel
theorem dX6_whole_20 : decode cX6_whole 20 = .ok (.getfield 13, 3) := by decide +kernel
theorem dX6_whole_23 : decode cX6_whole 23 = .ok (.invokestatic 145, 3) := by decide +kernel
theorem dX6_whole_26 : decode cX6_whole 26 = .ok (.invokestatic 148, 3) := by decide +kernel
theorem dX6_whole_29 : decode cX6_whole 29 = .ok (.aload_n 0, 1) := by decide +kernel
theorem dX6_whole_30 : decode cX6_whole 30 = .ok (.getfield 13, 3) := by decide +kernel
theorem dX6_whole_33 : decode cX6_whole 33 = .ok (.iconst 0, 1) := by decide +kernel
theorem dX6_whole_34 : decode cX6_whole 34 = .ok (.iaload, 1) := by decide +kernel
theorem dX6_whole_35 : decode cX6_whole 35 = .ok (.if_icmp .ne 5, 3) := by decide +kernel
theorem dX6_whole_38 : decode cX6_whole 38 = .ok (.iload_n 1, 1) := by decide +kernel
theorem dX6_whole_39 : decode cX6_whole 39 = .ok (.ireturn, 1) := by decide +kernel
theorem dX6_whole_40 : decode cX6_whole 40 = .ok (.aload_n 0, 1) := by decide +kernel
theorem dX6_whole_41 : decode cX6_whole 41 = .ok (.getfield 13, 3) := by decide +kernel
theorem dX6_whole_44 : decode cX6_whole 44 = .ok (.invokestatic 90, 3) := by decide +kernel
theorem dX6_whole_47 : decode cX6_whole 47 = .ok (.istore_n 2, 1) := by decide +kernel
theorem dX6_whole_48 : decode cX6_whole 48 = .ok (.iinc 1 1, 3) := by decide +kernel
theorem dX6_whole_51 : decode cX6_whole 51 = .ok (.goto (-38), 3) := by decide +kernel
theorem dX6_whole_54 : decode cX6_whole 54 = .ok (.bipush (-9), 2) := by decide +kernel
theorem dX6_whole_56 : decode cX6_whole 56 = .ok (.ireturn, 1) := by decide +kernel
theorem dX6_first_0 : decode cX6_first 0 = .ok (.iload_n 1, 1) := by decide +kernel
theorem dX6_first_1 : decode cX6_first 1 = .ok (.ifCond .ne 10, 3) := by decide +kernel
theorem dX6_first_4 : decode cX6_first 4 = .ok (.aload_n 0, 1) := by decide +kernel
theorem dX6_first_5 : decode cX6_first 5 = .ok (.invokevirtual 158, 3) := by decide +kernel
theorem dX6_first_8 : decode cX6_first 8 = .ok (.goto 21, 3) := by decide +kernel
theorem dX6_first_11 : decode cX6_first 11 = .ok (.iload_n 1, 1) := by decide +kernel
theorem dX6_first_12 : decode cX6_first 12 = .ok (.iconst 1, 1) := by decide +kernel
theorem dX6_first_13 : decode cX6_first 13 = .ok (.if_icmp .ne 10, 3) := by decide +kernel
theorem dX6_first_16 : decode cX6_first 16 = .ok (.aload_n 0, 1) := by decide +kernel
theorem dX6_first_17 : decode cX6_first 17 = .ok (.invokevirtual 161, 3) := by decide +kernel
theorem dX6_first_20 : decode cX6_first 20 = .ok (.goto 9, 3) := by decide +kernel
theorem dX6_first_23 : decode cX6_first 23 = .ok (.aload_n 0, 1) := by decide +kernel
theorem dX6_first_24 : decode cX6_first 24 = .ok (.bipush (-2), 2) := by decide +kernel
theorem dX6_first_26 : decode cX6_first 26 = .ok (.invokevirtual 39, 3) := by decide +kernel
theorem dX6_first_29 : decode cX6_first 29 = .ok (.ireturn, 1) := by decide +kernel
theorem dX6_sees_0 : decode cX6_sees 0 = .ok (.aload_n 0, 1) := by decide +kernel
theorem dX6_sees_1 : decode cX6_sees 1 = .ok (.iload_n 1, 1) := by decide +kernel
theorem dX6_sees_2 : decode cX6_sees 2 = .ok (.invokevirtual 122, 3) := by decide +kernel
theorem dX6_sees_5 : decode cX6_sees 5 = .ok (.ifCond .ne 9, 3) := by decide +kernel
theorem dX6_sees_8 : decode cX6_sees 8 = .ok (.aload_n 0, 1) := by decide +kernel
theorem dX6_sees_9 : decode cX6_sees 9 = .ok (.iconst (-1), 1) := by decide +kernel
theorem dX6_sees_10 : decode cX6_sees 10 = .ok (.invokevirtual 39, 3) := by decide +kernel
theorem dX6_sees_13 : decode cX6_sees 13 = .ok (.ireturn, 1) := by decide +kernel
theorem dX6_sees_14 : decode cX6_sees 14 = .ok (.aload_n 0, 1) := by decide +kernel
theorem dX6_sees_15 : decode cX6_sees 15 = .ok (.getfield 9, 3) := by decide +kernel
theorem dX6_sees_18 : decode cX6_sees 18 = .ok (.iload_n 1, 1) := by decide +kernel
theorem dX6_sees_19 : decode cX6_sees 19 = .ok (.bipush 99, 2) := by decide +kernel
theorem dX6_sees_21 : decode cX6_sees 21 = .ok (.invokestatic 79, 3) := by decide +kernel
theorem dX6_sees_24 : decode cX6_sees 24 = .ok (.ifCond .eq 9, 3) := by decide +kernel
theorem dX6_sees_27 : decode cX6_sees 27 = .ok (.sipush 128, 3) := by decide +kernel
theorem dX6_sees_30 : decode cX6_sees 30 = .ok (.goto 4, 3) := by decide +kernel
theorem dX6_sees_33 : decode cX6_sees 33 = .ok (.iconst 0, 1) := by decide +kernel
theorem dX6_sees_34 : decode cX6_sees 34 = .ok (.istore_n 2, 1) := by decide +kernel
theorem dX6_sees_35 : decode cX6_sees 35 = .ok (.iconst 0, 1) := by decide +kernel
theorem dX6_sees_36 : decode cX6_sees 36 = .ok (.istore_n 3, 1) := by decide +kernel
theorem dX6_sees_37 : decode cX6_sees 37 = .ok (.iload_n 3, 1) := by decide +kernel
theorem dX6_sees_38 : decode cX6_sees 38 = .ok (.aload_n 0, 1) := by decide +kernel
theorem dX6_sees_39 : decode cX6_sees 39 = .ok (.getfield 9, 3) := by decide +kernel
theorem dX6_sees_42 : decode cX6_sees 42 = .ok (.iconst 0, 1) := by decide +kernel
theorem dX6_sees_43 : decode cX6_sees 43 = .ok (.iaload, 1) := by decide +kernel
theorem dX6_sees_44 : decode cX6_sees 44 = .ok (.if_icmp .ge 36, 3) := by decide +kernel
theorem dX6_sees_47 : decode cX6_sees 47 = .ok (.iload_n 2, 1) := by decide +kernel
theorem dX6_sees_48 : decode cX6_sees 48 = .ok (.iload_n 3, 1) := by decide +kernel
theorem dX6_sees_49 : decode cX6_sees 49 = .ok (.iload_n 1, 1) := by decide +kernel
theorem dX6_sees_50 : decode cX6_sees 50 = .ok (.if_icmp .eq 21, 3) := by decide +kernel
theorem dX6_sees_53 : decode cX6_sees 53 = .ok (.aload_n 0, 1) := by decide +kernel
theorem dX6_sees_54 : decode cX6_sees 54 = .ok (.getfield 9, 3) := by decide +kernel
theorem dX6_sees_57 : decode cX6_sees 57 = .ok (.iload_n 1, 1) := by decide +kernel
theorem dX6_sees_58 : decode cX6_sees 58 = .ok (.iload_n 3, 1) := by decide +kernel
theorem dX6_sees_59 : decode cX6_sees 59 = .ok (.invokestatic 79, 3) := by decide +kernel
theorem dX6_sees_62 : decode cX6_sees 62 = .ok (.ifCond .eq 9, 3) := by decide +kernel
theorem dX6_sees_65 : decode cX6_sees 65 = .ok (.iconst 1, 1) := by decide +kernel
theorem dX6_sees_66 : decode cX6_sees 66 = .ok (.iload_n 3, 1) := by decide +kernel
theorem dX6_sees_67 : decode cX6_sees 67 = .ok (.ishl, 1) := by decide +kernel
theorem dX6_sees_68 : decode cX6_sees 68 = .ok (.goto 4, 3) := by decide +kernel
theorem dX6_sees_71 : decode cX6_sees 71 = .ok (.iconst 0, 1) := by decide +kernel
theorem dX6_sees_72 : decode cX6_sees 72 = .ok (.ior, 1) := by decide +kernel
theorem dX6_sees_73 : decode cX6_sees 73 = .ok (.istore_n 2, 1) := by decide +kernel
theorem dX6_sees_74 : decode cX6_sees 74 = .ok (.iinc 3 1, 3) := by decide +kernel
theorem dX6_sees_77 : decode cX6_sees 77 = .ok (.goto (-40), 3) := by decide +kernel
theorem dX6_sees_80 : decode cX6_sees 80 = .ok (.iload_n 2, 1) := by decide +kernel
theorem dX6_sees_81 : decode cX6_sees 81 = .ok (.ireturn, 1) := by decide +kernel
theorem dX6_hill_0 : decode cX6_hill 0 = .ok (.aload_n 0, 1) := by decide +kernel
theorem dX6_hill_1 : decode cX6_hill 1 = .ok (.iload_n 1, 1) := by decide +kernel
theorem dX6_hill_2 : decode cX6_hill 2 = .ok (.invokevirtual 122, 3) := by decide +kernel
theorem dX6_hill_5 : decode cX6_hill 5 = .ok (.ifCond .eq 16, 3) := by decide +kernel
theorem dX6_hill_8 : decode cX6_hill 8 = .ok (.aload_n 0, 1) := by decide +kernel
theorem dX6_hill_9 : decode cX6_hill 9 = .ok (.iload_n 2, 1) := by decide +kernel
theorem dX6_hill_10 : decode cX6_hill 10 = .ok (.invokevirtual 122, 3) := by decide +kernel
theorem dX6_hill_13 : decode cX6_hill 13 = .ok (.ifCond .eq 8, 3) := by decide +kernel
theorem dX6_hill_16 : decode cX6_hill 16 = .ok (.iload_n 1, 1) := by decide +kernel
theorem dX6_hill_17 : decode cX6_hill 17 = .ok (.iload_n 2, 1) := by decide +kernel
theorem dX6_hill_18 : decode cX6_hill 18 = .ok (.if_icmp .ne 9, 3) := by decide +kernel
theorem dX6_hill_21 : decode cX6_hill 21 = .ok (.aload_n 0, 1) := by decide +kernel
theorem dX6_hill_22 : decode cX6_hill 22 = .ok (.iconst (-1), 1) := by decide +kernel
theorem dX6_hill_23 : decode cX6_hill 23 = .ok (.invokevirtual 39, 3) := by decide +kernel
theorem dX6_hill_26 : decode cX6_hill 26 = .ok (.ireturn, 1) := by decide +kernel
theorem dX6_hill_27 : decode cX6_hill 27 = .ok (.aload_n 0, 1) := by decide +kernel
theorem dX6_hill_28 : decode cX6_hill 28 = .ok (.getfield 9, 3) := by decide +kernel
theorem dX6_hill_31 : decode cX6_hill 31 = .ok (.iload_n 1, 1) := by decide +kernel
theorem dX6_hill_32 : decode cX6_hill 32 = .ok (.invokestatic 60, 3) := by decide +kernel
theorem dX6_hill_35 : decode cX6_hill 35 = .ok (.aload_n 0, 1) := by decide +kernel
theorem dX6_hill_36 : decode cX6_hill 36 = .ok (.getfield 9, 3) := by decide +kernel
theorem dX6_hill_39 : decode cX6_hill 39 = .ok (.iload_n 2, 1) := by decide +kernel
theorem dX6_hill_40 : decode cX6_hill 40 = .ok (.invokestatic 60, 3) := by decide +kernel
theorem dX6_hill_43 : decode cX6_hill 43 = .ok (.if_icmp .gt 7, 3) := by decide +kernel
theorem dX6_hill_46 : decode cX6_hill 46 = .ok (.iload_n 1, 1) := by decide +kernel
theorem dX6_hill_47 : decode cX6_hill 47 = .ok (.goto 4, 3) := by decide +kernel
theorem dX6_hill_50 : decode cX6_hill 50 = .ok (.iload_n 2, 1) := by decide +kernel
theorem dX6_hill_51 : decode cX6_hill 51 = .ok (.istore_n 3, 1) := by decide +kernel
theorem dX6_hill_52 : decode cX6_hill 52 = .ok (.iload_n 3, 1) := by decide +kernel
theorem dX6_hill_53 : decode cX6_hill 53 = .ok (.iload_n 1, 1) := by decide +kernel
theorem dX6_hill_54 : decode cX6_hill 54 = .ok (.if_icmp .ne 7, 3) := by decide +kernel
theorem dX6_hill_57 : decode cX6_hill 57 = .ok (.iload_n 2, 1) := by decide +kernel
theorem dX6_hill_58 : decode cX6_hill 58 = .ok (.goto 4, 3) := by decide +kernel
theorem dX6_hill_61 : decode cX6_hill 61 = .ok (.iload_n 1, 1) := by decide +kernel
theorem dX6_hill_62 : decode cX6_hill 62 = .ok (.istore 4, 2) := by decide +kernel
theorem dX6_hill_64 : decode cX6_hill 64 = .ok (.aload_n 0, 1) := by decide +kernel
theorem dX6_hill_65 : decode cX6_hill 65 = .ok (.getfield 9, 3) := by decide +kernel
theorem dX6_hill_68 : decode cX6_hill 68 = .ok (.iload_n 3, 1) := by decide +kernel
theorem dX6_hill_69 : decode cX6_hill 69 = .ok (.invokestatic 60, 3) := by decide +kernel
theorem dX6_hill_72 : decode cX6_hill 72 = .ok (.istore 5, 2) := by decide +kernel
theorem dX6_hill_74 : decode cX6_hill 74 = .ok (.aload_n 0, 1) := by decide +kernel
theorem dX6_hill_75 : decode cX6_hill 75 = .ok (.getfield 9, 3) := by decide +kernel
theorem dX6_hill_78 : decode cX6_hill 78 = .ok (.iload 4, 2) := by decide +kernel
theorem dX6_hill_80 : decode cX6_hill 80 = .ok (.invokestatic 60, 3) := by decide +kernel
theorem dX6_hill_83 : decode cX6_hill 83 = .ok (.istore 6, 2) := by decide +kernel
theorem dX6_hill_85 : decode cX6_hill 85 = .ok (.bipush (-9), 2) := by decide +kernel
theorem dX6_hill_87 : decode cX6_hill 87 = .ok (.istore 7, 2) := by decide +kernel
theorem dX6_hill_89 : decode cX6_hill 89 = .ok (.iload 5, 2) := by decide +kernel
theorem dX6_hill_91 : decode cX6_hill 91 = .ok (.iconst 1, 1) := by decide +kernel
theorem dX6_hill_92 : decode cX6_hill 92 = .ok (.iadd, 1) := by decide +kernel
theorem dX6_hill_93 : decode cX6_hill 93 = .ok (.istore 8, 2) := by decide +kernel
theorem dX6_hill_95 : decode cX6_hill 95 = .ok (.iload 8, 2) := by decide +kernel
theorem dX6_hill_97 : decode cX6_hill 97 = .ok (.iload 6, 2) := by decide +kernel
theorem dX6_hill_99 : decode cX6_hill 99 = .ok (.if_icmp .ge 81, 3) := by decide +kernel
theorem dX6_hill_102 : decode cX6_hill 102 = .ok (.iload 7, 2) := by decide +kernel
theorem dX6_hill_104 : decode cX6_hill 104 = .ok (.ifCond .lt 66, 3) := by decide +kernel
theorem dX6_hill_107 : decode cX6_hill 107 = .ok (.aload_n 0, 1) := by decide +kernel
theorem dX6_hill_108 : decode cX6_hill 108 = .ok (.getfield 9, 3) := by decide +kernel
theorem dX6_hill_111 : decode cX6_hill 111 = .ok (.iload 5, 2) := by decide +kernel
theorem dX6_hill_113 : decode cX6_hill 113 = .ok (.aload_n 0, 1) := by decide +kernel
theorem dX6_hill_114 : decode cX6_hill 114 = .ok (.getfield 9, 3) := by decide +kernel
theorem dX6_hill_117 : decode cX6_hill 117 = .ok (.iload_n 3, 1) := by decide +kernel
theorem dX6_hill_118 : decode cX6_hill 118 = .ok (.invokestatic 64, 3) := by decide +kernel
theorem dX6_hill_121 : decode cX6_hill 121 = .ok (.iload 6, 2) := by decide +kernel
theorem dX6_hill_123 : decode cX6_hill 123 = .ok (.aload_n 0, 1) := by decide +kernel
theorem dX6_hill_124 : decode cX6_hill 124 = .ok (.getfield 9, 3) := by decide +kernel
theorem dX6_hill_127 : decode cX6_hill 127 = .ok (.iload 4, 2) := by decide +kernel
theorem dX6_hill_129 : decode cX6_hill 129 = .ok (.invokestatic 64, 3) := by decide +kernel
theorem dX6_hill_132 : decode cX6_hill 132 = .ok (.iload 8, 2) := by decide +kernel
theorem dX6_hill_134 : decode cX6_hill 134 = .ok (.invokestatic 67, 3) := by decide +kernel
theorem dX6_hill_137 : decode cX6_hill 137 = .ok (.aload_n 0, 1) := by decide +kernel
theorem dX6_hill_138 : decode cX6_hill 138 = .ok (.getfield 9, 3) := by decide +kernel
theorem dX6_hill_141 : decode cX6_hill 141 = .ok (.iload 5, 2) := by decide +kernel
theorem dX6_hill_143 : decode cX6_hill 143 = .ok (.aload_n 0, 1) := by decide +kernel
theorem dX6_hill_144 : decode cX6_hill 144 = .ok (.getfield 9, 3) := by decide +kernel
theorem dX6_hill_147 : decode cX6_hill 147 = .ok (.iload_n 3, 1) := by decide +kernel
theorem dX6_hill_148 : decode cX6_hill 148 = .ok (.invokestatic 64, 3) := by decide +kernel
theorem dX6_hill_151 : decode cX6_hill 151 = .ok (.iload 6, 2) := by decide +kernel
theorem dX6_hill_153 : decode cX6_hill 153 = .ok (.aload_n 0, 1) := by decide +kernel
theorem dX6_hill_154 : decode cX6_hill 154 = .ok (.getfield 9, 3) := by decide +kernel
theorem dX6_hill_157 : decode cX6_hill 157 = .ok (.iload 4, 2) := by decide +kernel
theorem dX6_hill_159 : decode cX6_hill 159 = .ok (.invokestatic 64, 3) := by decide +kernel
theorem dX6_hill_162 : decode cX6_hill 162 = .ok (.iload 7, 2) := by decide +kernel
theorem dX6_hill_164 : decode cX6_hill 164 = .ok (.invokestatic 67, 3) := by decide +kernel
theorem dX6_hill_167 : decode cX6_hill 167 = .ok (.if_icmp .le 7, 3) := by decide +kernel
theorem dX6_hill_170 : decode cX6_hill 170 = .ok (.iload 8, 2) := by decide +kernel
theorem dX6_hill_172 : decode cX6_hill 172 = .ok (.istore 7, 2) := by decide +kernel
theorem dX6_hill_174 : decode cX6_hill 174 = .ok (.iinc 8 1, 3) := by decide +kernel
theorem dX6_hill_177 : decode cX6_hill 177 = .ok (.goto (-82), 3) := by decide +kernel
theorem dX6_hill_180 : decode cX6_hill 180 = .ok (.iload 7, 2) := by decide +kernel
theorem dX6_hill_182 : decode cX6_hill 182 = .ok (.ireturn, 1) := by decide +kernel
theorem dX6_leastEye_0 : decode cX6_leastEye 0 = .ok (.aload_n 0, 1) := by decide +kernel
theorem dX6_leastEye_1 : decode cX6_leastEye 1 = .ok (.iload_n 1, 1) := by decide +kernel
theorem dX6_leastEye_2 : decode cX6_leastEye 2 = .ok (.invokevirtual 122, 3) := by decide +kernel
theorem dX6_leastEye_5 : decode cX6_leastEye 5 = .ok (.ifCond .ne 9, 3) := by decide +kernel
theorem dX6_leastEye_8 : decode cX6_leastEye 8 = .ok (.aload_n 0, 1) := by decide +kernel
theorem dX6_leastEye_9 : decode cX6_leastEye 9 = .ok (.iconst (-1), 1) := by decide +kernel
theorem dX6_leastEye_10 : decode cX6_leastEye 10 = .ok (.invokevirtual 39, 3) := by decide +kernel
theorem dX6_leastEye_13 : decode cX6_leastEye 13 = .ok (.ireturn, 1) := by decide +kernel
theorem dX6_leastEye_14 : decode cX6_leastEye 14 = .ok (.aload_n 0, 1) := by decide +kernel
theorem dX6_leastEye_15 : decode cX6_leastEye 15 = .ok (.getfield 9, 3) := by decide +kernel
theorem dX6_leastEye_18 : decode cX6_leastEye 18 = .ok (.iload_n 1, 1) := by decide +kernel
theorem dX6_leastEye_19 : decode cX6_leastEye 19 = .ok (.iconst 0, 1) := by decide +kernel
theorem dX6_leastEye_20 : decode cX6_leastEye 20 = .ok (.invokestatic 47, 3) := by decide +kernel
theorem dX6_leastEye_23 : decode cX6_leastEye 23 = .ok (.iaload, 1) := by decide +kernel
theorem dX6_leastEye_24 : decode cX6_leastEye 24 = .ok (.aload_n 0, 1) := by decide +kernel
theorem dX6_leastEye_25 : decode cX6_leastEye 25 = .ok (.getfield 9, 3) := by decide +kernel
theorem dX6_leastEye_28 : decode cX6_leastEye 28 = .ok (.iload_n 1, 1) := by decide +kernel
theorem dX6_leastEye_29 : decode cX6_leastEye 29 = .ok (.iconst 1, 1) := by decide +kernel
theorem dX6_leastEye_30 : decode cX6_leastEye 30 = .ok (.invokestatic 47, 3) := by decide +kernel
theorem dX6_leastEye_33 : decode cX6_leastEye 33 = .ok (.iaload, 1) := by decide +kernel
theorem dX6_leastEye_34 : decode cX6_leastEye 34 = .ok (.invokestatic 57, 3) := by decide +kernel
theorem dX6_leastEye_37 : decode cX6_leastEye 37 = .ok (.istore_n 2, 1) := by decide +kernel
theorem dX6_leastEye_38 : decode cX6_leastEye 38 = .ok (.iconst 0, 1) := by decide +kernel
theorem dX6_leastEye_39 : decode cX6_leastEye 39 = .ok (.istore_n 3, 1) := by decide +kernel
theorem dX6_leastEye_40 : decode cX6_leastEye 40 = .ok (.iload_n 3, 1) := by decide +kernel
theorem dX6_leastEye_41 : decode cX6_leastEye 41 = .ok (.bipush 30, 2) := by decide +kernel
theorem dX6_leastEye_43 : decode cX6_leastEye 43 = .ok (.if_icmp .gt 48, 3) := by decide +kernel
theorem dX6_leastEye_46 : decode cX6_leastEye 46 = .ok (.aload_n 0, 1) := by decide +kernel
theorem dX6_leastEye_47 : decode cX6_leastEye 47 = .ok (.getfield 9, 3) := by decide +kernel
theorem dX6_leastEye_50 : decode cX6_leastEye 50 = .ok (.aload_n 0, 1) := by decide +kernel
theorem dX6_leastEye_51 : decode cX6_leastEye 51 = .ok (.getfield 13, 3) := by decide +kernel
theorem dX6_leastEye_54 : decode cX6_leastEye 54 = .ok (.invokestatic 134, 3) := by decide +kernel
theorem dX6_leastEye_57 : decode cX6_leastEye 57 = .ok (.aload_n 0, 1) := by decide +kernel
theorem dX6_leastEye_58 : decode cX6_leastEye 58 = .ok (.getfield 13, 3) := by decide +kernel
theorem dX6_leastEye_61 : decode cX6_leastEye 61 = .ok (.iload_n 1, 1) := by decide +kernel
theorem dX6_leastEye_62 : decode cX6_leastEye 62 = .ok (.iconst 5, 1) := by decide +kernel
theorem dX6_leastEye_63 : decode cX6_leastEye 63 = .ok (.invokestatic 47, 3) := by decide +kernel
theorem dX6_leastEye_66 : decode cX6_leastEye 66 = .ok (.iload_n 3, 1) := by decide +kernel
theorem dX6_leastEye_67 : decode cX6_leastEye 67 = .ok (.iload_n 2, 1) := by decide +kernel
theorem dX6_leastEye_68 : decode cX6_leastEye 68 = .ok (.isub, 1) := by decide +kernel
theorem dX6_leastEye_69 : decode cX6_leastEye 69 = .ok (.iastore, 1) := by decide +kernel
theorem dX6_leastEye_70 : decode cX6_leastEye 70 = .ok (.aload_n 0, 1) := by decide +kernel
theorem dX6_leastEye_71 : decode cX6_leastEye 71 = .ok (.getfield 13, 3) := by decide +kernel
theorem dX6_leastEye_74 : decode cX6_leastEye 74 = .ok (.iload_n 1, 1) := by decide +kernel
theorem dX6_leastEye_75 : decode cX6_leastEye 75 = .ok (.bipush 99, 2) := by decide +kernel
theorem dX6_leastEye_77 : decode cX6_leastEye 77 = .ok (.invokestatic 79, 3) := by decide +kernel
theorem dX6_leastEye_80 : decode cX6_leastEye 80 = .ok (.ifCond .eq 5, 3) := by decide +kernel
theorem dX6_leastEye_83 : decode cX6_leastEye 83 = .ok (.iload_n 3, 1) := by decide +kernel
theorem dX6_leastEye_84 : decode cX6_leastEye 84 = .ok (.ireturn, 1) := by decide +kernel
theorem dX6_leastEye_85 : decode cX6_leastEye 85 = .ok (.iinc 3 1, 3) := by decide +kernel
theorem dX6_leastEye_88 : decode cX6_leastEye 88 = .ok (.goto (-48), 3) := by decide +kernel
theorem dX6_leastEye_91 : decode cX6_leastEye 91 = .ok (.bipush (-9), 2) := by decide +kernel
theorem dX6_leastEye_93 : decode cX6_leastEye 93 = .ok (.ireturn, 1) := by decide +kernel
theorem dX6_cut_0 : decode cX6_cut 0 = .ok (.iload_n 1, 1) := by decide +kernel
theorem dX6_cut_1 : decode cX6_cut 1 = .ok (.iconst 0, 1) := by decide +kernel
theorem dX6_cut_2 : decode cX6_cut 2 = .ok (.iconst 2, 1) := by decide +kernel
theorem dX6_cut_3 : decode cX6_cut 3 = .ok (.invokestatic 43, 3) := by decide +kernel
theorem dX6_cut_6 : decode cX6_cut 6 = .ok (.ifCond .ne 10, 3) := by decide +kernel
theorem dX6_cut_9 : decode cX6_cut 9 = .ok (.aload_n 0, 1) := by decide +kernel
theorem dX6_cut_10 : decode cX6_cut 10 = .ok (.bipush (-2), 2) := by decide +kernel
theorem dX6_cut_12 : decode cX6_cut 12 = .ok (.invokevirtual 39, 3) := by decide +kernel
theorem dX6_cut_15 : decode cX6_cut 15 = .ok (.ireturn, 1) := by decide +kernel
theorem dX6_cut_16 : decode cX6_cut 16 = .ok (.aload_n 0, 1) := by decide +kernel
theorem dX6_cut_17 : decode cX6_cut 17 = .ok (.getfield 9, 3) := by decide +kernel
theorem dX6_cut_20 : decode cX6_cut 20 = .ok (.invokestatic 83, 3) := by decide +kernel
theorem dX6_cut_23 : decode cX6_cut 23 = .ok (.istore_n 2, 1) := by decide +kernel
theorem dX6_cut_24 : decode cX6_cut 24 = .ok (.aload_n 0, 1) := by decide +kernel
theorem dX6_cut_25 : decode cX6_cut 25 = .ok (.getfield 9, 3) := by decide +kernel
theorem dX6_cut_28 : decode cX6_cut 28 = .ok (.invokestatic 145, 3) := by decide +kernel
theorem dX6_cut_31 : decode cX6_cut 31 = .ok (.istore_n 3, 1) := by decide +kernel
theorem dX6_cut_32 : decode cX6_cut 32 = .ok (.bipush (-9), 2) := by decide +kernel
theorem dX6_cut_34 : decode cX6_cut 34 = .ok (.istore 4, 2) := by decide +kernel
theorem dX6_cut_36 : decode cX6_cut 36 = .ok (.ldc 157, 2) := by decide +kernel
theorem dX6_cut_38 : decode cX6_cut 38 = .ok (.istore 5, 2) := by decide +kernel
theorem dX6_cut_40 : decode cX6_cut 40 = .ok (.iconst 0, 1) := by decide +kernel
theorem dX6_cut_41 : decode cX6_cut 41 = .ok (.istore 6, 2) := by decide +kernel
theorem dX6_cut_43 : decode cX6_cut 43 = .ok (.iconst 0, 1) := by decide +kernel
theorem dX6_cut_44 : decode cX6_cut 44 = .ok (.istore 7, 2) := by decide +kernel
theorem dX6_cut_46 : decode cX6_cut 46 = .ok (.iload 7, 2) := by decide +kernel
theorem dX6_cut_48 : decode cX6_cut 48 = .ok (.aload_n 0, 1) := by decide +kernel
theorem dX6_cut_49 : decode cX6_cut 49 = .ok (.getfield 9, 3) := by decide +kernel
theorem dX6_cut_52 : decode cX6_cut 52 = .ok (.iconst 0, 1) := by decide +kernel
theorem dX6_cut_53 : decode cX6_cut 53 = .ok (.iaload, 1) := by decide +kernel
theorem dX6_cut_54 : decode cX6_cut 54 = .ok (.if_icmp .ge 88, 3) := by decide +kernel
theorem dX6_cut_57 : decode cX6_cut 57 = .ok (.aload_n 0, 1) := by decide +kernel
theorem dX6_cut_58 : decode cX6_cut 58 = .ok (.getfield 9, 3) := by decide +kernel
theorem dX6_cut_61 : decode cX6_cut 61 = .ok (.iload_n 2, 1) := by decide +kernel
theorem dX6_cut_62 : decode cX6_cut 62 = .ok (.iconst 1, 1) := by decide +kernel
theorem dX6_cut_63 : decode cX6_cut 63 = .ok (.iload 7, 2) := by decide +kernel
theorem dX6_cut_65 : decode cX6_cut 65 = .ok (.ishl, 1) := by decide +kernel
theorem dX6_cut_66 : decode cX6_cut 66 = .ok (.iconst (-1), 1) := by decide +kernel
theorem dX6_cut_67 : decode cX6_cut 67 = .ok (.ixor, 1) := by decide +kernel
theorem dX6_cut_68 : decode cX6_cut 68 = .ok (.iand, 1) := by decide +kernel
theorem dX6_cut_69 : decode cX6_cut 69 = .ok (.invokestatic 87, 3) := by decide +kernel
theorem dX6_cut_72 : decode cX6_cut 72 = .ok (.istore 8, 2) := by decide +kernel
theorem dX6_cut_74 : decode cX6_cut 74 = .ok (.iload 6, 2) := by decide +kernel
theorem dX6_cut_76 : decode cX6_cut 76 = .ok (.iload_n 3, 1) := by decide +kernel
theorem dX6_cut_77 : decode cX6_cut 77 = .ok (.iconst 1, 1) := by decide +kernel
theorem dX6_cut_78 : decode cX6_cut 78 = .ok (.iload 7, 2) := by decide +kernel
theorem dX6_cut_80 : decode cX6_cut 80 = .ok (.ishl, 1) := by decide +kernel
theorem dX6_cut_81 : decode cX6_cut 81 = .ok (.iconst (-1), 1) := by decide +kernel
theorem dX6_cut_82 : decode cX6_cut 82 = .ok (.ixor, 1) := by decide +kernel
theorem dX6_cut_83 : decode cX6_cut 83 = .ok (.iand, 1) := by decide +kernel
theorem dX6_cut_84 : decode cX6_cut 84 = .ok (.iload 8, 2) := by decide +kernel
theorem dX6_cut_86 : decode cX6_cut 86 = .ok (.iconst (-1), 1) := by decide +kernel
theorem dX6_cut_87 : decode cX6_cut 87 = .ok (.ixor, 1) := by decide +kernel
theorem dX6_cut_88 : decode cX6_cut 88 = .ok (.iand, 1) := by decide +kernel
theorem dX6_cut_89 : decode cX6_cut 89 = .ok (.ifCond .eq 10, 3) := by decide +kernel
theorem dX6_cut_92 : decode cX6_cut 92 = .ok (.iconst 1, 1) := by decide +kernel
theorem dX6_cut_93 : decode cX6_cut 93 = .ok (.iload 7, 2) := by decide +kernel
theorem dX6_cut_95 : decode cX6_cut 95 = .ok (.ishl, 1) := by decide +kernel
theorem dX6_cut_96 : decode cX6_cut 96 = .ok (.goto 4, 3) := by decide +kernel
theorem dX6_cut_99 : decode cX6_cut 99 = .ok (.iconst 0, 1) := by decide +kernel
theorem dX6_cut_100 : decode cX6_cut 100 = .ok (.ior, 1) := by decide +kernel
theorem dX6_cut_101 : decode cX6_cut 101 = .ok (.istore 6, 2) := by decide +kernel
theorem dX6_cut_103 : decode cX6_cut 103 = .ok (.iload_n 2, 1) := by decide +kernel
theorem dX6_cut_104 : decode cX6_cut 104 = .ok (.iload 7, 2) := by decide +kernel
theorem dX6_cut_106 : decode cX6_cut 106 = .ok (.invokestatic 75, 3) := by decide +kernel
theorem dX6_cut_109 : decode cX6_cut 109 = .ok (.ifCond .eq 27, 3) := by decide +kernel
theorem dX6_cut_112 : decode cX6_cut 112 = .ok (.iload 8, 2) := by decide +kernel
theorem dX6_cut_114 : decode cX6_cut 114 = .ok (.invokestatic 148, 3) := by decide +kernel
theorem dX6_cut_117 : decode cX6_cut 117 = .ok (.iload 5, 2) := by decide +kernel
theorem dX6_cut_119 : decode cX6_cut 119 = .ok (.if_icmp .lt 6, 3) := by decide +kernel
theorem dX6_cut_122 : decode cX6_cut 122 = .ok (.goto 14, 3) := by decide +kernel
theorem dX6_cut_125 : decode cX6_cut 125 = .ok (.iload 7, 2) := by decide +kernel
theorem dX6_cut_127 : decode cX6_cut 127 = .ok (.istore 4, 2) := by decide +kernel
theorem dX6_cut_129 : decode cX6_cut 129 = .ok (.iload 8, 2) := by decide +kernel
theorem dX6_cut_131 : decode cX6_cut 131 = .ok (.invokestatic 148, 3) := by decide +kernel
theorem dX6_cut_134 : decode cX6_cut 134 = .ok (.istore 5, 2) := by decide +kernel
theorem dX6_cut_136 : decode cX6_cut 136 = .ok (.iinc 7 1, 3) := by decide +kernel
theorem dX6_cut_139 : decode cX6_cut 139 = .ok (.goto (-93), 3) := by decide +kernel
theorem dX6_cut_142 : decode cX6_cut 142 = .ok (.iload_n 1, 1) := by decide +kernel
theorem dX6_cut_143 : decode cX6_cut 143 = .ok (.iconst 2, 1) := by decide +kernel
theorem dX6_cut_144 : decode cX6_cut 144 = .ok (.if_icmp .ne 8, 3) := by decide +kernel
theorem dX6_cut_147 : decode cX6_cut 147 = .ok (.iload 6, 2) := by decide +kernel
theorem dX6_cut_149 : decode cX6_cut 149 = .ok (.goto 19, 3) := by decide +kernel
theorem dX6_cut_152 : decode cX6_cut 152 = .ok (.iload 4, 2) := by decide +kernel
theorem dX6_cut_154 : decode cX6_cut 154 = .ok (.ifCond .lt 7, 3) := by decide +kernel
theorem dX6_cut_157 : decode cX6_cut 157 = .ok (.iload_n 1, 1) := by decide +kernel
theorem dX6_cut_158 : decode cX6_cut 158 = .ok (.ifCond .ne 8, 3) := by decide +kernel
theorem dX6_cut_161 : decode cX6_cut 161 = .ok (.iload 4, 2) := by decide +kernel
theorem dX6_cut_163 : decode cX6_cut 163 = .ok (.goto 5, 3) := by decide +kernel
theorem dX6_cut_166 : decode cX6_cut 166 = .ok (.iload 5, 2) := by decide +kernel
theorem dX6_cut_168 : decode cX6_cut 168 = .ok (.ireturn, 1) := by decide +kernel
theorem dX6_build_0 : decode cX6_build 0 = .ok (.iload_n 1, 1) := by decide +kernel
theorem dX6_build_1 : decode cX6_build 1 = .ok (.iconst 0, 1) := by decide +kernel
theorem dX6_build_2 : decode cX6_build 2 = .ok (.iconst 1, 1) := by decide +kernel
theorem dX6_build_3 : decode cX6_build 3 = .ok (.invokestatic 43, 3) := by decide +kernel
theorem dX6_build_6 : decode cX6_build 6 = .ok (.ifCond .ne 10, 3) := by decide +kernel
theorem dX6_build_9 : decode cX6_build 9 = .ok (.aload_n 0, 1) := by decide +kernel
theorem dX6_build_10 : decode cX6_build 10 = .ok (.bipush (-2), 2) := by decide +kernel
theorem dX6_build_12 : decode cX6_build 12 = .ok (.invokevirtual 39, 3) := by decide +kernel
theorem dX6_build_15 : decode cX6_build 15 = .ok (.ireturn, 1) := by decide +kernel
theorem dX6_build_16 : decode cX6_build 16 = .ok (.iconst 0, 1) := by decide +kernel
theorem dX6_build_17 : decode cX6_build 17 = .ok (.istore_n 2, 1) := by decide +kernel
theorem dX6_build_18 : decode cX6_build 18 = .ok (.iconst (-1), 1) := by decide +kernel
theorem dX6_build_19 : decode cX6_build 19 = .ok (.istore_n 3, 1) := by decide +kernel
theorem dX6_build_20 : decode cX6_build 20 = .ok (.iconst 0, 1) := by decide +kernel
theorem dX6_build_21 : decode cX6_build 21 = .ok (.istore 4, 2) := by decide +kernel
theorem dX6_build_23 : decode cX6_build 23 = .ok (.iload 4, 2) := by decide +kernel
theorem dX6_build_25 : decode cX6_build 25 = .ok (.bipush 20, 2) := by decide +kernel
theorem dX6_build_27 : decode cX6_build 27 = .ok (.if_icmp .ge 58, 3) := by decide +kernel
theorem dX6_build_30 : decode cX6_build 30 = .ok (.aload_n 0, 1) := by decide +kernel
theorem dX6_build_31 : decode cX6_build 31 = .ok (.getfield 9, 3) := by decide +kernel
theorem dX6_build_34 : decode cX6_build 34 = .ok (.aload_n 0, 1) := by decide +kernel
theorem dX6_build_35 : decode cX6_build 35 = .ok (.getfield 13, 3) := by decide +kernel
theorem dX6_build_38 : decode cX6_build 38 = .ok (.invokestatic 134, 3) := by decide +kernel
theorem dX6_build_41 : decode cX6_build 41 = .ok (.aload_n 0, 1) := by decide +kernel
theorem dX6_build_42 : decode cX6_build 42 = .ok (.getfield 13, 3) := by decide +kernel
theorem dX6_build_45 : decode cX6_build 45 = .ok (.iconst 0, 1) := by decide +kernel
theorem dX6_build_46 : decode cX6_build 46 = .ok (.iconst 0, 1) := by decide +kernel
theorem dX6_build_47 : decode cX6_build 47 = .ok (.iload 4, 2) := by decide +kernel
theorem dX6_build_49 : decode cX6_build 49 = .ok (.invokestatic 118, 3) := by decide +kernel
theorem dX6_build_52 : decode cX6_build 52 = .ok (.aload_n 0, 1) := by decide +kernel
theorem dX6_build_53 : decode cX6_build 53 = .ok (.getfield 13, 3) := by decide +kernel
theorem dX6_build_56 : decode cX6_build 56 = .ok (.invokestatic 145, 3) := by decide +kernel
theorem dX6_build_59 : decode cX6_build 59 = .ok (.invokestatic 148, 3) := by decide +kernel
theorem dX6_build_62 : decode cX6_build 62 = .ok (.istore 5, 2) := by decide +kernel
theorem dX6_build_64 : decode cX6_build 64 = .ok (.iload 5, 2) := by decide +kernel
theorem dX6_build_66 : decode cX6_build 66 = .ok (.iload_n 3, 1) := by decide +kernel
theorem dX6_build_67 : decode cX6_build 67 = .ok (.if_icmp .gt 6, 3) := by decide +kernel
theorem dX6_build_70 : decode cX6_build 70 = .ok (.goto 9, 3) := by decide +kernel
theorem dX6_build_73 : decode cX6_build 73 = .ok (.iload 4, 2) := by decide +kernel
theorem dX6_build_75 : decode cX6_build 75 = .ok (.istore_n 2, 1) := by decide +kernel
theorem dX6_build_76 : decode cX6_build 76 = .ok (.iload 5, 2) := by decide +kernel
theorem dX6_build_78 : decode cX6_build 78 = .ok (.istore_n 3, 1) := by decide +kernel
theorem dX6_build_79 : decode cX6_build 79 = .ok (.iinc 4 1, 3) := by decide +kernel
theorem dX6_build_82 : decode cX6_build 82 = .ok (.goto (-59), 3) := by decide +kernel
theorem dX6_build_85 : decode cX6_build 85 = .ok (.iload_n 1, 1) := by decide +kernel
theorem dX6_build_86 : decode cX6_build 86 = .ok (.ifCond .ne 7, 3) := by decide +kernel
theorem dX6_build_89 : decode cX6_build 89 = .ok (.iload_n 2, 1) := by decide +kernel
theorem dX6_build_90 : decode cX6_build 90 = .ok (.goto 4, 3) := by decide +kernel
theorem dX6_build_93 : decode cX6_build 93 = .ok (.iload_n 3, 1) := by decide +kernel
theorem dX6_build_94 : decode cX6_build 94 = .ok (.ireturn, 1) := by decide +kernel
theorem dX6_fell_0 : decode cX6_fell 0 = .ok (.aload_n 0, 1) := by decide +kernel
theorem dX6_fell_1 : decode cX6_fell 1 = .ok (.getfield 9, 3) := by decide +kernel
theorem dX6_fell_4 : decode cX6_fell 4 = .ok (.invokestatic 145, 3) := by decide +kernel
theorem dX6_fell_7 : decode cX6_fell 7 = .ok (.invokestatic 148, 3) := by decide +kernel
theorem dX6_fell_10 : decode cX6_fell 10 = .ok (.istore_n 1, 1) := by decide +kernel
theorem dX6_fell_11 : decode cX6_fell 11 = .ok (.bipush (-9), 2) := by decide +kernel
theorem dX6_fell_13 : decode cX6_fell 13 = .ok (.istore_n 2, 1) := by decide +kernel
theorem dX6_fell_14 : decode cX6_fell 14 = .ok (.iconst 0, 1) := by decide +kernel
theorem dX6_fell_15 : decode cX6_fell 15 = .ok (.istore_n 3, 1) := by decide +kernel
theorem dX6_fell_16 : decode cX6_fell 16 = .ok (.iload_n 3, 1) := by decide +kernel
theorem dX6_fell_17 : decode cX6_fell 17 = .ok (.bipush 20, 2) := by decide +kernel
theorem dX6_fell_19 : decode cX6_fell 19 = .ok (.if_icmp .ge 59, 3) := by decide +kernel
theorem dX6_fell_22 : decode cX6_fell 22 = .ok (.aload_n 0, 1) := by decide +kernel
theorem dX6_fell_23 : decode cX6_fell 23 = .ok (.getfield 9, 3) := by decide +kernel
theorem dX6_fell_26 : decode cX6_fell 26 = .ok (.aload_n 0, 1) := by decide +kernel
theorem dX6_fell_27 : decode cX6_fell 27 = .ok (.getfield 13, 3) := by decide +kernel
theorem dX6_fell_30 : decode cX6_fell 30 = .ok (.invokestatic 134, 3) := by decide +kernel
theorem dX6_fell_33 : decode cX6_fell 33 = .ok (.aload_n 0, 1) := by decide +kernel
theorem dX6_fell_34 : decode cX6_fell 34 = .ok (.getfield 13, 3) := by decide +kernel
theorem dX6_fell_37 : decode cX6_fell 37 = .ok (.iconst 3, 1) := by decide +kernel
theorem dX6_fell_38 : decode cX6_fell 38 = .ok (.iload_n 3, 1) := by decide +kernel
theorem dX6_fell_39 : decode cX6_fell 39 = .ok (.iadd, 1) := by decide +kernel
theorem dX6_fell_40 : decode cX6_fell 40 = .ok (.iconst 0, 1) := by decide +kernel
theorem dX6_fell_41 : decode cX6_fell 41 = .ok (.iastore, 1) := by decide +kernel
theorem dX6_fell_42 : decode cX6_fell 42 = .ok (.aload_n 0, 1) := by decide +kernel
theorem dX6_fell_43 : decode cX6_fell 43 = .ok (.getfield 13, 3) := by decide +kernel
theorem dX6_fell_46 : decode cX6_fell 46 = .ok (.invokestatic 145, 3) := by decide +kernel
theorem dX6_fell_49 : decode cX6_fell 49 = .ok (.invokestatic 148, 3) := by decide +kernel
theorem dX6_fell_52 : decode cX6_fell 52 = .ok (.iload_n 1, 1) := by decide +kernel
theorem dX6_fell_53 : decode cX6_fell 53 = .ok (.if_icmp .gt 6, 3) := by decide +kernel
theorem dX6_fell_56 : decode cX6_fell 56 = .ok (.goto 16, 3) := by decide +kernel
theorem dX6_fell_59 : decode cX6_fell 59 = .ok (.iload_n 3, 1) := by decide +kernel
theorem dX6_fell_60 : decode cX6_fell 60 = .ok (.istore_n 2, 1) := by decide +kernel
theorem dX6_fell_61 : decode cX6_fell 61 = .ok (.aload_n 0, 1) := by decide +kernel
theorem dX6_fell_62 : decode cX6_fell 62 = .ok (.getfield 13, 3) := by decide +kernel
theorem dX6_fell_65 : decode cX6_fell 65 = .ok (.invokestatic 145, 3) := by decide +kernel
theorem dX6_fell_68 : decode cX6_fell 68 = .ok (.invokestatic 148, 3) := by decide +kernel
theorem dX6_fell_71 : decode cX6_fell 71 = .ok (.istore_n 1, 1) := by decide +kernel
theorem dX6_fell_72 : decode cX6_fell 72 = .ok (.iinc 3 1, 3) := by decide +kernel
theorem dX6_fell_75 : decode cX6_fell 75 = .ok (.goto (-59), 3) := by decide +kernel
theorem dX6_fell_78 : decode cX6_fell 78 = .ok (.iload_n 2, 1) := by decide +kernel
theorem dX6_fell_79 : decode cX6_fell 79 = .ok (.ireturn, 1) := by decide +kernel
theorem dX6_raise_0 : decode cX6_raise 0 = .ok (.aload_n 0, 1) := by decide +kernel
theorem dX6_raise_1 : decode cX6_raise 1 = .ok (.getfield 9, 3) := by decide +kernel
theorem dX6_raise_4 : decode cX6_raise 4 = .ok (.invokestatic 145, 3) := by decide +kernel
theorem dX6_raise_7 : decode cX6_raise 7 = .ok (.invokestatic 148, 3) := by decide +kernel
theorem dX6_raise_10 : decode cX6_raise 10 = .ok (.istore_n 1, 1) := by decide +kernel
theorem dX6_raise_11 : decode cX6_raise 11 = .ok (.bipush (-9), 2) := by decide +kernel
theorem dX6_raise_13 : decode cX6_raise 13 = .ok (.istore_n 2, 1) := by decide +kernel
theorem dX6_raise_14 : decode cX6_raise 14 = .ok (.iconst 0, 1) := by decide +kernel
theorem dX6_raise_15 : decode cX6_raise 15 = .ok (.istore_n 3, 1) := by decide +kernel
theorem dX6_raise_16 : decode cX6_raise 16 = .ok (.iload_n 3, 1) := by decide +kernel
theorem dX6_raise_17 : decode cX6_raise 17 = .ok (.aload_n 0, 1) := by decide +kernel
theorem dX6_raise_18 : decode cX6_raise 18 = .ok (.getfield 9, 3) := by decide +kernel
theorem dX6_raise_21 : decode cX6_raise 21 = .ok (.iconst 0, 1) := by decide +kernel
theorem dX6_raise_22 : decode cX6_raise 22 = .ok (.iaload, 1) := by decide +kernel
theorem dX6_raise_23 : decode cX6_raise 23 = .ok (.if_icmp .ge 61, 3) := by decide +kernel
theorem dX6_raise_26 : decode cX6_raise 26 = .ok (.aload_n 0, 1) := by decide +kernel
theorem dX6_raise_27 : decode cX6_raise 27 = .ok (.getfield 9, 3) := by decide +kernel
theorem dX6_raise_30 : decode cX6_raise 30 = .ok (.aload_n 0, 1) := by decide +kernel
theorem dX6_raise_31 : decode cX6_raise 31 = .ok (.getfield 13, 3) := by decide +kernel
theorem dX6_raise_34 : decode cX6_raise 34 = .ok (.invokestatic 134, 3) := by decide +kernel
theorem dX6_raise_37 : decode cX6_raise 37 = .ok (.aload_n 0, 1) := by decide +kernel
theorem dX6_raise_38 : decode cX6_raise 38 = .ok (.getfield 13, 3) := by decide +kernel
theorem dX6_raise_41 : decode cX6_raise 41 = .ok (.iload_n 3, 1) := by decide +kernel
theorem dX6_raise_42 : decode cX6_raise 42 = .ok (.iconst 5, 1) := by decide +kernel
theorem dX6_raise_43 : decode cX6_raise 43 = .ok (.invokestatic 47, 3) := by decide +kernel
theorem dX6_raise_46 : decode cX6_raise 46 = .ok (.iconst 3, 1) := by decide +kernel
theorem dX6_raise_47 : decode cX6_raise 47 = .ok (.iastore, 1) := by decide +kernel
theorem dX6_raise_48 : decode cX6_raise 48 = .ok (.aload_n 0, 1) := by decide +kernel
theorem dX6_raise_49 : decode cX6_raise 49 = .ok (.getfield 13, 3) := by decide +kernel
theorem dX6_raise_52 : decode cX6_raise 52 = .ok (.invokestatic 145, 3) := by decide +kernel
theorem dX6_raise_55 : decode cX6_raise 55 = .ok (.invokestatic 148, 3) := by decide +kernel
theorem dX6_raise_58 : decode cX6_raise 58 = .ok (.iload_n 1, 1) := by decide +kernel
theorem dX6_raise_59 : decode cX6_raise 59 = .ok (.if_icmp .gt 6, 3) := by decide +kernel
theorem dX6_raise_62 : decode cX6_raise 62 = .ok (.goto 16, 3) := by decide +kernel
theorem dX6_raise_65 : decode cX6_raise 65 = .ok (.iload_n 3, 1) := by decide +kernel
theorem dX6_raise_66 : decode cX6_raise 66 = .ok (.istore_n 2, 1) := by decide +kernel
theorem dX6_raise_67 : decode cX6_raise 67 = .ok (.aload_n 0, 1) := by decide +kernel
theorem dX6_raise_68 : decode cX6_raise 68 = .ok (.getfield 13, 3) := by decide +kernel
theorem dX6_raise_71 : decode cX6_raise 71 = .ok (.invokestatic 145, 3) := by decide +kernel
theorem dX6_raise_74 : decode cX6_raise 74 = .ok (.invokestatic 148, 3) := by decide +kernel
theorem dX6_raise_77 : decode cX6_raise 77 = .ok (.istore_n 1, 1) := by decide +kernel
theorem dX6_raise_78 : decode cX6_raise 78 = .ok (.iinc 3 1, 3) := by decide +kernel
theorem dX6_raise_81 : decode cX6_raise 81 = .ok (.goto (-65), 3) := by decide +kernel
theorem dX6_raise_84 : decode cX6_raise 84 = .ok (.iload_n 2, 1) := by decide +kernel
theorem dX6_raise_85 : decode cX6_raise 85 = .ok (.ireturn, 1) := by decide +kernel
theorem dX6_hangsIn_0 : decode cX6_hangsIn 0 = .ok (.aload_n 0, 1) := by decide +kernel
theorem dX6_hangsIn_1 : decode cX6_hangsIn 1 = .ok (.getfield 13, 3) := by decide +kernel
theorem dX6_hangsIn_4 : decode cX6_hangsIn 4 = .ok (.invokestatic 145, 3) := by decide +kernel
theorem dX6_hangsIn_7 : decode cX6_hangsIn 7 = .ok (.invokestatic 148, 3) := by decide +kernel
theorem dX6_hangsIn_10 : decode cX6_hangsIn 10 = .ok (.istore_n 2, 1) := by decide +kernel
theorem dX6_hangsIn_11 : decode cX6_hangsIn 11 = .ok (.iconst 0, 1) := by decide +kernel
theorem dX6_hangsIn_12 : decode cX6_hangsIn 12 = .ok (.istore_n 3, 1) := by decide +kernel
theorem dX6_hangsIn_13 : decode cX6_hangsIn 13 = .ok (.iload_n 3, 1) := by decide +kernel
theorem dX6_hangsIn_14 : decode cX6_hangsIn 14 = .ok (.iload_n 1, 1) := by decide +kernel
theorem dX6_hangsIn_15 : decode cX6_hangsIn 15 = .ok (.if_icmp .ge 31, 3) := by decide +kernel
theorem dX6_hangsIn_18 : decode cX6_hangsIn 18 = .ok (.aload_n 0, 1) := by decide +kernel
theorem dX6_hangsIn_19 : decode cX6_hangsIn 19 = .ok (.getfield 13, 3) := by decide +kernel
theorem dX6_hangsIn_22 : decode cX6_hangsIn 22 = .ok (.invokestatic 90, 3) := by decide +kernel
theorem dX6_hangsIn_25 : decode cX6_hangsIn 25 = .ok (.istore 4, 2) := by decide +kernel
theorem dX6_hangsIn_27 : decode cX6_hangsIn 27 = .ok (.iload_n 2, 1) := by decide +kernel
theorem dX6_hangsIn_28 : decode cX6_hangsIn 28 = .ok (.aload_n 0, 1) := by decide +kernel
theorem dX6_hangsIn_29 : decode cX6_hangsIn 29 = .ok (.getfield 13, 3) := by decide +kernel
theorem dX6_hangsIn_32 : decode cX6_hangsIn 32 = .ok (.invokestatic 145, 3) := by decide +kernel
theorem dX6_hangsIn_35 : decode cX6_hangsIn 35 = .ok (.invokestatic 148, 3) := by decide +kernel
theorem dX6_hangsIn_38 : decode cX6_hangsIn 38 = .ok (.iadd, 1) := by decide +kernel
theorem dX6_hangsIn_39 : decode cX6_hangsIn 39 = .ok (.istore_n 2, 1) := by decide +kernel
theorem dX6_hangsIn_40 : decode cX6_hangsIn 40 = .ok (.iinc 3 1, 3) := by decide +kernel
theorem dX6_hangsIn_43 : decode cX6_hangsIn 43 = .ok (.goto (-30), 3) := by decide +kernel
theorem dX6_hangsIn_46 : decode cX6_hangsIn 46 = .ok (.iload_n 2, 1) := by decide +kernel
theorem dX6_hangsIn_47 : decode cX6_hangsIn 47 = .ok (.ireturn, 1) := by decide +kernel
theorem dX6_hangsCalled_0 : decode cX6_hangsCalled 0 = .ok (.aload_n 0, 1) := by decide +kernel
theorem dX6_hangsCalled_1 : decode cX6_hangsCalled 1 = .ok (.getfield 9, 3) := by decide +kernel
theorem dX6_hangsCalled_4 : decode cX6_hangsCalled 4 = .ok (.aload_n 0, 1) := by decide +kernel
theorem dX6_hangsCalled_5 : decode cX6_hangsCalled 5 = .ok (.getfield 13, 3) := by decide +kernel
theorem dX6_hangsCalled_8 : decode cX6_hangsCalled 8 = .ok (.invokestatic 134, 3) := by decide +kernel
theorem dX6_hangsCalled_11 : decode cX6_hangsCalled 11 = .ok (.iconst 0, 1) := by decide +kernel
theorem dX6_hangsCalled_12 : decode cX6_hangsCalled 12 = .ok (.istore_n 3, 1) := by decide +kernel
theorem dX6_hangsCalled_13 : decode cX6_hangsCalled 13 = .ok (.iload_n 3, 1) := by decide +kernel
theorem dX6_hangsCalled_14 : decode cX6_hangsCalled 14 = .ok (.aload_n 0, 1) := by decide +kernel
theorem dX6_hangsCalled_15 : decode cX6_hangsCalled 15 = .ok (.getfield 13, 3) := by decide +kernel
theorem dX6_hangsCalled_18 : decode cX6_hangsCalled 18 = .ok (.iconst 0, 1) := by decide +kernel
theorem dX6_hangsCalled_19 : decode cX6_hangsCalled 19 = .ok (.iaload, 1) := by decide +kernel
theorem dX6_hangsCalled_20 : decode cX6_hangsCalled 20 = .ok (.if_icmp .ge 24, 3) := by decide +kernel
theorem dX6_hangsCalled_23 : decode cX6_hangsCalled 23 = .ok (.aload_n 0, 1) := by decide +kernel
theorem dX6_hangsCalled_24 : decode cX6_hangsCalled 24 = .ok (.getfield 13, 3) := by decide +kernel
theorem dX6_hangsCalled_27 : decode cX6_hangsCalled 27 = .ok (.iload_n 3, 1) := by decide +kernel
theorem dX6_hangsCalled_28 : decode cX6_hangsCalled 28 = .ok (.iconst 4, 1) := by decide +kernel
theorem dX6_hangsCalled_29 : decode cX6_hangsCalled 29 = .ok (.invokestatic 47, 3) := by decide +kernel
theorem dX6_hangsCalled_32 : decode cX6_hangsCalled 32 = .ok (.iload_n 1, 1) := by decide +kernel
theorem dX6_hangsCalled_33 : decode cX6_hangsCalled 33 = .ok (.iload_n 3, 1) := by decide +kernel
theorem dX6_hangsCalled_34 : decode cX6_hangsCalled 34 = .ok (.ishr, 1) := by decide +kernel
theorem dX6_hangsCalled_35 : decode cX6_hangsCalled 35 = .ok (.iconst 1, 1) := by decide +kernel
theorem dX6_hangsCalled_36 : decode cX6_hangsCalled 36 = .ok (.iand, 1) := by decide +kernel
theorem dX6_hangsCalled_37 : decode cX6_hangsCalled 37 = .ok (.iastore, 1) := by decide +kernel
theorem dX6_hangsCalled_38 : decode cX6_hangsCalled 38 = .ok (.iinc 3 1, 3) := by decide +kernel
theorem dX6_hangsCalled_41 : decode cX6_hangsCalled 41 = .ok (.goto (-28), 3) := by decide +kernel
theorem dX6_hangsCalled_44 : decode cX6_hangsCalled 44 = .ok (.aload_n 0, 1) := by decide +kernel
theorem dX6_hangsCalled_45 : decode cX6_hangsCalled 45 = .ok (.iload_n 2, 1) := by decide +kernel
theorem dX6_hangsCalled_46 : decode cX6_hangsCalled 46 = .ok (.invokevirtual 164, 3) := by decide +kernel
theorem dX6_hangsCalled_49 : decode cX6_hangsCalled 49 = .ok (.ireturn, 1) := by decide +kernel
theorem dX6_call_0 : decode cX6_call 0 = .ok (.iload_n 1, 1) := by decide +kernel
theorem dX6_call_1 : decode cX6_call 1 = .ok (.iconst 0, 1) := by decide +kernel
theorem dX6_call_2 : decode cX6_call 2 = .ok (.bipush 12, 2) := by decide +kernel
theorem dX6_call_4 : decode cX6_call 4 = .ok (.invokestatic 141, 3) := by decide +kernel
theorem dX6_call_7 : decode cX6_call 7 = .ok (.istore_n 2, 1) := by decide +kernel
theorem dX6_call_8 : decode cX6_call 8 = .ok (.iload_n 2, 1) := by decide +kernel
theorem dX6_call_9 : decode cX6_call 9 = .ok (.ifCond .eq 9, 3) := by decide +kernel
theorem dX6_call_12 : decode cX6_call 12 = .ok (.aload_n 0, 1) := by decide +kernel
theorem dX6_call_13 : decode cX6_call 13 = .ok (.iload_n 2, 1) := by decide +kernel
theorem dX6_call_14 : decode cX6_call 14 = .ok (.invokevirtual 39, 3) := by decide +kernel
theorem dX6_call_17 : decode cX6_call 17 = .ok (.ireturn, 1) := by decide +kernel
theorem dX6_call_18 : decode cX6_call 18 = .ok (.iconst 1, 1) := by decide +kernel
theorem dX6_call_19 : decode cX6_call 19 = .ok (.aload_n 0, 1) := by decide +kernel
theorem dX6_call_20 : decode cX6_call 20 = .ok (.getfield 9, 3) := by decide +kernel
theorem dX6_call_23 : decode cX6_call 23 = .ok (.iconst 0, 1) := by decide +kernel
theorem dX6_call_24 : decode cX6_call 24 = .ok (.iaload, 1) := by decide +kernel
theorem dX6_call_25 : decode cX6_call 25 = .ok (.ishl, 1) := by decide +kernel
theorem dX6_call_26 : decode cX6_call 26 = .ok (.iconst 1, 1) := by decide +kernel
theorem dX6_call_27 : decode cX6_call 27 = .ok (.isub, 1) := by decide +kernel
theorem dX6_call_28 : decode cX6_call 28 = .ok (.istore_n 3, 1) := by decide +kernel
theorem dX6_call_29 : decode cX6_call 29 = .ok (.aload_n 0, 1) := by decide +kernel
theorem dX6_call_30 : decode cX6_call 30 = .ok (.iload_n 3, 1) := by decide +kernel
theorem dX6_call_31 : decode cX6_call 31 = .ok (.iload_n 1, 1) := by decide +kernel
theorem dX6_call_32 : decode cX6_call 32 = .ok (.invokevirtual 167, 3) := by decide +kernel
theorem dX6_call_35 : decode cX6_call 35 = .ok (.istore 4, 2) := by decide +kernel
theorem dX6_call_37 : decode cX6_call 37 = .ok (.iload_n 3, 1) := by decide +kernel
theorem dX6_call_38 : decode cX6_call 38 = .ok (.istore 5, 2) := by decide +kernel
theorem dX6_call_40 : decode cX6_call 40 = .ok (.iconst 0, 1) := by decide +kernel
theorem dX6_call_41 : decode cX6_call 41 = .ok (.istore 6, 2) := by decide +kernel
theorem dX6_call_43 : decode cX6_call 43 = .ok (.iload 6, 2) := by decide +kernel
theorem dX6_call_45 : decode cX6_call 45 = .ok (.iload_n 3, 1) := by decide +kernel
theorem dX6_call_46 : decode cX6_call 46 = .ok (.if_icmp .gt 38, 3) := by decide +kernel
theorem dX6_call_49 : decode cX6_call 49 = .ok (.iload 6, 2) := by decide +kernel
theorem dX6_call_51 : decode cX6_call 51 = .ok (.invokestatic 148, 3) := by decide +kernel
theorem dX6_call_54 : decode cX6_call 54 = .ok (.iload 5, 2) := by decide +kernel
theorem dX6_call_56 : decode cX6_call 56 = .ok (.invokestatic 148, 3) := by decide +kernel
theorem dX6_call_59 : decode cX6_call 59 = .ok (.if_icmp .ge 19, 3) := by decide +kernel
theorem dX6_call_62 : decode cX6_call 62 = .ok (.aload_n 0, 1) := by decide +kernel
theorem dX6_call_63 : decode cX6_call 63 = .ok (.iload 6, 2) := by decide +kernel
theorem dX6_call_65 : decode cX6_call 65 = .ok (.iload_n 1, 1) := by decide +kernel
theorem dX6_call_66 : decode cX6_call 66 = .ok (.invokevirtual 167, 3) := by decide +kernel
theorem dX6_call_69 : decode cX6_call 69 = .ok (.iload 4, 2) := by decide +kernel
theorem dX6_call_71 : decode cX6_call 71 = .ok (.if_icmp .lt 7, 3) := by decide +kernel
theorem dX6_call_74 : decode cX6_call 74 = .ok (.iload 6, 2) := by decide +kernel
theorem dX6_call_76 : decode cX6_call 76 = .ok (.istore 5, 2) := by decide +kernel
theorem dX6_call_78 : decode cX6_call 78 = .ok (.iinc 6 1, 3) := by decide +kernel
theorem dX6_call_81 : decode cX6_call 81 = .ok (.goto (-38), 3) := by decide +kernel
theorem dX6_call_84 : decode cX6_call 84 = .ok (.iload 5, 2) := by decide +kernel
theorem dX6_call_86 : decode cX6_call 86 = .ok (.ireturn, 1) := by decide +kernel
theorem dX6_brings_0 : decode cX6_brings 0 = .ok (.aload_n 0, 1) := by decide +kernel
theorem dX6_brings_1 : decode cX6_brings 1 = .ok (.getfield 9, 3) := by decide +kernel
theorem dX6_brings_4 : decode cX6_brings 4 = .ok (.invokestatic 145, 3) := by decide +kernel
theorem dX6_brings_7 : decode cX6_brings 7 = .ok (.istore_n 1, 1) := by decide +kernel
theorem dX6_brings_8 : decode cX6_brings 8 = .ok (.iconst 0, 1) := by decide +kernel
theorem dX6_brings_9 : decode cX6_brings 9 = .ok (.istore_n 2, 1) := by decide +kernel
theorem dX6_brings_10 : decode cX6_brings 10 = .ok (.iload_n 2, 1) := by decide +kernel
theorem dX6_brings_11 : decode cX6_brings 11 = .ok (.aload_n 0, 1) := by decide +kernel
theorem dX6_brings_12 : decode cX6_brings 12 = .ok (.getfield 9, 3) := by decide +kernel
theorem dX6_brings_15 : decode cX6_brings 15 = .ok (.iconst 0, 1) := by decide +kernel
theorem dX6_brings_16 : decode cX6_brings 16 = .ok (.iaload, 1) := by decide +kernel
theorem dX6_brings_17 : decode cX6_brings 17 = .ok (.if_icmp .ge 42, 3) := by decide +kernel
theorem dX6_brings_20 : decode cX6_brings 20 = .ok (.aload_n 0, 1) := by decide +kernel
theorem dX6_brings_21 : decode cX6_brings 21 = .ok (.getfield 34, 3) := by decide +kernel
theorem dX6_brings_24 : decode cX6_brings 24 = .ok (.iload_n 2, 1) := by decide +kernel
theorem dX6_brings_25 : decode cX6_brings 25 = .ok (.iload_n 1, 1) := by decide +kernel
theorem dX6_brings_26 : decode cX6_brings 26 = .ok (.iload_n 2, 1) := by decide +kernel
theorem dX6_brings_27 : decode cX6_brings 27 = .ok (.invokestatic 75, 3) := by decide +kernel
theorem dX6_brings_30 : decode cX6_brings 30 = .ok (.ifCond .eq 20, 3) := by decide +kernel
theorem dX6_brings_33 : decode cX6_brings 33 = .ok (.aload_n 0, 1) := by decide +kernel
theorem dX6_brings_34 : decode cX6_brings 34 = .ok (.getfield 9, 3) := by decide +kernel
theorem dX6_brings_37 : decode cX6_brings 37 = .ok (.iload_n 2, 1) := by decide +kernel
theorem dX6_brings_38 : decode cX6_brings 38 = .ok (.bipush 99, 2) := by decide +kernel
theorem dX6_brings_40 : decode cX6_brings 40 = .ok (.invokestatic 79, 3) := by decide +kernel
theorem dX6_brings_43 : decode cX6_brings 43 = .ok (.ifCond .eq 7, 3) := by decide +kernel
theorem dX6_brings_46 : decode cX6_brings 46 = .ok (.iconst 1, 1) := by decide +kernel
theorem dX6_brings_47 : decode cX6_brings 47 = .ok (.goto 5, 3) := by decide +kernel
theorem dX6_brings_50 : decode cX6_brings 50 = .ok (.ldc 157, 2) := by decide +kernel
theorem dX6_brings_52 : decode cX6_brings 52 = .ok (.iastore, 1) := by decide +kernel
theorem dX6_brings_53 : decode cX6_brings 53 = .ok (.iinc 2 1, 3) := by decide +kernel
theorem dX6_brings_56 : decode cX6_brings 56 = .ok (.goto (-46), 3) := by decide +kernel
theorem dX6_brings_59 : decode cX6_brings 59 = .ok (.iconst 0, 1) := by decide +kernel
theorem dX6_brings_60 : decode cX6_brings 60 = .ok (.istore_n 2, 1) := by decide +kernel
theorem dX6_brings_61 : decode cX6_brings 61 = .ok (.iload_n 2, 1) := by decide +kernel
theorem dX6_brings_62 : decode cX6_brings 62 = .ok (.bipush 7, 2) := by decide +kernel
theorem dX6_brings_64 : decode cX6_brings 64 = .ok (.if_icmp .ge 107, 3) := by decide +kernel
theorem dX6_brings_67 : decode cX6_brings 67 = .ok (.iconst 0, 1) := by decide +kernel
theorem dX6_brings_68 : decode cX6_brings 68 = .ok (.istore_n 3, 1) := by decide +kernel
theorem dX6_brings_69 : decode cX6_brings 69 = .ok (.iload_n 3, 1) := by decide +kernel
theorem dX6_brings_70 : decode cX6_brings 70 = .ok (.aload_n 0, 1) := by decide +kernel
theorem dX6_brings_71 : decode cX6_brings 71 = .ok (.getfield 9, 3) := by decide +kernel
theorem dX6_brings_74 : decode cX6_brings 74 = .ok (.iconst 0, 1) := by decide +kernel
theorem dX6_brings_75 : decode cX6_brings 75 = .ok (.iaload, 1) := by decide +kernel
theorem dX6_brings_76 : decode cX6_brings 76 = .ok (.if_icmp .ge 89, 3) := by decide +kernel
theorem dX6_brings_79 : decode cX6_brings 79 = .ok (.iconst 0, 1) := by decide +kernel
theorem dX6_brings_80 : decode cX6_brings 80 = .ok (.istore 4, 2) := by decide +kernel
theorem dX6_brings_82 : decode cX6_brings 82 = .ok (.iload 4, 2) := by decide +kernel
theorem dX6_brings_84 : decode cX6_brings 84 = .ok (.aload_n 0, 1) := by decide +kernel
theorem dX6_brings_85 : decode cX6_brings 85 = .ok (.getfield 9, 3) := by decide +kernel
theorem dX6_brings_88 : decode cX6_brings 88 = .ok (.iconst 0, 1) := by decide +kernel
theorem dX6_brings_89 : decode cX6_brings 89 = .ok (.iaload, 1) := by decide +kernel
theorem dX6_brings_90 : decode cX6_brings 90 = .ok (.if_icmp .ge 69, 3) := by decide +kernel
theorem dX6_brings_93 : decode cX6_brings 93 = .ok (.iload_n 1, 1) := by decide +kernel
theorem dX6_brings_94 : decode cX6_brings 94 = .ok (.iload_n 3, 1) := by decide +kernel
theorem dX6_brings_95 : decode cX6_brings 95 = .ok (.invokestatic 75, 3) := by decide +kernel
theorem dX6_brings_98 : decode cX6_brings 98 = .ok (.ifCond .eq 55, 3) := by decide +kernel
theorem dX6_brings_101 : decode cX6_brings 101 = .ok (.iload_n 1, 1) := by decide +kernel
theorem dX6_brings_102 : decode cX6_brings 102 = .ok (.iload 4, 2) := by decide +kernel
theorem dX6_brings_104 : decode cX6_brings 104 = .ok (.invokestatic 75, 3) := by decide +kernel
theorem dX6_brings_107 : decode cX6_brings 107 = .ok (.ifCond .eq 46, 3) := by decide +kernel
theorem dX6_brings_110 : decode cX6_brings 110 = .ok (.iload_n 3, 1) := by decide +kernel
theorem dX6_brings_111 : decode cX6_brings 111 = .ok (.iload 4, 2) := by decide +kernel
theorem dX6_brings_113 : decode cX6_brings 113 = .ok (.if_icmp .eq 40, 3) := by decide +kernel
theorem dX6_brings_116 : decode cX6_brings 116 = .ok (.aload_n 0, 1) := by decide +kernel
theorem dX6_brings_117 : decode cX6_brings 117 = .ok (.getfield 9, 3) := by decide +kernel
theorem dX6_brings_120 : decode cX6_brings 120 = .ok (.iload_n 3, 1) := by decide +kernel
theorem dX6_brings_121 : decode cX6_brings 121 = .ok (.iload 4, 2) := by decide +kernel
theorem dX6_brings_123 : decode cX6_brings 123 = .ok (.invokestatic 79, 3) := by decide +kernel
theorem dX6_brings_126 : decode cX6_brings 126 = .ok (.ifCond .eq 27, 3) := by decide +kernel
theorem dX6_brings_129 : decode cX6_brings 129 = .ok (.aload_n 0, 1) := by decide +kernel
theorem dX6_brings_130 : decode cX6_brings 130 = .ok (.getfield 34, 3) := by decide +kernel
theorem dX6_brings_133 : decode cX6_brings 133 = .ok (.iload_n 3, 1) := by decide +kernel
theorem dX6_brings_134 : decode cX6_brings 134 = .ok (.aload_n 0, 1) := by decide +kernel
theorem dX6_brings_135 : decode cX6_brings 135 = .ok (.getfield 34, 3) := by decide +kernel
theorem dX6_brings_138 : decode cX6_brings 138 = .ok (.iload_n 3, 1) := by decide +kernel
theorem dX6_brings_139 : decode cX6_brings 139 = .ok (.iaload, 1) := by decide +kernel
theorem dX6_brings_140 : decode cX6_brings 140 = .ok (.aload_n 0, 1) := by decide +kernel
theorem dX6_brings_141 : decode cX6_brings 141 = .ok (.getfield 34, 3) := by decide +kernel
theorem dX6_brings_144 : decode cX6_brings 144 = .ok (.iload 4, 2) := by decide +kernel
theorem dX6_brings_146 : decode cX6_brings 146 = .ok (.iaload, 1) := by decide +kernel
theorem dX6_brings_147 : decode cX6_brings 147 = .ok (.iconst 1, 1) := by decide +kernel
theorem dX6_brings_148 : decode cX6_brings 148 = .ok (.iadd, 1) := by decide +kernel
theorem dX6_brings_149 : decode cX6_brings 149 = .ok (.invokestatic 125, 3) := by decide +kernel
theorem dX6_brings_152 : decode cX6_brings 152 = .ok (.iastore, 1) := by decide +kernel
theorem dX6_brings_153 : decode cX6_brings 153 = .ok (.iinc 4 1, 3) := by decide +kernel
theorem dX6_brings_156 : decode cX6_brings 156 = .ok (.goto (-74), 3) := by decide +kernel
theorem dX6_brings_159 : decode cX6_brings 159 = .ok (.iinc 3 1, 3) := by decide +kernel
theorem dX6_brings_162 : decode cX6_brings 162 = .ok (.goto (-93), 3) := by decide +kernel
theorem dX6_brings_165 : decode cX6_brings 165 = .ok (.iinc 2 1, 3) := by decide +kernel
theorem dX6_brings_168 : decode cX6_brings 168 = .ok (.goto (-107), 3) := by decide +kernel
theorem dX6_brings_171 : decode cX6_brings 171 = .ok (.return_, 1) := by decide +kernel
theorem dX6_nextOf_0 : decode cX6_nextOf 0 = .ok (.aload_n 0, 1) := by decide +kernel
theorem dX6_nextOf_1 : decode cX6_nextOf 1 = .ok (.getfield 34, 3) := by decide +kernel
theorem dX6_nextOf_4 : decode cX6_nextOf 4 = .ok (.iload_n 1, 1) := by decide +kernel
theorem dX6_nextOf_5 : decode cX6_nextOf 5 = .ok (.iaload, 1) := by decide +kernel
theorem dX6_nextOf_6 : decode cX6_nextOf 6 = .ok (.iconst 1, 1) := by decide +kernel
theorem dX6_nextOf_7 : decode cX6_nextOf 7 = .ok (.if_icmp .ne 6, 3) := by decide +kernel
theorem dX6_nextOf_10 : decode cX6_nextOf 10 = .ok (.bipush 7, 2) := by decide +kernel
theorem dX6_nextOf_12 : decode cX6_nextOf 12 = .ok (.ireturn, 1) := by decide +kernel
theorem dX6_nextOf_13 : decode cX6_nextOf 13 = .ok (.iconst 0, 1) := by decide +kernel
theorem dX6_nextOf_14 : decode cX6_nextOf 14 = .ok (.istore_n 2, 1) := by decide +kernel
theorem dX6_nextOf_15 : decode cX6_nextOf 15 = .ok (.iload_n 2, 1) := by decide +kernel
theorem dX6_nextOf_16 : decode cX6_nextOf 16 = .ok (.aload_n 0, 1) := by decide +kernel
theorem dX6_nextOf_17 : decode cX6_nextOf 17 = .ok (.getfield 9, 3) := by decide +kernel
theorem dX6_nextOf_20 : decode cX6_nextOf 20 = .ok (.iconst 0, 1) := by decide +kernel
theorem dX6_nextOf_21 : decode cX6_nextOf 21 = .ok (.iaload, 1) := by decide +kernel
theorem dX6_nextOf_22 : decode cX6_nextOf 22 = .ok (.if_icmp .ge 45, 3) := by decide +kernel
theorem dX6_nextOf_25 : decode cX6_nextOf 25 = .ok (.iload_n 2, 1) := by decide +kernel
theorem dX6_nextOf_26 : decode cX6_nextOf 26 = .ok (.iload_n 1, 1) := by decide +kernel
theorem dX6_nextOf_27 : decode cX6_nextOf 27 = .ok (.if_icmp .eq 34, 3) := by decide +kernel
theorem dX6_nextOf_30 : decode cX6_nextOf 30 = .ok (.aload_n 0, 1) := by decide +kernel
theorem dX6_nextOf_31 : decode cX6_nextOf 31 = .ok (.getfield 34, 3) := by decide +kernel
theorem dX6_nextOf_34 : decode cX6_nextOf 34 = .ok (.iload_n 2, 1) := by decide +kernel
theorem dX6_nextOf_35 : decode cX6_nextOf 35 = .ok (.iaload, 1) := by decide +kernel
theorem dX6_nextOf_36 : decode cX6_nextOf 36 = .ok (.aload_n 0, 1) := by decide +kernel
theorem dX6_nextOf_37 : decode cX6_nextOf 37 = .ok (.getfield 34, 3) := by decide +kernel
theorem dX6_nextOf_40 : decode cX6_nextOf 40 = .ok (.iload_n 1, 1) := by decide +kernel
theorem dX6_nextOf_41 : decode cX6_nextOf 41 = .ok (.iaload, 1) := by decide +kernel
theorem dX6_nextOf_42 : decode cX6_nextOf 42 = .ok (.iconst 1, 1) := by decide +kernel
theorem dX6_nextOf_43 : decode cX6_nextOf 43 = .ok (.isub, 1) := by decide +kernel
theorem dX6_nextOf_44 : decode cX6_nextOf 44 = .ok (.if_icmp .ne 17, 3) := by decide +kernel
theorem dX6_nextOf_47 : decode cX6_nextOf 47 = .ok (.aload_n 0, 1) := by decide +kernel
theorem dX6_nextOf_48 : decode cX6_nextOf 48 = .ok (.getfield 9, 3) := by decide +kernel
theorem dX6_nextOf_51 : decode cX6_nextOf 51 = .ok (.iload_n 1, 1) := by decide +kernel
theorem dX6_nextOf_52 : decode cX6_nextOf 52 = .ok (.iload_n 2, 1) := by decide +kernel
theorem dX6_nextOf_53 : decode cX6_nextOf 53 = .ok (.invokestatic 79, 3) := by decide +kernel
theorem dX6_nextOf_56 : decode cX6_nextOf 56 = .ok (.ifCond .eq 5, 3) := by decide +kernel
theorem dX6_nextOf_59 : decode cX6_nextOf 59 = .ok (.iload_n 2, 1) := by decide +kernel
theorem dX6_nextOf_60 : decode cX6_nextOf 60 = .ok (.ireturn, 1) := by decide +kernel
theorem dX6_nextOf_61 : decode cX6_nextOf 61 = .ok (.iinc 2 1, 3) := by decide +kernel
theorem dX6_nextOf_64 : decode cX6_nextOf 64 = .ok (.goto (-49), 3) := by decide +kernel
theorem dX6_nextOf_67 : decode cX6_nextOf 67 = .ok (.bipush (-9), 2) := by decide +kernel
theorem dX6_nextOf_69 : decode cX6_nextOf 69 = .ok (.ireturn, 1) := by decide +kernel
theorem dX6_news_0 : decode cX6_news 0 = .ok (.aload_n 0, 1) := by decide +kernel
theorem dX6_news_1 : decode cX6_news 1 = .ok (.iload_n 1, 1) := by decide +kernel
theorem dX6_news_2 : decode cX6_news 2 = .ok (.invokevirtual 122, 3) := by decide +kernel
theorem dX6_news_5 : decode cX6_news 5 = .ok (.ifCond .ne 9, 3) := by decide +kernel
theorem dX6_news_8 : decode cX6_news 8 = .ok (.aload_n 0, 1) := by decide +kernel
theorem dX6_news_9 : decode cX6_news 9 = .ok (.iconst (-1), 1) := by decide +kernel
theorem dX6_news_10 : decode cX6_news 10 = .ok (.invokevirtual 39, 3) := by decide +kernel
theorem dX6_news_13 : decode cX6_news 13 = .ok (.ireturn, 1) := by decide +kernel
theorem dX6_news_14 : decode cX6_news 14 = .ok (.iload_n 2, 1) := by decide +kernel
theorem dX6_news_15 : decode cX6_news 15 = .ok (.iconst 0, 1) := by decide +kernel
theorem dX6_news_16 : decode cX6_news 16 = .ok (.iconst 1, 1) := by decide +kernel
theorem dX6_news_17 : decode cX6_news 17 = .ok (.invokestatic 43, 3) := by decide +kernel
theorem dX6_news_20 : decode cX6_news 20 = .ok (.ifCond .ne 10, 3) := by decide +kernel
theorem dX6_news_23 : decode cX6_news 23 = .ok (.aload_n 0, 1) := by decide +kernel
theorem dX6_news_24 : decode cX6_news 24 = .ok (.bipush (-2), 2) := by decide +kernel
theorem dX6_news_26 : decode cX6_news 26 = .ok (.invokevirtual 39, 3) := by decide +kernel
theorem dX6_news_29 : decode cX6_news 29 = .ok (.ireturn, 1) := by decide +kernel
theorem dX6_news_30 : decode cX6_news 30 = .ok (.aload_n 0, 1) := by decide +kernel
theorem dX6_news_31 : decode cX6_news 31 = .ok (.invokevirtual 170, 3) := by decide +kernel
theorem dX6_news_34 : decode cX6_news 34 = .ok (.aload_n 0, 1) := by decide +kernel
theorem dX6_news_35 : decode cX6_news 35 = .ok (.getfield 34, 3) := by decide +kernel
theorem dX6_news_38 : decode cX6_news 38 = .ok (.iload_n 1, 1) := by decide +kernel
theorem dX6_news_39 : decode cX6_news 39 = .ok (.iaload, 1) := by decide +kernel
theorem dX6_news_40 : decode cX6_news 40 = .ok (.ldc 157, 2) := by decide +kernel
theorem dX6_news_42 : decode cX6_news 42 = .ok (.if_icmp .lt 6, 3) := by decide +kernel
theorem dX6_news_45 : decode cX6_news 45 = .ok (.bipush (-9), 2) := by decide +kernel
theorem dX6_news_47 : decode cX6_news 47 = .ok (.ireturn, 1) := by decide +kernel
theorem dX6_news_48 : decode cX6_news 48 = .ok (.iload_n 2, 1) := by decide +kernel
theorem dX6_news_49 : decode cX6_news 49 = .ok (.ifCond .ne 12, 3) := by decide +kernel
theorem dX6_news_52 : decode cX6_news 52 = .ok (.aload_n 0, 1) := by decide +kernel
theorem dX6_news_53 : decode cX6_news 53 = .ok (.getfield 34, 3) := by decide +kernel
theorem dX6_news_56 : decode cX6_news 56 = .ok (.iload_n 1, 1) := by decide +kernel
theorem dX6_news_57 : decode cX6_news 57 = .ok (.iaload, 1) := by decide +kernel
theorem dX6_news_58 : decode cX6_news 58 = .ok (.goto 8, 3) := by decide +kernel
theorem dX6_news_61 : decode cX6_news 61 = .ok (.aload_n 0, 1) := by decide +kernel
theorem dX6_news_62 : decode cX6_news 62 = .ok (.iload_n 1, 1) := by decide +kernel
theorem dX6_news_63 : decode cX6_news 63 = .ok (.invokevirtual 173, 3) := by decide +kernel
theorem dX6_news_66 : decode cX6_news 66 = .ok (.ireturn, 1) := by decide +kernel
theorem dX6_farthest_0 : decode cX6_farthest 0 = .ok (.aload_n 0, 1) := by decide +kernel
theorem dX6_farthest_1 : decode cX6_farthest 1 = .ok (.invokevirtual 170, 3) := by decide +kernel
theorem dX6_farthest_4 : decode cX6_farthest 4 = .ok (.bipush (-9), 2) := by decide +kernel
theorem dX6_farthest_6 : decode cX6_farthest 6 = .ok (.istore_n 1, 1) := by decide +kernel
theorem dX6_farthest_7 : decode cX6_farthest 7 = .ok (.iconst 0, 1) := by decide +kernel
theorem dX6_farthest_8 : decode cX6_farthest 8 = .ok (.istore_n 2, 1) := by decide +kernel
theorem dX6_farthest_9 : decode cX6_farthest 9 = .ok (.iload_n 2, 1) := by decide +kernel
theorem dX6_farthest_10 : decode cX6_farthest 10 = .ok (.aload_n 0, 1) := by decide +kernel
theorem dX6_farthest_11 : decode cX6_farthest 11 = .ok (.getfield 9, 3) := by decide +kernel
theorem dX6_farthest_14 : decode cX6_farthest 14 = .ok (.iconst 0, 1) := by decide +kernel
theorem dX6_farthest_15 : decode cX6_farthest 15 = .ok (.iaload, 1) := by decide +kernel
theorem dX6_farthest_16 : decode cX6_farthest 16 = .ok (.if_icmp .ge 41, 3) := by decide +kernel
theorem dX6_farthest_19 : decode cX6_farthest 19 = .ok (.aload_n 0, 1) := by decide +kernel
theorem dX6_farthest_20 : decode cX6_farthest 20 = .ok (.getfield 34, 3) := by decide +kernel
theorem dX6_farthest_23 : decode cX6_farthest 23 = .ok (.iload_n 2, 1) := by decide +kernel
theorem dX6_farthest_24 : decode cX6_farthest 24 = .ok (.iaload, 1) := by decide +kernel
theorem dX6_farthest_25 : decode cX6_farthest 25 = .ok (.ldc 157, 2) := by decide +kernel
theorem dX6_farthest_27 : decode cX6_farthest 27 = .ok (.if_icmp .ge 24, 3) := by decide +kernel
theorem dX6_farthest_30 : decode cX6_farthest 30 = .ok (.iload_n 1, 1) := by decide +kernel
theorem dX6_farthest_31 : decode cX6_farthest 31 = .ok (.ifCond .lt 18, 3) := by decide +kernel
theorem dX6_farthest_34 : decode cX6_farthest 34 = .ok (.aload_n 0, 1) := by decide +kernel
theorem dX6_farthest_35 : decode cX6_farthest 35 = .ok (.getfield 34, 3) := by decide +kernel
theorem dX6_farthest_38 : decode cX6_farthest 38 = .ok (.iload_n 2, 1) := by decide +kernel
theorem dX6_farthest_39 : decode cX6_farthest 39 = .ok (.iaload, 1) := by decide +kernel
theorem dX6_farthest_40 : decode cX6_farthest 40 = .ok (.aload_n 0, 1) := by decide +kernel
theorem dX6_farthest_41 : decode cX6_farthest 41 = .ok (.getfield 34, 3) := by decide +kernel
theorem dX6_farthest_44 : decode cX6_farthest 44 = .ok (.iload_n 1, 1) := by decide +kernel
theorem dX6_farthest_45 : decode cX6_farthest 45 = .ok (.iaload, 1) := by decide +kernel
theorem dX6_farthest_46 : decode cX6_farthest 46 = .ok (.if_icmp .le 5, 3) := by decide +kernel
theorem dX6_farthest_49 : decode cX6_farthest 49 = .ok (.iload_n 2, 1) := by decide +kernel
theorem dX6_farthest_50 : decode cX6_farthest 50 = .ok (.istore_n 1, 1) := by decide +kernel
theorem dX6_farthest_51 : decode cX6_farthest 51 = .ok (.iinc 2 1, 3) := by decide +kernel
theorem dX6_farthest_54 : decode cX6_farthest 54 = .ok (.goto (-45), 3) := by decide +kernel
theorem dX6_farthest_57 : decode cX6_farthest 57 = .ok (.iload_n 1, 1) := by decide +kernel
theorem dX6_farthest_58 : decode cX6_farthest 58 = .ok (.ireturn, 1) := by decide +kernel
theorem dX6_spend_0 : decode cX6_spend 0 = .ok (.iload_n 1, 1) := by decide +kernel
theorem dX6_spend_1 : decode cX6_spend 1 = .ok (.iconst 0, 1) := by decide +kernel
theorem dX6_spend_2 : decode cX6_spend 2 = .ok (.bipush 60, 2) := by decide +kernel
theorem dX6_spend_4 : decode cX6_spend 4 = .ok (.invokestatic 141, 3) := by decide +kernel
theorem dX6_spend_7 : decode cX6_spend 7 = .ok (.istore_n 2, 1) := by decide +kernel
theorem dX6_spend_8 : decode cX6_spend 8 = .ok (.iload_n 2, 1) := by decide +kernel
theorem dX6_spend_9 : decode cX6_spend 9 = .ok (.ifCond .eq 11, 3) := by decide +kernel
theorem dX6_spend_12 : decode cX6_spend 12 = .ok (.aload_n 0, 1) := by decide +kernel
theorem dX6_spend_13 : decode cX6_spend 13 = .ok (.iload_n 2, 1) := by decide +kernel
theorem dX6_spend_14 : decode cX6_spend 14 = .ok (.invokevirtual 39, 3) := by decide +kernel
theorem dX6_spend_17 : decode cX6_spend 17 = .ok (.goto 8, 3) := by decide +kernel
theorem dX6_spend_20 : decode cX6_spend 20 = .ok (.aload_n 0, 1) := by decide +kernel
theorem dX6_spend_21 : decode cX6_spend 21 = .ok (.iload_n 1, 1) := by decide +kernel
theorem dX6_spend_22 : decode cX6_spend 22 = .ok (.invokevirtual 151, 3) := by decide +kernel
theorem dX6_spend_25 : decode cX6_spend 25 = .ok (.ireturn, 1) := by decide +kernel
theorem dX6_share_0 : decode cX6_share 0 = .ok (.iload_n 1, 1) := by decide +kernel
theorem dX6_share_1 : decode cX6_share 1 = .ok (.iconst 0, 1) := by decide +kernel
theorem dX6_share_2 : decode cX6_share 2 = .ok (.bipush 30, 2) := by decide +kernel
theorem dX6_share_4 : decode cX6_share 4 = .ok (.invokestatic 141, 3) := by decide +kernel
theorem dX6_share_7 : decode cX6_share 7 = .ok (.istore_n 2, 1) := by decide +kernel
theorem dX6_share_8 : decode cX6_share 8 = .ok (.iload_n 2, 1) := by decide +kernel
theorem dX6_share_9 : decode cX6_share 9 = .ok (.ifCond .eq 9, 3) := by decide +kernel
theorem dX6_share_12 : decode cX6_share 12 = .ok (.aload_n 0, 1) := by decide +kernel
theorem dX6_share_13 : decode cX6_share 13 = .ok (.iload_n 2, 1) := by decide +kernel
theorem dX6_share_14 : decode cX6_share 14 = .ok (.invokevirtual 39, 3) := by decide +kernel
theorem dX6_share_17 : decode cX6_share 17 = .ok (.ireturn, 1) := by decide +kernel
theorem dX6_share_18 : decode cX6_share 18 = .ok (.aload_n 0, 1) := by decide +kernel
theorem dX6_share_19 : decode cX6_share 19 = .ok (.getfield 9, 3) := by decide +kernel
theorem dX6_share_22 : decode cX6_share 22 = .ok (.aload_n 0, 1) := by decide +kernel
theorem dX6_share_23 : decode cX6_share 23 = .ok (.getfield 13, 3) := by decide +kernel
theorem dX6_share_26 : decode cX6_share 26 = .ok (.invokestatic 134, 3) := by decide +kernel
theorem dX6_share_29 : decode cX6_share 29 = .ok (.aload_n 0, 1) := by decide +kernel
theorem dX6_share_30 : decode cX6_share 30 = .ok (.iload_n 1, 1) := by decide +kernel
theorem dX6_share_31 : decode cX6_share 31 = .ok (.invokevirtual 164, 3) := by decide +kernel
theorem dX6_share_34 : decode cX6_share 34 = .ok (.istore_n 3, 1) := by decide +kernel
theorem dX6_share_35 : decode cX6_share 35 = .ok (.bipush (-9), 2) := by decide +kernel
theorem dX6_share_37 : decode cX6_share 37 = .ok (.istore 4, 2) := by decide +kernel
theorem dX6_share_39 : decode cX6_share 39 = .ok (.iconst 0, 1) := by decide +kernel
theorem dX6_share_40 : decode cX6_share 40 = .ok (.istore 5, 2) := by decide +kernel
theorem dX6_share_42 : decode cX6_share 42 = .ok (.iload 5, 2) := by decide +kernel
theorem dX6_share_44 : decode cX6_share 44 = .ok (.aload_n 0, 1) := by decide +kernel
theorem dX6_share_45 : decode cX6_share 45 = .ok (.getfield 9, 3) := by decide +kernel
theorem dX6_share_48 : decode cX6_share 48 = .ok (.iconst 0, 1) := by decide +kernel
theorem dX6_share_49 : decode cX6_share 49 = .ok (.iaload, 1) := by decide +kernel
theorem dX6_share_50 : decode cX6_share 50 = .ok (.if_icmp .ge 58, 3) := by decide +kernel
theorem dX6_share_53 : decode cX6_share 53 = .ok (.aload_n 0, 1) := by decide +kernel
theorem dX6_share_54 : decode cX6_share 54 = .ok (.getfield 9, 3) := by decide +kernel
theorem dX6_share_57 : decode cX6_share 57 = .ok (.aload_n 0, 1) := by decide +kernel
theorem dX6_share_58 : decode cX6_share 58 = .ok (.getfield 13, 3) := by decide +kernel
theorem dX6_share_61 : decode cX6_share 61 = .ok (.invokestatic 134, 3) := by decide +kernel
theorem dX6_share_64 : decode cX6_share 64 = .ok (.aload_n 0, 1) := by decide +kernel
theorem dX6_share_65 : decode cX6_share 65 = .ok (.getfield 13, 3) := by decide +kernel
theorem dX6_share_68 : decode cX6_share 68 = .ok (.iload 5, 2) := by decide +kernel
theorem dX6_share_70 : decode cX6_share 70 = .ok (.iconst 3, 1) := by decide +kernel
theorem dX6_share_71 : decode cX6_share 71 = .ok (.invokestatic 47, 3) := by decide +kernel
theorem dX6_share_74 : decode cX6_share 74 = .ok (.dup2, 1) := by decide +kernel
theorem dX6_share_75 : decode cX6_share 75 = .ok (.iaload, 1) := by decide +kernel
theorem dX6_share_76 : decode cX6_share 76 = .ok (.iconst 1, 1) := by decide +kernel
theorem dX6_share_77 : decode cX6_share 77 = .ok (.iadd, 1) := by decide +kernel
theorem dX6_share_78 : decode cX6_share 78 = .ok (.iastore, 1) := by decide +kernel
theorem dX6_share_79 : decode cX6_share 79 = .ok (.aload_n 0, 1) := by decide +kernel
theorem dX6_share_80 : decode cX6_share 80 = .ok (.iload_n 1, 1) := by decide +kernel
theorem dX6_share_81 : decode cX6_share 81 = .ok (.invokevirtual 164, 3) := by decide +kernel
theorem dX6_share_84 : decode cX6_share 84 = .ok (.istore 6, 2) := by decide +kernel
theorem dX6_share_86 : decode cX6_share 86 = .ok (.iload 6, 2) := by decide +kernel
theorem dX6_share_88 : decode cX6_share 88 = .ok (.iload_n 3, 1) := by decide +kernel
theorem dX6_share_89 : decode cX6_share 89 = .ok (.if_icmp .gt 6, 3) := by decide +kernel
theorem dX6_share_92 : decode cX6_share 92 = .ok (.goto 10, 3) := by decide +kernel
theorem dX6_share_95 : decode cX6_share 95 = .ok (.iload 5, 2) := by decide +kernel
theorem dX6_share_97 : decode cX6_share 97 = .ok (.istore 4, 2) := by decide +kernel
theorem dX6_share_99 : decode cX6_share 99 = .ok (.iload 6, 2) := by decide +kernel
theorem dX6_share_101 : decode cX6_share 101 = .ok (.istore_n 3, 1) := by decide +kernel
theorem dX6_share_102 : decode cX6_share 102 = .ok (.iinc 5 1, 3) := by decide +kernel
theorem dX6_share_105 : decode cX6_share 105 = .ok (.goto (-63), 3) := by decide +kernel
theorem dX6_share_108 : decode cX6_share 108 = .ok (.iload 4, 2) := by decide +kernel
theorem dX6_share_110 : decode cX6_share 110 = .ok (.ireturn, 1) := by decide +kernel
theorem dX6_longest_0 : decode cX6_longest 0 = .ok (.iload_n 1, 1) := by decide +kernel
theorem dX6_longest_1 : decode cX6_longest 1 = .ok (.iconst 0, 1) := by decide +kernel
theorem dX6_longest_2 : decode cX6_longest 2 = .ok (.bipush 60, 2) := by decide +kernel
theorem dX6_longest_4 : decode cX6_longest 4 = .ok (.invokestatic 141, 3) := by decide +kernel
theorem dX6_longest_7 : decode cX6_longest 7 = .ok (.istore_n 2, 1) := by decide +kernel
theorem dX6_longest_8 : decode cX6_longest 8 = .ok (.iload_n 2, 1) := by decide +kernel
theorem dX6_longest_9 : decode cX6_longest 9 = .ok (.ifCond .eq 9, 3) := by decide +kernel
theorem dX6_longest_12 : decode cX6_longest 12 = .ok (.aload_n 0, 1) := by decide +kernel
theorem dX6_longest_13 : decode cX6_longest 13 = .ok (.iload_n 2, 1) := by decide +kernel
theorem dX6_longest_14 : decode cX6_longest 14 = .ok (.invokevirtual 39, 3) := by decide +kernel
theorem dX6_longest_17 : decode cX6_longest 17 = .ok (.ireturn, 1) := by decide +kernel
theorem dX6_longest_18 : decode cX6_longest 18 = .ok (.aload_n 0, 1) := by decide +kernel
theorem dX6_longest_19 : decode cX6_longest 19 = .ok (.getfield 9, 3) := by decide +kernel
theorem dX6_longest_22 : decode cX6_longest 22 = .ok (.aload_n 0, 1) := by decide +kernel
theorem dX6_longest_23 : decode cX6_longest 23 = .ok (.getfield 13, 3) := by decide +kernel
theorem dX6_longest_26 : decode cX6_longest 26 = .ok (.invokestatic 134, 3) := by decide +kernel
theorem dX6_longest_29 : decode cX6_longest 29 = .ok (.aload_n 0, 1) := by decide +kernel
theorem dX6_longest_30 : decode cX6_longest 30 = .ok (.getfield 13, 3) := by decide +kernel
theorem dX6_longest_33 : decode cX6_longest 33 = .ok (.invokestatic 145, 3) := by decide +kernel
theorem dX6_longest_36 : decode cX6_longest 36 = .ok (.invokestatic 148, 3) := by decide +kernel
theorem dX6_longest_39 : decode cX6_longest 39 = .ok (.istore_n 3, 1) := by decide +kernel
theorem dX6_longest_40 : decode cX6_longest 40 = .ok (.iconst 0, 1) := by decide +kernel
theorem dX6_longest_41 : decode cX6_longest 41 = .ok (.istore 4, 2) := by decide +kernel
theorem dX6_longest_43 : decode cX6_longest 43 = .ok (.iload 4, 2) := by decide +kernel
theorem dX6_longest_45 : decode cX6_longest 45 = .ok (.iload_n 1, 1) := by decide +kernel
theorem dX6_longest_46 : decode cX6_longest 46 = .ok (.if_icmp .ge 47, 3) := by decide +kernel
theorem dX6_longest_49 : decode cX6_longest 49 = .ok (.aload_n 0, 1) := by decide +kernel
theorem dX6_longest_50 : decode cX6_longest 50 = .ok (.getfield 13, 3) := by decide +kernel
theorem dX6_longest_53 : decode cX6_longest 53 = .ok (.invokestatic 90, 3) := by decide +kernel
theorem dX6_longest_56 : decode cX6_longest 56 = .ok (.istore 5, 2) := by decide +kernel
theorem dX6_longest_58 : decode cX6_longest 58 = .ok (.aload_n 0, 1) := by decide +kernel
theorem dX6_longest_59 : decode cX6_longest 59 = .ok (.getfield 13, 3) := by decide +kernel
theorem dX6_longest_62 : decode cX6_longest 62 = .ok (.invokestatic 145, 3) := by decide +kernel
theorem dX6_longest_65 : decode cX6_longest 65 = .ok (.invokestatic 148, 3) := by decide +kernel
theorem dX6_longest_68 : decode cX6_longest 68 = .ok (.iload_n 3, 1) := by decide +kernel
theorem dX6_longest_69 : decode cX6_longest 69 = .ok (.if_icmp .le 16, 3) := by decide +kernel
theorem dX6_longest_72 : decode cX6_longest 72 = .ok (.aload_n 0, 1) := by decide +kernel
theorem dX6_longest_73 : decode cX6_longest 73 = .ok (.getfield 13, 3) := by decide +kernel
theorem dX6_longest_76 : decode cX6_longest 76 = .ok (.invokestatic 145, 3) := by decide +kernel
theorem dX6_longest_79 : decode cX6_longest 79 = .ok (.invokestatic 148, 3) := by decide +kernel
theorem dX6_longest_82 : decode cX6_longest 82 = .ok (.goto 4, 3) := by decide +kernel
theorem dX6_longest_85 : decode cX6_longest 85 = .ok (.iload_n 3, 1) := by decide +kernel
theorem dX6_longest_86 : decode cX6_longest 86 = .ok (.istore_n 3, 1) := by decide +kernel
theorem dX6_longest_87 : decode cX6_longest 87 = .ok (.iinc 4 1, 3) := by decide +kernel
theorem dX6_longest_90 : decode cX6_longest 90 = .ok (.goto (-47), 3) := by decide +kernel
theorem dX6_longest_93 : decode cX6_longest 93 = .ok (.iload_n 3, 1) := by decide +kernel
theorem dX6_longest_94 : decode cX6_longest 94 = .ok (.ireturn, 1) := by decide +kernel
theorem dX6_fogged_0 : decode cX6_fogged 0 = .ok (.iconst 0, 1) := by decide +kernel
theorem dX6_fogged_1 : decode cX6_fogged 1 = .ok (.istore_n 1, 1) := by decide +kernel
theorem dX6_fogged_2 : decode cX6_fogged 2 = .ok (.iload_n 1, 1) := by decide +kernel
theorem dX6_fogged_3 : decode cX6_fogged 3 = .ok (.bipush 10, 2) := by decide +kernel
theorem dX6_fogged_5 : decode cX6_fogged 5 = .ok (.if_icmp .ge 39, 3) := by decide +kernel
theorem dX6_fogged_8 : decode cX6_fogged 8 = .ok (.aload_n 0, 1) := by decide +kernel
theorem dX6_fogged_9 : decode cX6_fogged 9 = .ok (.getfield 9, 3) := by decide +kernel
theorem dX6_fogged_12 : decode cX6_fogged 12 = .ok (.aload_n 0, 1) := by decide +kernel
theorem dX6_fogged_13 : decode cX6_fogged 13 = .ok (.getfield 13, 3) := by decide +kernel
theorem dX6_fogged_16 : decode cX6_fogged 16 = .ok (.invokestatic 134, 3) := by decide +kernel
theorem dX6_fogged_19 : decode cX6_fogged 19 = .ok (.aload_n 0, 1) := by decide +kernel
theorem dX6_fogged_20 : decode cX6_fogged 20 = .ok (.getfield 13, 3) := by decide +kernel
theorem dX6_fogged_23 : decode cX6_fogged 23 = .ok (.iconst 2, 1) := by decide +kernel
theorem dX6_fogged_24 : decode cX6_fogged 24 = .ok (.iload_n 1, 1) := by decide +kernel
theorem dX6_fogged_25 : decode cX6_fogged 25 = .ok (.iastore, 1) := by decide +kernel
theorem dX6_fogged_26 : decode cX6_fogged 26 = .ok (.aload_n 0, 1) := by decide +kernel
theorem dX6_fogged_27 : decode cX6_fogged 27 = .ok (.getfield 13, 3) := by decide +kernel
theorem dX6_fogged_30 : decode cX6_fogged 30 = .ok (.invokestatic 145, 3) := by decide +kernel
theorem dX6_fogged_33 : decode cX6_fogged 33 = .ok (.ifCond .ne 5, 3) := by decide +kernel
theorem dX6_fogged_36 : decode cX6_fogged 36 = .ok (.iload_n 1, 1) := by decide +kernel
theorem dX6_fogged_37 : decode cX6_fogged 37 = .ok (.ireturn, 1) := by decide +kernel
theorem dX6_fogged_38 : decode cX6_fogged 38 = .ok (.iinc 1 1, 3) := by decide +kernel
theorem dX6_fogged_41 : decode cX6_fogged 41 = .ok (.goto (-39), 3) := by decide +kernel
theorem dX6_fogged_44 : decode cX6_fogged 44 = .ok (.bipush (-9), 2) := by decide +kernel
theorem dX6_fogged_46 : decode cX6_fogged 46 = .ok (.ireturn, 1) := by decide +kernel
theorem dX6_highest_0 : decode cX6_highest 0 = .ok (.iconst 0, 1) := by decide +kernel
theorem dX6_highest_1 : decode cX6_highest 1 = .ok (.istore_n 1, 1) := by decide +kernel
theorem dX6_highest_2 : decode cX6_highest 2 = .ok (.iconst 0, 1) := by decide +kernel
theorem dX6_highest_3 : decode cX6_highest 3 = .ok (.istore_n 2, 1) := by decide +kernel
theorem dX6_highest_4 : decode cX6_highest 4 = .ok (.iload_n 2, 1) := by decide +kernel
theorem dX6_highest_5 : decode cX6_highest 5 = .ok (.bipush 20, 2) := by decide +kernel
theorem dX6_highest_7 : decode cX6_highest 7 = .ok (.if_icmp .ge 30, 3) := by decide +kernel
theorem dX6_highest_10 : decode cX6_highest 10 = .ok (.aload_n 0, 1) := by decide +kernel
theorem dX6_highest_11 : decode cX6_highest 11 = .ok (.getfield 9, 3) := by decide +kernel
theorem dX6_highest_14 : decode cX6_highest 14 = .ok (.iconst 3, 1) := by decide +kernel
theorem dX6_highest_15 : decode cX6_highest 15 = .ok (.iload_n 2, 1) := by decide +kernel
theorem dX6_highest_16 : decode cX6_highest 16 = .ok (.iadd, 1) := by decide +kernel
theorem dX6_highest_17 : decode cX6_highest 17 = .ok (.iaload, 1) := by decide +kernel
theorem dX6_highest_18 : decode cX6_highest 18 = .ok (.aload_n 0, 1) := by decide +kernel
theorem dX6_highest_19 : decode cX6_highest 19 = .ok (.getfield 9, 3) := by decide +kernel
theorem dX6_highest_22 : decode cX6_highest 22 = .ok (.iconst 3, 1) := by decide +kernel
theorem dX6_highest_23 : decode cX6_highest 23 = .ok (.iload_n 1, 1) := by decide +kernel
theorem dX6_highest_24 : decode cX6_highest 24 = .ok (.iadd, 1) := by decide +kernel
theorem dX6_highest_25 : decode cX6_highest 25 = .ok (.iaload, 1) := by decide +kernel
theorem dX6_highest_26 : decode cX6_highest 26 = .ok (.if_icmp .le 5, 3) := by decide +kernel
theorem dX6_highest_29 : decode cX6_highest 29 = .ok (.iload_n 2, 1) := by decide +kernel
theorem dX6_highest_30 : decode cX6_highest 30 = .ok (.istore_n 1, 1) := by decide +kernel
theorem dX6_highest_31 : decode cX6_highest 31 = .ok (.iinc 2 1, 3) := by decide +kernel
theorem dX6_highest_34 : decode cX6_highest 34 = .ok (.goto (-30), 3) := by decide +kernel
theorem dX6_highest_37 : decode cX6_highest 37 = .ok (.iload_n 1, 1) := by decide +kernel
theorem dX6_highest_38 : decode cX6_highest 38 = .ok (.ireturn, 1) := by decide +kernel
theorem dX6_hasBy_0 : decode cX6_hasBy 0 = .ok (.aload_n 0, 1) := by decide +kernel
theorem dX6_hasBy_1 : decode cX6_hasBy 1 = .ok (.getfield 9, 3) := by decide +kernel
theorem dX6_hasBy_4 : decode cX6_hasBy 4 = .ok (.aload_n 0, 1) := by decide +kernel
theorem dX6_hasBy_5 : decode cX6_hasBy 5 = .ok (.getfield 13, 3) := by decide +kernel
