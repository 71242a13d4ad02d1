theorem dX0_candleOf_0 : decode cX0_candleOf 0 = .ok (.iload_n 0, 1) := by decide +kernel
theorem dX0_candleOf_1 : decode cX0_candleOf 1 = .ok (.tableswitch 47 1 4 #[31, 47, 45, 37], 31) := by decide +kernel
theorem dX0_candleOf_32 : decode cX0_candleOf 32 = .ok (.iconst 1, 1) := by decide +kernel
theorem dX0_candleOf_33 : decode cX0_candleOf 33 = .ok (.iload_n 1, 1) := by decide +kernel
theorem dX0_candleOf_34 : decode cX0_candleOf 34 = .ok (.iconst 2, 1) := by decide +kernel
theorem dX0_candleOf_35 : decode cX0_candleOf 35 = .ok (.idiv, 1) := by decide +kernel
theorem dX0_candleOf_36 : decode cX0_candleOf 36 = .ok (.iadd, 1) := by decide +kernel
theorem dX0_candleOf_37 : decode cX0_candleOf 37 = .ok (.ireturn, 1) := by decide +kernel
theorem dX0_candleOf_38 : decode cX0_candleOf 38 = .ok (.iconst 1, 1) := by decide +kernel
theorem dX0_candleOf_39 : decode cX0_candleOf 39 = .ok (.iload_n 1, 1) := by decide +kernel
theorem dX0_candleOf_40 : decode cX0_candleOf 40 = .ok (.iconst 2, 1) := by decide +kernel
theorem dX0_candleOf_41 : decode cX0_candleOf 41 = .ok (.idiv, 1) := by decide +kernel
theorem dX0_candleOf_42 : decode cX0_candleOf 42 = .ok (.iadd, 1) := by decide +kernel
theorem dX0_candleOf_43 : decode cX0_candleOf 43 = .ok (.iconst 2, 1) := by decide +kernel
theorem dX0_candleOf_44 : decode cX0_candleOf 44 = .ok (.iadd, 1) := by decide +kernel
theorem dX0_candleOf_45 : decode cX0_candleOf 45 = .ok (.ireturn, 1) := by decide +kernel
theorem dX0_candleOf_46 : decode cX0_candleOf 46 = .ok (.iconst 0, 1) := by decide +kernel
theorem dX0_candleOf_47 : decode cX0_candleOf 47 = .ok (.ireturn, 1) := by decide +kernel
theorem dX0_candleOf_48 : decode cX0_candleOf 48 = .ok (.iconst 1, 1) := by decide +kernel
theorem dX0_candleOf_49 : decode cX0_candleOf 49 = .ok (.ireturn, 1) := by decide +kernel
theorem dX0_sleepsIn_0 : decode cX0_sleepsIn 0 = .ok (.iload_n 1, 1) := by decide +kernel
theorem dX0_sleepsIn_1 : decode cX0_sleepsIn 1 = .ok (.iconst 2, 1) := by decide +kernel
theorem dX0_sleepsIn_2 : decode cX0_sleepsIn 2 = .ok (.iadd, 1) := by decide +kernel
theorem dX0_sleepsIn_3 : decode cX0_sleepsIn 3 = .ok (.istore_n 3, 1) := by decide +kernel
theorem dX0_sleepsIn_4 : decode cX0_sleepsIn 4 = .ok (.iload_n 0, 1) := by decide +kernel
theorem dX0_sleepsIn_5 : decode cX0_sleepsIn 5 = .ok (.tableswitch 81 2 5 #[31, 31, 69, 47], 31) := by decide +kernel
theorem dX0_sleepsIn_36 : decode cX0_sleepsIn 36 = .ok (.iload_n 3, 1) := by decide +kernel
theorem dX0_sleepsIn_37 : decode cX0_sleepsIn 37 = .ok (.ifCond .le 13, 3) := by decide +kernel
theorem dX0_sleepsIn_40 : decode cX0_sleepsIn 40 = .ok (.iload_n 2, 1) := by decide +kernel
theorem dX0_sleepsIn_41 : decode cX0_sleepsIn 41 = .ok (.iload_n 3, 1) := by decide +kernel
theorem dX0_sleepsIn_42 : decode cX0_sleepsIn 42 = .ok (.irem, 1) := by decide +kernel
theorem dX0_sleepsIn_43 : decode cX0_sleepsIn 43 = .ok (.ifCond .ne 7, 3) := by decide +kernel
theorem dX0_sleepsIn_46 : decode cX0_sleepsIn 46 = .ok (.iconst 1, 1) := by decide +kernel
theorem dX0_sleepsIn_47 : decode cX0_sleepsIn 47 = .ok (.goto 4, 3) := by decide +kernel
theorem dX0_sleepsIn_50 : decode cX0_sleepsIn 50 = .ok (.iconst 0, 1) := by decide +kernel
theorem dX0_sleepsIn_51 : decode cX0_sleepsIn 51 = .ok (.ireturn, 1) := by decide +kernel
theorem dX0_sleepsIn_52 : decode cX0_sleepsIn 52 = .ok (.iload_n 3, 1) := by decide +kernel
theorem dX0_sleepsIn_53 : decode cX0_sleepsIn 53 = .ok (.ifCond .le 9, 3) := by decide +kernel
theorem dX0_sleepsIn_56 : decode cX0_sleepsIn 56 = .ok (.iload_n 2, 1) := by decide +kernel
theorem dX0_sleepsIn_57 : decode cX0_sleepsIn 57 = .ok (.iload_n 3, 1) := by decide +kernel
theorem dX0_sleepsIn_58 : decode cX0_sleepsIn 58 = .ok (.irem, 1) := by decide +kernel
theorem dX0_sleepsIn_59 : decode cX0_sleepsIn 59 = .ok (.ifCond .eq 9, 3) := by decide +kernel
theorem dX0_sleepsIn_62 : decode cX0_sleepsIn 62 = .ok (.iload_n 2, 1) := by decide +kernel
theorem dX0_sleepsIn_63 : decode cX0_sleepsIn 63 = .ok (.iconst 3, 1) := by decide +kernel
theorem dX0_sleepsIn_64 : decode cX0_sleepsIn 64 = .ok (.irem, 1) := by decide +kernel
theorem dX0_sleepsIn_65 : decode cX0_sleepsIn 65 = .ok (.ifCond .ne 7, 3) := by decide +kernel
theorem dX0_sleepsIn_68 : decode cX0_sleepsIn 68 = .ok (.iconst 1, 1) := by decide +kernel
theorem dX0_sleepsIn_69 : decode cX0_sleepsIn 69 = .ok (.goto 4, 3) := by decide +kernel
theorem dX0_sleepsIn_72 : decode cX0_sleepsIn 72 = .ok (.iconst 0, 1) := by decide +kernel
theorem dX0_sleepsIn_73 : decode cX0_sleepsIn 73 = .ok (.ireturn, 1) := by decide +kernel
theorem dX0_sleepsIn_74 : decode cX0_sleepsIn 74 = .ok (.iload_n 2, 1) := by decide +kernel
theorem dX0_sleepsIn_75 : decode cX0_sleepsIn 75 = .ok (.iconst 2, 1) := by decide +kernel
theorem dX0_sleepsIn_76 : decode cX0_sleepsIn 76 = .ok (.irem, 1) := by decide +kernel
theorem dX0_sleepsIn_77 : decode cX0_sleepsIn 77 = .ok (.ifCond .eq 7, 3) := by decide +kernel
theorem dX0_sleepsIn_80 : decode cX0_sleepsIn 80 = .ok (.iconst 1, 1) := by decide +kernel
theorem dX0_sleepsIn_81 : decode cX0_sleepsIn 81 = .ok (.goto 4, 3) := by decide +kernel
theorem dX0_sleepsIn_84 : decode cX0_sleepsIn 84 = .ok (.iconst 0, 1) := by decide +kernel
theorem dX0_sleepsIn_85 : decode cX0_sleepsIn 85 = .ok (.ireturn, 1) := by decide +kernel
theorem dX0_sleepsIn_86 : decode cX0_sleepsIn 86 = .ok (.iconst 0, 1) := by decide +kernel
theorem dX0_sleepsIn_87 : decode cX0_sleepsIn 87 = .ok (.ireturn, 1) := by decide +kernel
theorem dX0_burnsOf_0 : decode cX0_burnsOf 0 = .ok (.iload_n 0, 1) := by decide +kernel
theorem dX0_burnsOf_1 : decode cX0_burnsOf 1 = .ok (.tableswitch 37 1 5 #[35, 37, 37, 35, 35], 35) := by decide +kernel
theorem dX0_burnsOf_36 : decode cX0_burnsOf 36 = .ok (.iconst 2, 1) := by decide +kernel
theorem dX0_burnsOf_37 : decode cX0_burnsOf 37 = .ok (.ireturn, 1) := by decide +kernel
theorem dX0_burnsOf_38 : decode cX0_burnsOf 38 = .ok (.iconst 1, 1) := by decide +kernel
theorem dX0_burnsOf_39 : decode cX0_burnsOf 39 = .ok (.ireturn, 1) := by decide +kernel
theorem dX1_init_0 : decode cX1_init 0 = .ok (.aload_n 0, 1) := by decide +kernel
theorem dX1_init_1 : decode cX1_init 1 = .ok (.invokespecial 3, 3) := by decide +kernel
theorem dX1_init_4 : decode cX1_init 4 = .ok (.aload_n 0, 1) := by decide +kernel
theorem dX1_init_5 : decode cX1_init 5 = .ok (.bipush 20, 2) := by decide +kernel
theorem dX1_init_7 : decode cX1_init 7 = .ok (.newarray .int, 2) := by decide +kernel
theorem dX1_init_9 : decode cX1_init 9 = .ok (.putfield 9, 3) := by decide +kernel
theorem dX1_init_12 : decode cX1_init 12 = .ok (.aload_n 0, 1) := by decide +kernel
theorem dX1_init_13 : decode cX1_init 13 = .ok (.bipush 8, 2) := by decide +kernel
theorem dX1_init_15 : decode cX1_init 15 = .ok (.newarray .int, 2) := by decide +kernel
theorem dX1_init_17 : decode cX1_init 17 = .ok (.putfield 15, 3) := by decide +kernel
theorem dX1_init_20 : decode cX1_init 20 = .ok (.aload_n 0, 1) := by decide +kernel
theorem dX1_init_21 : decode cX1_init 21 = .ok (.bipush 8, 2) := by decide +kernel
theorem dX1_init_23 : decode cX1_init 23 = .ok (.newarray .int, 2) := by decide +kernel
theorem dX1_init_25 : decode cX1_init 25 = .ok (.putfield 18, 3) := by decide +kernel
theorem dX1_init_28 : decode cX1_init 28 = .ok (.aload_n 0, 1) := by decide +kernel
theorem dX1_init_29 : decode cX1_init 29 = .ok (.bipush 8, 2) := by decide +kernel
theorem dX1_init_31 : decode cX1_init 31 = .ok (.newarray .int, 2) := by decide +kernel
theorem dX1_init_33 : decode cX1_init 33 = .ok (.putfield 21, 3) := by decide +kernel
theorem dX1_init_36 : decode cX1_init 36 = .ok (.aload_n 0, 1) := by decide +kernel
theorem dX1_init_37 : decode cX1_init 37 = .ok (.bipush 8, 2) := by decide +kernel
theorem dX1_init_39 : decode cX1_init 39 = .ok (.newarray .int, 2) := by decide +kernel
theorem dX1_init_41 : decode cX1_init 41 = .ok (.putfield 24, 3) := by decide +kernel
theorem dX1_init_44 : decode cX1_init 44 = .ok (.return_, 1) := by decide +kernel
theorem dX1_become_0 : decode cX1_become 0 = .ok (.aload_n 1, 1) := by decide +kernel
theorem dX1_become_1 : decode cX1_become 1 = .ok (.getfield 9, 3) := by decide +kernel
theorem dX1_become_4 : decode cX1_become 4 = .ok (.iconst 0, 1) := by decide +kernel
theorem dX1_become_5 : decode cX1_become 5 = .ok (.aload_n 0, 1) := by decide +kernel
theorem dX1_become_6 : decode cX1_become 6 = .ok (.getfield 9, 3) := by decide +kernel
theorem dX1_become_9 : decode cX1_become 9 = .ok (.iconst 0, 1) := by decide +kernel
theorem dX1_become_10 : decode cX1_become 10 = .ok (.bipush 20, 2) := by decide +kernel
theorem dX1_become_12 : decode cX1_become 12 = .ok (.invokestatic 27, 3) := by decide +kernel
theorem dX1_become_15 : decode cX1_become 15 = .ok (.aload_n 1, 1) := by decide +kernel
theorem dX1_become_16 : decode cX1_become 16 = .ok (.getfield 15, 3) := by decide +kernel
theorem dX1_become_19 : decode cX1_become 19 = .ok (.iconst 0, 1) := by decide +kernel
theorem dX1_become_20 : decode cX1_become 20 = .ok (.aload_n 0, 1) := by decide +kernel
theorem dX1_become_21 : decode cX1_become 21 = .ok (.getfield 15, 3) := by decide +kernel
theorem dX1_become_24 : decode cX1_become 24 = .ok (.iconst 0, 1) := by decide +kernel
theorem dX1_become_25 : decode cX1_become 25 = .ok (.bipush 8, 2) := by decide +kernel
theorem dX1_become_27 : decode cX1_become 27 = .ok (.invokestatic 27, 3) := by decide +kernel
theorem dX1_become_30 : decode cX1_become 30 = .ok (.aload_n 1, 1) := by decide +kernel
theorem dX1_become_31 : decode cX1_become 31 = .ok (.getfield 18, 3) := by decide +kernel
theorem dX1_become_34 : decode cX1_become 34 = .ok (.iconst 0, 1) := by decide +kernel
theorem dX1_become_35 : decode cX1_become 35 = .ok (.aload_n 0, 1) := by decide +kernel
theorem dX1_become_36 : decode cX1_become 36 = .ok (.getfield 18, 3) := by decide +kernel
theorem dX1_become_39 : decode cX1_become 39 = .ok (.iconst 0, 1) := by decide +kernel
theorem dX1_become_40 : decode cX1_become 40 = .ok (.bipush 8, 2) := by decide +kernel
theorem dX1_become_42 : decode cX1_become 42 = .ok (.invokestatic 27, 3) := by decide +kernel
theorem dX1_become_45 : decode cX1_become 45 = .ok (.aload_n 1, 1) := by decide +kernel
theorem dX1_become_46 : decode cX1_become 46 = .ok (.getfield 21, 3) := by decide +kernel
theorem dX1_become_49 : decode cX1_become 49 = .ok (.iconst 0, 1) := by decide +kernel
theorem dX1_become_50 : decode cX1_become 50 = .ok (.aload_n 0, 1) := by decide +kernel
theorem dX1_become_51 : decode cX1_become 51 = .ok (.getfield 21, 3) := by decide +kernel
theorem dX1_become_54 : decode cX1_become 54 = .ok (.iconst 0, 1) := by decide +kernel
theorem dX1_become_55 : decode cX1_become 55 = .ok (.bipush 8, 2) := by decide +kernel
theorem dX1_become_57 : decode cX1_become 57 = .ok (.invokestatic 27, 3) := by decide +kernel
theorem dX1_become_60 : decode cX1_become 60 = .ok (.aload_n 1, 1) := by decide +kernel
theorem dX1_become_61 : decode cX1_become 61 = .ok (.getfield 24, 3) := by decide +kernel
theorem dX1_become_64 : decode cX1_become 64 = .ok (.iconst 0, 1) := by decide +kernel
theorem dX1_become_65 : decode cX1_become 65 = .ok (.aload_n 0, 1) := by decide +kernel
theorem dX1_become_66 : decode cX1_become 66 = .ok (.getfield 24, 3) := by decide +kernel
theorem dX1_become_69 : decode cX1_become 69 = .ok (.iconst 0, 1) := by decide +kernel
theorem dX1_become_70 : decode cX1_become 70 = .ok (.bipush 8, 2) := by decide +kernel
theorem dX1_become_72 : decode cX1_become 72 = .ok (.invokestatic 27, 3) := by decide +kernel
theorem dX1_become_75 : decode cX1_become 75 = .ok (.aload_n 0, 1) := by decide +kernel
theorem dX1_become_76 : decode cX1_become 76 = .ok (.aload_n 1, 1) := by decide +kernel
theorem dX1_become_77 : decode cX1_become 77 = .ok (.getfield 33, 3) := by decide +kernel
theorem dX1_become_80 : decode cX1_become 80 = .ok (.putfield 33, 3) := by decide +kernel
theorem dX1_become_83 : decode cX1_become 83 = .ok (.aload_n 0, 1) := by decide +kernel
theorem dX1_become_84 : decode cX1_become 84 = .ok (.aload_n 1, 1) := by decide +kernel
theorem dX1_become_85 : decode cX1_become 85 = .ok (.getfield 37, 3) := by decide +kernel
theorem dX1_become_88 : decode cX1_become 88 = .ok (.putfield 37, 3) := by decide +kernel
theorem dX1_become_91 : decode cX1_become 91 = .ok (.aload_n 0, 1) := by decide +kernel
theorem dX1_become_92 : decode cX1_become 92 = .ok (.aload_n 1, 1) := by decide +kernel
theorem dX1_become_93 : decode cX1_become 93 = .ok (.getfield 40, 3) := by decide +kernel
theorem dX1_become_96 : decode cX1_become 96 = .ok (.putfield 40, 3) := by decide +kernel
theorem dX1_become_99 : decode cX1_become 99 = .ok (.aload_n 0, 1) := by decide +kernel
theorem dX1_become_100 : decode cX1_become 100 = .ok (.aload_n 1, 1) := by decide +kernel
theorem dX1_become_101 : decode cX1_become 101 = .ok (.getfield 43, 3) := by decide +kernel
theorem dX1_become_104 : decode cX1_become 104 = .ok (.putfield 43, 3) := by decide +kernel
theorem dX1_become_107 : decode cX1_become 107 = .ok (.return_, 1) := by decide +kernel
theorem dX1_isCell_0 : decode cX1_isCell 0 = .ok (.iload_n 0, 1) := by decide +kernel
theorem dX1_isCell_1 : decode cX1_isCell 1 = .ok (.ifCond .lt 13, 3) := by decide +kernel
theorem dX1_isCell_4 : decode cX1_isCell 4 = .ok (.iload_n 0, 1) := by decide +kernel
theorem dX1_isCell_5 : decode cX1_isCell 5 = .ok (.bipush 20, 2) := by decide +kernel
theorem dX1_isCell_7 : decode cX1_isCell 7 = .ok (.if_icmp .ge 7, 3) := by decide +kernel
theorem dX1_isCell_10 : decode cX1_isCell 10 = .ok (.iconst 1, 1) := by decide +kernel
theorem dX1_isCell_11 : decode cX1_isCell 11 = .ok (.goto 4, 3) := by decide +kernel
theorem dX1_isCell_14 : decode cX1_isCell 14 = .ok (.iconst 0, 1) := by decide +kernel
theorem dX1_isCell_15 : decode cX1_isCell 15 = .ok (.ireturn, 1) := by decide +kernel
theorem dX1_isHouse_0 : decode cX1_isHouse 0 = .ok (.iload_n 1, 1) := by decide +kernel
theorem dX1_isHouse_1 : decode cX1_isHouse 1 = .ok (.ifCond .lt 15, 3) := by decide +kernel
theorem dX1_isHouse_4 : decode cX1_isHouse 4 = .ok (.iload_n 1, 1) := by decide +kernel
theorem dX1_isHouse_5 : decode cX1_isHouse 5 = .ok (.aload_n 0, 1) := by decide +kernel
theorem dX1_isHouse_6 : decode cX1_isHouse 6 = .ok (.getfield 33, 3) := by decide +kernel
theorem dX1_isHouse_9 : decode cX1_isHouse 9 = .ok (.if_icmp .ge 7, 3) := by decide +kernel
theorem dX1_isHouse_12 : decode cX1_isHouse 12 = .ok (.iconst 1, 1) := by decide +kernel
theorem dX1_isHouse_13 : decode cX1_isHouse 13 = .ok (.goto 4, 3) := by decide +kernel
theorem dX1_isHouse_16 : decode cX1_isHouse 16 = .ok (.iconst 0, 1) := by decide +kernel
theorem dX1_isHouse_17 : decode cX1_isHouse 17 = .ok (.ireturn, 1) := by decide +kernel
theorem dX1_allHouses_0 : decode cX1_allHouses 0 = .ok (.iconst 1, 1) := by decide +kernel
theorem dX1_allHouses_1 : decode cX1_allHouses 1 = .ok (.aload_n 0, 1) := by decide +kernel
theorem dX1_allHouses_2 : decode cX1_allHouses 2 = .ok (.getfield 33, 3) := by decide +kernel
theorem dX1_allHouses_5 : decode cX1_allHouses 5 = .ok (.ishl, 1) := by decide +kernel
theorem dX1_allHouses_6 : decode cX1_allHouses 6 = .ok (.iconst 1, 1) := by decide +kernel
theorem dX1_allHouses_7 : decode cX1_allHouses 7 = .ok (.isub, 1) := by decide +kernel
theorem dX1_allHouses_8 : decode cX1_allHouses 8 = .ok (.ireturn, 1) := by decide +kernel
theorem dX1_putHeight_0 : decode cX1_putHeight 0 = .ok (.iload_n 1, 1) := by decide +kernel
theorem dX1_putHeight_1 : decode cX1_putHeight 1 = .ok (.invokestatic 46, 3) := by decide +kernel
theorem dX1_putHeight_4 : decode cX1_putHeight 4 = .ok (.ifCond .ne 5, 3) := by decide +kernel
theorem dX1_putHeight_7 : decode cX1_putHeight 7 = .ok (.iconst 0, 1) := by decide +kernel
theorem dX1_putHeight_8 : decode cX1_putHeight 8 = .ok (.ireturn, 1) := by decide +kernel
theorem dX1_putHeight_9 : decode cX1_putHeight 9 = .ok (.aload_n 0, 1) := by decide +kernel
theorem dX1_putHeight_10 : decode cX1_putHeight 10 = .ok (.getfield 9, 3) := by decide +kernel
theorem dX1_putHeight_13 : decode cX1_putHeight 13 = .ok (.iload_n 1, 1) := by decide +kernel
theorem dX1_putHeight_14 : decode cX1_putHeight 14 = .ok (.iload_n 2, 1) := by decide +kernel
theorem dX1_putHeight_15 : decode cX1_putHeight 15 = .ok (.iastore, 1) := by decide +kernel
theorem dX1_putHeight_16 : decode cX1_putHeight 16 = .ok (.iconst 1, 1) := by decide +kernel
theorem dX1_putHeight_17 : decode cX1_putHeight 17 = .ok (.ireturn, 1) := by decide +kernel
theorem dX1_addHouse_0 : decode cX1_addHouse 0 = .ok (.aload_n 0, 1) := by decide +kernel
theorem dX1_addHouse_1 : decode cX1_addHouse 1 = .ok (.getfield 33, 3) := by decide +kernel
theorem dX1_addHouse_4 : decode cX1_addHouse 4 = .ok (.bipush 8, 2) := by decide +kernel
theorem dX1_addHouse_6 : decode cX1_addHouse 6 = .ok (.if_icmp .ge 10, 3) := by decide +kernel
theorem dX1_addHouse_9 : decode cX1_addHouse 9 = .ok (.iload_n 3, 1) := by decide +kernel
theorem dX1_addHouse_10 : decode cX1_addHouse 10 = .ok (.invokestatic 46, 3) := by decide +kernel
theorem dX1_addHouse_13 : decode cX1_addHouse 13 = .ok (.ifCond .ne 5, 3) := by decide +kernel
theorem dX1_addHouse_16 : decode cX1_addHouse 16 = .ok (.iconst 0, 1) := by decide +kernel
theorem dX1_addHouse_17 : decode cX1_addHouse 17 = .ok (.ireturn, 1) := by decide +kernel
theorem dX1_addHouse_18 : decode cX1_addHouse 18 = .ok (.aload_n 0, 1) := by decide +kernel
theorem dX1_addHouse_19 : decode cX1_addHouse 19 = .ok (.getfield 15, 3) := by decide +kernel
theorem dX1_addHouse_22 : decode cX1_addHouse 22 = .ok (.aload_n 0, 1) := by decide +kernel
theorem dX1_addHouse_23 : decode cX1_addHouse 23 = .ok (.getfield 33, 3) := by decide +kernel
theorem dX1_addHouse_26 : decode cX1_addHouse 26 = .ok (.iload_n 1, 1) := by decide +kernel
theorem dX1_addHouse_27 : decode cX1_addHouse 27 = .ok (.iastore, 1) := by decide +kernel
theorem dX1_addHouse_28 : decode cX1_addHouse 28 = .ok (.aload_n 0, 1) := by decide +kernel
theorem dX1_addHouse_29 : decode cX1_addHouse 29 = .ok (.getfield 18, 3) := by decide +kernel
theorem dX1_addHouse_32 : decode cX1_addHouse 32 = .ok (.aload_n 0, 1) := by decide +kernel
theorem dX1_addHouse_33 : decode cX1_addHouse 33 = .ok (.getfield 33, 3) := by decide +kernel
theorem dX1_addHouse_36 : decode cX1_addHouse 36 = .ok (.iload_n 2, 1) := by decide +kernel
theorem dX1_addHouse_37 : decode cX1_addHouse 37 = .ok (.iastore, 1) := by decide +kernel
theorem dX1_addHouse_38 : decode cX1_addHouse 38 = .ok (.aload_n 0, 1) := by decide +kernel
theorem dX1_addHouse_39 : decode cX1_addHouse 39 = .ok (.getfield 21, 3) := by decide +kernel
theorem dX1_addHouse_42 : decode cX1_addHouse 42 = .ok (.aload_n 0, 1) := by decide +kernel
theorem dX1_addHouse_43 : decode cX1_addHouse 43 = .ok (.getfield 33, 3) := by decide +kernel
theorem dX1_addHouse_46 : decode cX1_addHouse 46 = .ok (.iload_n 3, 1) := by decide +kernel
theorem dX1_addHouse_47 : decode cX1_addHouse 47 = .ok (.iastore, 1) := by decide +kernel
theorem dX1_addHouse_48 : decode cX1_addHouse 48 = .ok (.aload_n 0, 1) := by decide +kernel
theorem dX1_addHouse_49 : decode cX1_addHouse 49 = .ok (.getfield 24, 3) := by decide +kernel
theorem dX1_addHouse_52 : decode cX1_addHouse 52 = .ok (.aload_n 0, 1) := by decide +kernel
theorem dX1_addHouse_53 : decode cX1_addHouse 53 = .ok (.getfield 33, 3) := by decide +kernel
theorem dX1_addHouse_56 : decode cX1_addHouse 56 = .ok (.bipush 20, 2) := by decide +kernel
theorem dX1_addHouse_58 : decode cX1_addHouse 58 = .ok (.iastore, 1) := by decide +kernel
theorem dX1_addHouse_59 : decode cX1_addHouse 59 = .ok (.aload_n 0, 1) := by decide +kernel
theorem dX1_addHouse_60 : decode cX1_addHouse 60 = .ok (.dup, 1) := by decide +kernel
theorem dX1_addHouse_61 : decode cX1_addHouse 61 = .ok (.getfield 33, 3) := by decide +kernel
theorem dX1_addHouse_64 : decode cX1_addHouse 64 = .ok (.iconst 1, 1) := by decide +kernel
theorem dX1_addHouse_65 : decode cX1_addHouse 65 = .ok (.iadd, 1) := by decide +kernel
theorem dX1_addHouse_66 : decode cX1_addHouse 66 = .ok (.putfield 33, 3) := by decide +kernel
theorem dX1_addHouse_69 : decode cX1_addHouse 69 = .ok (.iconst 1, 1) := by decide +kernel
theorem dX1_addHouse_70 : decode cX1_addHouse 70 = .ok (.ireturn, 1) := by decide +kernel
theorem dX1_putHouse_0 : decode cX1_putHouse 0 = .ok (.aload_n 0, 1) := by decide +kernel
theorem dX1_putHouse_1 : decode cX1_putHouse 1 = .ok (.iload_n 1, 1) := by decide +kernel
theorem dX1_putHouse_2 : decode cX1_putHouse 2 = .ok (.invokevirtual 50, 3) := by decide +kernel
theorem dX1_putHouse_5 : decode cX1_putHouse 5 = .ok (.ifCond .eq 10, 3) := by decide +kernel
theorem dX1_putHouse_8 : decode cX1_putHouse 8 = .ok (.iload_n 2, 1) := by decide +kernel
theorem dX1_putHouse_9 : decode cX1_putHouse 9 = .ok (.invokestatic 46, 3) := by decide +kernel
theorem dX1_putHouse_12 : decode cX1_putHouse 12 = .ok (.ifCond .ne 5, 3) := by decide +kernel
theorem dX1_putHouse_15 : decode cX1_putHouse 15 = .ok (.iconst 0, 1) := by decide +kernel
theorem dX1_putHouse_16 : decode cX1_putHouse 16 = .ok (.ireturn, 1) := by decide +kernel
theorem dX1_putHouse_17 : decode cX1_putHouse 17 = .ok (.aload_n 0, 1) := by decide +kernel
theorem dX1_putHouse_18 : decode cX1_putHouse 18 = .ok (.getfield 21, 3) := by decide +kernel
theorem dX1_putHouse_21 : decode cX1_putHouse 21 = .ok (.iload_n 1, 1) := by decide +kernel
theorem dX1_putHouse_22 : decode cX1_putHouse 22 = .ok (.iload_n 2, 1) := by decide +kernel
theorem dX1_putHouse_23 : decode cX1_putHouse 23 = .ok (.iastore, 1) := by decide +kernel
theorem dX1_putHouse_24 : decode cX1_putHouse 24 = .ok (.iconst 1, 1) := by decide +kernel
theorem dX1_putHouse_25 : decode cX1_putHouse 25 = .ok (.ireturn, 1) := by decide +kernel
theorem dX1_addWicks_0 : decode cX1_addWicks 0 = .ok (.aload_n 0, 1) := by decide +kernel
theorem dX1_addWicks_1 : decode cX1_addWicks 1 = .ok (.iload_n 1, 1) := by decide +kernel
theorem dX1_addWicks_2 : decode cX1_addWicks 2 = .ok (.invokevirtual 50, 3) := by decide +kernel
theorem dX1_addWicks_5 : decode cX1_addWicks 5 = .ok (.ifCond .ne 5, 3) := by decide +kernel
theorem dX1_addWicks_8 : decode cX1_addWicks 8 = .ok (.iconst 0, 1) := by decide +kernel
theorem dX1_addWicks_9 : decode cX1_addWicks 9 = .ok (.ireturn, 1) := by decide +kernel
theorem dX1_addWicks_10 : decode cX1_addWicks 10 = .ok (.aload_n 0, 1) := by decide +kernel
theorem dX1_addWicks_11 : decode cX1_addWicks 11 = .ok (.getfield 24, 3) := by decide +kernel
theorem dX1_addWicks_14 : decode cX1_addWicks 14 = .ok (.iload_n 1, 1) := by decide +kernel
theorem dX1_addWicks_15 : decode cX1_addWicks 15 = .ok (.bipush 99, 2) := by decide +kernel
theorem dX1_addWicks_17 : decode cX1_addWicks 17 = .ok (.aload_n 0, 1) := by decide +kernel
theorem dX1_addWicks_18 : decode cX1_addWicks 18 = .ok (.getfield 24, 3) := by decide +kernel
theorem dX1_addWicks_21 : decode cX1_addWicks 21 = .ok (.iload_n 1, 1) := by decide +kernel
theorem dX1_addWicks_22 : decode cX1_addWicks 22 = .ok (.iaload, 1) := by decide +kernel
theorem dX1_addWicks_23 : decode cX1_addWicks 23 = .ok (.iload_n 2, 1) := by decide +kernel
theorem dX1_addWicks_24 : decode cX1_addWicks 24 = .ok (.iadd, 1) := by decide +kernel
theorem dX1_addWicks_25 : decode cX1_addWicks 25 = .ok (.invokestatic 53, 3) := by decide +kernel
theorem dX1_addWicks_28 : decode cX1_addWicks 28 = .ok (.iastore, 1) := by decide +kernel
theorem dX1_addWicks_29 : decode cX1_addWicks 29 = .ok (.iconst 1, 1) := by decide +kernel
theorem dX1_addWicks_30 : decode cX1_addWicks 30 = .ok (.ireturn, 1) := by decide +kernel
theorem dX1_switchCall_0 : decode cX1_switchCall 0 = .ok (.aload_n 0, 1) := by decide +kernel
theorem dX1_switchCall_1 : decode cX1_switchCall 1 = .ok (.iload_n 1, 1) := by decide +kernel
theorem dX1_switchCall_2 : decode cX1_switchCall 2 = .ok (.invokevirtual 50, 3) := by decide +kernel
theorem dX1_switchCall_5 : decode cX1_switchCall 5 = .ok (.ifCond .ne 5, 3) := by decide +kernel
theorem dX1_switchCall_8 : decode cX1_switchCall 8 = .ok (.iconst 0, 1) := by decide +kernel
theorem dX1_switchCall_9 : decode cX1_switchCall 9 = .ok (.ireturn, 1) := by decide +kernel
theorem dX1_switchCall_10 : decode cX1_switchCall 10 = .ok (.aload_n 0, 1) := by decide +kernel
theorem dX1_switchCall_11 : decode cX1_switchCall 11 = .ok (.dup, 1) := by decide +kernel
theorem dX1_switchCall_12 : decode cX1_switchCall 12 = .ok (.getfield 37, 3) := by decide +kernel
theorem dX1_switchCall_15 : decode cX1_switchCall 15 = .ok (.iconst 1, 1) := by decide +kernel
theorem dX1_switchCall_16 : decode cX1_switchCall 16 = .ok (.iload_n 1, 1) := by decide +kernel
theorem dX1_switchCall_17 : decode cX1_switchCall 17 = .ok (.ishl, 1) := by decide +kernel
theorem dX1_switchCall_18 : decode cX1_switchCall 18 = .ok (.ixor, 1) := by decide +kernel
theorem dX1_switchCall_19 : decode cX1_switchCall 19 = .ok (.putfield 37, 3) := by decide +kernel
theorem dX1_switchCall_22 : decode cX1_switchCall 22 = .ok (.iconst 1, 1) := by decide +kernel
theorem dX1_switchCall_23 : decode cX1_switchCall 23 = .ok (.ireturn, 1) := by decide +kernel
theorem dX1_goBy_0 : decode cX1_goBy 0 = .ok (.iload_n 1, 1) := by decide +kernel
theorem dX1_goBy_1 : decode cX1_goBy 1 = .ok (.iconst 1, 1) := by decide +kernel
theorem dX1_goBy_2 : decode cX1_goBy 2 = .ok (.if_icmp .lt 21, 3) := by decide +kernel
theorem dX1_goBy_5 : decode cX1_goBy 5 = .ok (.iload_n 1, 1) := by decide +kernel
theorem dX1_goBy_6 : decode cX1_goBy 6 = .ok (.bipush 60, 2) := by decide +kernel
theorem dX1_goBy_8 : decode cX1_goBy 8 = .ok (.if_icmp .gt 15, 3) := by decide +kernel
theorem dX1_goBy_11 : decode cX1_goBy 11 = .ok (.aload_n 0, 1) := by decide +kernel
theorem dX1_goBy_12 : decode cX1_goBy 12 = .ok (.getfield 43, 3) := by decide +kernel
theorem dX1_goBy_15 : decode cX1_goBy 15 = .ok (.iload_n 1, 1) := by decide +kernel
theorem dX1_goBy_16 : decode cX1_goBy 16 = .ok (.iadd, 1) := by decide +kernel
theorem dX1_goBy_17 : decode cX1_goBy 17 = .ok (.sipush 999, 3) := by decide +kernel
theorem dX1_goBy_20 : decode cX1_goBy 20 = .ok (.if_icmp .le 5, 3) := by decide +kernel
theorem dX1_goBy_23 : decode cX1_goBy 23 = .ok (.iconst 0, 1) := by decide +kernel
theorem dX1_goBy_24 : decode cX1_goBy 24 = .ok (.ireturn, 1) := by decide +kernel
theorem dX1_goBy_25 : decode cX1_goBy 25 = .ok (.iconst 0, 1) := by decide +kernel
theorem dX1_goBy_26 : decode cX1_goBy 26 = .ok (.istore_n 2, 1) := by decide +kernel
theorem dX1_goBy_27 : decode cX1_goBy 27 = .ok (.iload_n 2, 1) := by decide +kernel
theorem dX1_goBy_28 : decode cX1_goBy 28 = .ok (.iload_n 1, 1) := by decide +kernel
theorem dX1_goBy_29 : decode cX1_goBy 29 = .ok (.if_icmp .ge 13, 3) := by decide +kernel
theorem dX1_goBy_32 : decode cX1_goBy 32 = .ok (.aload_n 0, 1) := by decide +kernel
theorem dX1_goBy_33 : decode cX1_goBy 33 = .ok (.invokevirtual 59, 3) := by decide +kernel
theorem dX1_goBy_36 : decode cX1_goBy 36 = .ok (.iinc 2 1, 3) := by decide +kernel
theorem dX1_goBy_39 : decode cX1_goBy 39 = .ok (.goto (-12), 3) := by decide +kernel
theorem dX1_goBy_42 : decode cX1_goBy 42 = .ok (.iconst 1, 1) := by decide +kernel
theorem dX1_goBy_43 : decode cX1_goBy 43 = .ok (.ireturn, 1) := by decide +kernel
theorem dX1_putCalled_0 : decode cX1_putCalled 0 = .ok (.aload_n 0, 1) := by decide +kernel
theorem dX1_putCalled_1 : decode cX1_putCalled 1 = .ok (.iload_n 2, 1) := by decide +kernel
theorem dX1_putCalled_2 : decode cX1_putCalled 2 = .ok (.ifCond .eq 14, 3) := by decide +kernel
theorem dX1_putCalled_5 : decode cX1_putCalled 5 = .ok (.aload_n 0, 1) := by decide +kernel
theorem dX1_putCalled_6 : decode cX1_putCalled 6 = .ok (.getfield 37, 3) := by decide +kernel
theorem dX1_putCalled_9 : decode cX1_putCalled 9 = .ok (.iconst 1, 1) := by decide +kernel
theorem dX1_putCalled_10 : decode cX1_putCalled 10 = .ok (.iload_n 1, 1) := by decide +kernel
theorem dX1_putCalled_11 : decode cX1_putCalled 11 = .ok (.ishl, 1) := by decide +kernel
theorem dX1_putCalled_12 : decode cX1_putCalled 12 = .ok (.ior, 1) := by decide +kernel
theorem dX1_putCalled_13 : decode cX1_putCalled 13 = .ok (.goto 13, 3) := by decide +kernel
theorem dX1_putCalled_16 : decode cX1_putCalled 16 = .ok (.aload_n 0, 1) := by decide +kernel
theorem dX1_putCalled_17 : decode cX1_putCalled 17 = .ok (.getfield 37, 3) := by decide +kernel
theorem dX1_putCalled_20 : decode cX1_putCalled 20 = .ok (.iconst 1, 1) := by decide +kernel
theorem dX1_putCalled_21 : decode cX1_putCalled 21 = .ok (.iload_n 1, 1) := by decide +kernel
theorem dX1_putCalled_22 : decode cX1_putCalled 22 = .ok (.ishl, 1) := by decide +kernel
theorem dX1_putCalled_23 : decode cX1_putCalled 23 = .ok (.iconst (-1), 1) := by decide +kernel
theorem dX1_putCalled_24 : decode cX1_putCalled 24 = .ok (.ixor, 1) := by decide +kernel
theorem dX1_putCalled_25 : decode cX1_putCalled 25 = .ok (.iand, 1) := by decide +kernel
theorem dX1_putCalled_26 : decode cX1_putCalled 26 = .ok (.putfield 37, 3) := by decide +kernel
theorem dX1_putCalled_29 : decode cX1_putCalled 29 = .ok (.return_, 1) := by decide +kernel
theorem dX1_isCalled_0 : decode cX1_isCalled 0 = .ok (.aload_n 0, 1) := by decide +kernel
theorem dX1_isCalled_1 : decode cX1_isCalled 1 = .ok (.getfield 37, 3) := by decide +kernel
theorem dX1_isCalled_4 : decode cX1_isCalled 4 = .ok (.iload_n 1, 1) := by decide +kernel
theorem dX1_isCalled_5 : decode cX1_isCalled 5 = .ok (.invokestatic 62, 3) := by decide +kernel
theorem dX1_isCalled_8 : decode cX1_isCalled 8 = .ok (.ireturn, 1) := by decide +kernel
theorem dX1_eyeOf_0 : decode cX1_eyeOf 0 = .ok (.aload_n 0, 1) := by decide +kernel
theorem dX1_eyeOf_1 : decode cX1_eyeOf 1 = .ok (.getfield 9, 3) := by decide +kernel
theorem dX1_eyeOf_4 : decode cX1_eyeOf 4 = .ok (.aload_n 0, 1) := by decide +kernel
theorem dX1_eyeOf_5 : decode cX1_eyeOf 5 = .ok (.getfield 21, 3) := by decide +kernel
theorem dX1_eyeOf_8 : decode cX1_eyeOf 8 = .ok (.iload_n 1, 1) := by decide +kernel
theorem dX1_eyeOf_9 : decode cX1_eyeOf 9 = .ok (.iaload, 1) := by decide +kernel
theorem dX1_eyeOf_10 : decode cX1_eyeOf 10 = .ok (.iaload, 1) := by decide +kernel
theorem dX1_eyeOf_11 : decode cX1_eyeOf 11 = .ok (.aload_n 0, 1) := by decide +kernel
theorem dX1_eyeOf_12 : decode cX1_eyeOf 12 = .ok (.getfield 15, 3) := by decide +kernel
theorem dX1_eyeOf_15 : decode cX1_eyeOf 15 = .ok (.iload_n 1, 1) := by decide +kernel
theorem dX1_eyeOf_16 : decode cX1_eyeOf 16 = .ok (.iaload, 1) := by decide +kernel
theorem dX1_eyeOf_17 : decode cX1_eyeOf 17 = .ok (.aload_n 0, 1) := by decide +kernel
theorem dX1_eyeOf_18 : decode cX1_eyeOf 18 = .ok (.getfield 18, 3) := by decide +kernel
theorem dX1_eyeOf_21 : decode cX1_eyeOf 21 = .ok (.iload_n 1, 1) := by decide +kernel
theorem dX1_eyeOf_22 : decode cX1_eyeOf 22 = .ok (.iaload, 1) := by decide +kernel
theorem dX1_eyeOf_23 : decode cX1_eyeOf 23 = .ok (.invokestatic 66, 3) := by decide +kernel
theorem dX1_eyeOf_26 : decode cX1_eyeOf 26 = .ok (.iadd, 1) := by decide +kernel
theorem dX1_eyeOf_27 : decode cX1_eyeOf 27 = .ok (.ireturn, 1) := by decide +kernel
theorem dX1_burnsOf_0 : decode cX1_burnsOf 0 = .ok (.aload_n 0, 1) := by decide +kernel
theorem dX1_burnsOf_1 : decode cX1_burnsOf 1 = .ok (.getfield 15, 3) := by decide +kernel
theorem dX1_burnsOf_4 : decode cX1_burnsOf 4 = .ok (.iload_n 1, 1) := by decide +kernel
theorem dX1_burnsOf_5 : decode cX1_burnsOf 5 = .ok (.iaload, 1) := by decide +kernel
theorem dX1_burnsOf_6 : decode cX1_burnsOf 6 = .ok (.invokestatic 71, 3) := by decide +kernel
theorem dX1_burnsOf_9 : decode cX1_burnsOf 9 = .ok (.ireturn, 1) := by decide +kernel
theorem dX1_isLit_0 : decode cX1_isLit 0 = .ok (.aload_n 0, 1) := by decide +kernel
theorem dX1_isLit_1 : decode cX1_isLit 1 = .ok (.getfield 24, 3) := by decide +kernel
theorem dX1_isLit_4 : decode cX1_isLit 4 = .ok (.iload_n 1, 1) := by decide +kernel
theorem dX1_isLit_5 : decode cX1_isLit 5 = .ok (.iaload, 1) := by decide +kernel
theorem dX1_isLit_6 : decode cX1_isLit 6 = .ok (.aload_n 0, 1) := by decide +kernel
theorem dX1_isLit_7 : decode cX1_isLit 7 = .ok (.getfield 15, 3) := by decide +kernel
theorem dX1_isLit_10 : decode cX1_isLit 10 = .ok (.iload_n 1, 1) := by decide +kernel
theorem dX1_isLit_11 : decode cX1_isLit 11 = .ok (.iaload, 1) := by decide +kernel
theorem dX1_isLit_12 : decode cX1_isLit 12 = .ok (.invokestatic 71, 3) := by decide +kernel
theorem dX1_isLit_15 : decode cX1_isLit 15 = .ok (.if_icmp .lt 40, 3) := by decide +kernel
theorem dX1_isLit_18 : decode cX1_isLit 18 = .ok (.aload_n 0, 1) := by decide +kernel
theorem dX1_isLit_19 : decode cX1_isLit 19 = .ok (.getfield 37, 3) := by decide +kernel
theorem dX1_isLit_22 : decode cX1_isLit 22 = .ok (.iload_n 1, 1) := by decide +kernel
theorem dX1_isLit_23 : decode cX1_isLit 23 = .ok (.invokestatic 62, 3) := by decide +kernel
theorem dX1_isLit_26 : decode cX1_isLit 26 = .ok (.ifCond .ne 25, 3) := by decide +kernel
theorem dX1_isLit_29 : decode cX1_isLit 29 = .ok (.aload_n 0, 1) := by decide +kernel
theorem dX1_isLit_30 : decode cX1_isLit 30 = .ok (.getfield 15, 3) := by decide +kernel
theorem dX1_isLit_33 : decode cX1_isLit 33 = .ok (.iload_n 1, 1) := by decide +kernel
theorem dX1_isLit_34 : decode cX1_isLit 34 = .ok (.iaload, 1) := by decide +kernel
theorem dX1_isLit_35 : decode cX1_isLit 35 = .ok (.aload_n 0, 1) := by decide +kernel
theorem dX1_isLit_36 : decode cX1_isLit 36 = .ok (.getfield 18, 3) := by decide +kernel
theorem dX1_isLit_39 : decode cX1_isLit 39 = .ok (.iload_n 1, 1) := by decide +kernel
theorem dX1_isLit_40 : decode cX1_isLit 40 = .ok (.iaload, 1) := by decide +kernel
theorem dX1_isLit_41 : decode cX1_isLit 41 = .ok (.aload_n 0, 1) := by decide +kernel
theorem dX1_isLit_42 : decode cX1_isLit 42 = .ok (.getfield 43, 3) := by decide +kernel
theorem dX1_isLit_45 : decode cX1_isLit 45 = .ok (.invokestatic 75, 3) := by decide +kernel
theorem dX1_isLit_48 : decode cX1_isLit 48 = .ok (.ifCond .ne 7, 3) := by decide +kernel
theorem dX1_isLit_51 : decode cX1_isLit 51 = .ok (.iconst 1, 1) := by decide +kernel
theorem dX1_isLit_52 : decode cX1_isLit 52 = .ok (.goto 4, 3) := by decide +kernel
theorem dX1_isLit_55 : decode cX1_isLit 55 = .ok (.iconst 0, 1) := by decide +kernel
theorem dX1_isLit_56 : decode cX1_isLit 56 = .ok (.ireturn, 1) := by decide +kernel
theorem dX1_lit_0 : decode cX1_lit 0 = .ok (.iconst 0, 1) := by decide +kernel
theorem dX1_lit_1 : decode cX1_lit 1 = .ok (.istore_n 1, 1) := by decide +kernel
theorem dX1_lit_2 : decode cX1_lit 2 = .ok (.iconst 0, 1) := by decide +kernel
theorem dX1_lit_3 : decode cX1_lit 3 = .ok (.istore_n 2, 1) := by decide +kernel
theorem dX1_lit_4 : decode cX1_lit 4 = .ok (.iload_n 2, 1) := by decide +kernel
theorem dX1_lit_5 : decode cX1_lit 5 = .ok (.aload_n 0, 1) := by decide +kernel
theorem dX1_lit_6 : decode cX1_lit 6 = .ok (.getfield 33, 3) := by decide +kernel
theorem dX1_lit_9 : decode cX1_lit 9 = .ok (.if_icmp .ge 23, 3) := by decide +kernel
theorem dX1_lit_12 : decode cX1_lit 12 = .ok (.aload_n 0, 1) := by decide +kernel
theorem dX1_lit_13 : decode cX1_lit 13 = .ok (.iload_n 2, 1) := by decide +kernel
theorem dX1_lit_14 : decode cX1_lit 14 = .ok (.invokevirtual 79, 3) := by decide +kernel
theorem dX1_lit_17 : decode cX1_lit 17 = .ok (.ifCond .eq 9, 3) := by decide +kernel
theorem dX1_lit_20 : decode cX1_lit 20 = .ok (.iload_n 1, 1) := by decide +kernel
theorem dX1_lit_21 : decode cX1_lit 21 = .ok (.iconst 1, 1) := by decide +kernel
theorem dX1_lit_22 : decode cX1_lit 22 = .ok (.iload_n 2, 1) := by decide +kernel
theorem dX1_lit_23 : decode cX1_lit 23 = .ok (.ishl, 1) := by decide +kernel
theorem dX1_lit_24 : decode cX1_lit 24 = .ok (.ior, 1) := by decide +kernel
theorem dX1_lit_25 : decode cX1_lit 25 = .ok (.istore_n 1, 1) := by decide +kernel
theorem dX1_lit_26 : decode cX1_lit 26 = .ok (.iinc 2 1, 3) := by decide +kernel
theorem dX1_lit_29 : decode cX1_lit 29 = .ok (.goto (-25), 3) := by decide +kernel
theorem dX1_lit_32 : decode cX1_lit 32 = .ok (.iload_n 1, 1) := by decide +kernel
theorem dX1_lit_33 : decode cX1_lit 33 = .ok (.ireturn, 1) := by decide +kernel
theorem dX1_allWicks_0 : decode cX1_allWicks 0 = .ok (.iconst 0, 1) := by decide +kernel
theorem dX1_allWicks_1 : decode cX1_allWicks 1 = .ok (.istore_n 1, 1) := by decide +kernel
theorem dX1_allWicks_2 : decode cX1_allWicks 2 = .ok (.iconst 0, 1) := by decide +kernel
theorem dX1_allWicks_3 : decode cX1_allWicks 3 = .ok (.istore_n 2, 1) := by decide +kernel
theorem dX1_allWicks_4 : decode cX1_allWicks 4 = .ok (.iload_n 2, 1) := by decide +kernel
theorem dX1_allWicks_5 : decode cX1_allWicks 5 = .ok (.aload_n 0, 1) := by decide +kernel
theorem dX1_allWicks_6 : decode cX1_allWicks 6 = .ok (.getfield 33, 3) := by decide +kernel
theorem dX1_allWicks_9 : decode cX1_allWicks 9 = .ok (.if_icmp .ge 18, 3) := by decide +kernel
theorem dX1_allWicks_12 : decode cX1_allWicks 12 = .ok (.iload_n 1, 1) := by decide +kernel
theorem dX1_allWicks_13 : decode cX1_allWicks 13 = .ok (.aload_n 0, 1) := by decide +kernel
theorem dX1_allWicks_14 : decode cX1_allWicks 14 = .ok (.getfield 24, 3) := by decide +kernel
theorem dX1_allWicks_17 : decode cX1_allWicks 17 = .ok (.iload_n 2, 1) := by decide +kernel
theorem dX1_allWicks_18 : decode cX1_allWicks 18 = .ok (.iaload, 1) := by decide +kernel
theorem dX1_allWicks_19 : decode cX1_allWicks 19 = .ok (.iadd, 1) := by decide +kernel
theorem dX1_allWicks_20 : decode cX1_allWicks 20 = .ok (.istore_n 1, 1) := by decide +kernel
theorem dX1_allWicks_21 : decode cX1_allWicks 21 = .ok (.iinc 2 1, 3) := by decide +kernel
theorem dX1_allWicks_24 : decode cX1_allWicks 24 = .ok (.goto (-20), 3) := by decide +kernel
theorem dX1_allWicks_27 : decode cX1_allWicks 27 = .ok (.iload_n 1, 1) := by decide +kernel
theorem dX1_allWicks_28 : decode cX1_allWicks 28 = .ok (.ireturn, 1) := by decide +kernel
theorem dX1_passNight_0 : decode cX1_passNight 0 = .ok (.iconst 0, 1) := by decide +kernel
theorem dX1_passNight_1 : decode cX1_passNight 1 = .ok (.istore_n 1, 1) := by decide +kernel
theorem dX1_passNight_2 : decode cX1_passNight 2 = .ok (.iload_n 1, 1) := by decide +kernel
theorem dX1_passNight_3 : decode cX1_passNight 3 = .ok (.aload_n 0, 1) := by decide +kernel
theorem dX1_passNight_4 : decode cX1_passNight 4 = .ok (.getfield 33, 3) := by decide +kernel
theorem dX1_passNight_7 : decode cX1_passNight 7 = .ok (.if_icmp .ge 35, 3) := by decide +kernel
theorem dX1_passNight_10 : decode cX1_passNight 10 = .ok (.aload_n 0, 1) := by decide +kernel
theorem dX1_passNight_11 : decode cX1_passNight 11 = .ok (.iload_n 1, 1) := by decide +kernel
theorem dX1_passNight_12 : decode cX1_passNight 12 = .ok (.invokevirtual 79, 3) := by decide +kernel
theorem dX1_passNight_15 : decode cX1_passNight 15 = .ok (.ifCond .eq 21, 3) := by decide +kernel
theorem dX1_passNight_18 : decode cX1_passNight 18 = .ok (.aload_n 0, 1) := by decide +kernel
theorem dX1_passNight_19 : decode cX1_passNight 19 = .ok (.getfield 24, 3) := by decide +kernel
theorem dX1_passNight_22 : decode cX1_passNight 22 = .ok (.iload_n 1, 1) := by decide +kernel
theorem dX1_passNight_23 : decode cX1_passNight 23 = .ok (.dup2, 1) := by decide +kernel
theorem dX1_passNight_24 : decode cX1_passNight 24 = .ok (.iaload, 1) := by decide +kernel
theorem dX1_passNight_25 : decode cX1_passNight 25 = .ok (.aload_n 0, 1) := by decide +kernel
theorem dX1_passNight_26 : decode cX1_passNight 26 = .ok (.getfield 15, 3) := by decide +kernel
theorem dX1_passNight_29 : decode cX1_passNight 29 = .ok (.iload_n 1, 1) := by decide +kernel
theorem dX1_passNight_30 : decode cX1_passNight 30 = .ok (.iaload, 1) := by decide +kernel
theorem dX1_passNight_31 : decode cX1_passNight 31 = .ok (.invokestatic 71, 3) := by decide +kernel
theorem dX1_passNight_34 : decode cX1_passNight 34 = .ok (.isub, 1) := by decide +kernel
theorem dX1_passNight_35 : decode cX1_passNight 35 = .ok (.iastore, 1) := by decide +kernel
theorem dX1_passNight_36 : decode cX1_passNight 36 = .ok (.iinc 1 1, 3) := by decide +kernel
theorem dX1_passNight_39 : decode cX1_passNight 39 = .ok (.goto (-37), 3) := by decide +kernel
theorem dX1_passNight_42 : decode cX1_passNight 42 = .ok (.aload_n 0, 1) := by decide +kernel
theorem dX1_passNight_43 : decode cX1_passNight 43 = .ok (.dup, 1) := by decide +kernel
theorem dX1_passNight_44 : decode cX1_passNight 44 = .ok (.getfield 43, 3) := by decide +kernel
theorem dX1_passNight_47 : decode cX1_passNight 47 = .ok (.iconst 1, 1) := by decide +kernel
theorem dX1_passNight_48 : decode cX1_passNight 48 = .ok (.iadd, 1) := by decide +kernel
theorem dX1_passNight_49 : decode cX1_passNight 49 = .ok (.putfield 43, 3) := by decide +kernel
theorem dX1_passNight_52 : decode cX1_passNight 52 = .ok (.return_, 1) := by decide +kernel
theorem dX1_passNights_0 : decode cX1_passNights 0 = .ok (.iconst 0, 1) := by decide +kernel
theorem dX1_passNights_1 : decode cX1_passNights 1 = .ok (.istore_n 2, 1) := by decide +kernel
theorem dX1_passNights_2 : decode cX1_passNights 2 = .ok (.iload_n 2, 1) := by decide +kernel
theorem dX1_passNights_3 : decode cX1_passNights 3 = .ok (.iload_n 1, 1) := by decide +kernel
theorem dX1_passNights_4 : decode cX1_passNights 4 = .ok (.if_icmp .ge 13, 3) := by decide +kernel
theorem dX1_passNights_7 : decode cX1_passNights 7 = .ok (.aload_n 0, 1) := by decide +kernel
theorem dX1_passNights_8 : decode cX1_passNights 8 = .ok (.invokevirtual 59, 3) := by decide +kernel
theorem dX1_passNights_11 : decode cX1_passNights 11 = .ok (.iinc 2 1, 3) := by decide +kernel
theorem dX1_passNights_14 : decode cX1_passNights 14 = .ok (.goto (-12), 3) := by decide +kernel
theorem dX1_passNights_17 : decode cX1_passNights 17 = .ok (.return_, 1) := by decide +kernel
theorem dX2_init_0 : decode cX2_init 0 = .ok (.aload_n 0, 1) := by decide +kernel
theorem dX2_init_1 : decode cX2_init 1 = .ok (.invokespecial 3, 3) := by decide +kernel
theorem dX2_init_4 : decode cX2_init 4 = .ok (.aload_n 0, 1) := by decide +kernel
theorem dX2_init_5 : decode cX2_init 5 = .ok (.bipush 96, 2) := by decide +kernel
theorem dX2_init_7 : decode cX2_init 7 = .ok (.newarray .int, 2) := by decide +kernel
theorem dX2_init_9 : decode cX2_init 9 = .ok (.putfield 9, 3) := by decide +kernel
theorem dX2_init_12 : decode cX2_init 12 = .ok (.return_, 1) := by decide +kernel
theorem dX2_isFull_0 : decode cX2_isFull 0 = .ok (.aload_n 0, 1) := by decide +kernel
theorem dX2_isFull_1 : decode cX2_isFull 1 = .ok (.getfield 15, 3) := by decide +kernel
theorem dX2_isFull_4 : decode cX2_isFull 4 = .ok (.bipush 96, 2) := by decide +kernel
theorem dX2_isFull_6 : decode cX2_isFull 6 = .ok (.if_icmp .lt 7, 3) := by decide +kernel
theorem dX2_isFull_9 : decode cX2_isFull 9 = .ok (.iconst 1, 1) := by decide +kernel
theorem dX2_isFull_10 : decode cX2_isFull 10 = .ok (.goto 4, 3) := by decide +kernel
theorem dX2_isFull_13 : decode cX2_isFull 13 = .ok (.iconst 0, 1) := by decide +kernel
theorem dX2_isFull_14 : decode cX2_isFull 14 = .ok (.ireturn, 1) := by decide +kernel
theorem dX2_add_0 : decode cX2_add 0 = .ok (.aload_n 0, 1) := by decide +kernel
theorem dX2_add_1 : decode cX2_add 1 = .ok (.invokevirtual 19, 3) := by decide +kernel
theorem dX2_add_4 : decode cX2_add 4 = .ok (.ifCond .ne 23, 3) := by decide +kernel
theorem dX2_add_7 : decode cX2_add 7 = .ok (.aload_n 0, 1) := by decide +kernel
theorem dX2_add_8 : decode cX2_add 8 = .ok (.getfield 9, 3) := by decide +kernel
theorem dX2_add_11 : decode cX2_add 11 = .ok (.aload_n 0, 1) := by decide +kernel
theorem dX2_add_12 : decode cX2_add 12 = .ok (.getfield 15, 3) := by decide +kernel
theorem dX2_add_15 : decode cX2_add 15 = .ok (.iload_n 1, 1) := by decide +kernel
theorem dX2_add_16 : decode cX2_add 16 = .ok (.iastore, 1) := by decide +kernel
theorem dX2_add_17 : decode cX2_add 17 = .ok (.aload_n 0, 1) := by decide +kernel
theorem dX2_add_18 : decode cX2_add 18 = .ok (.dup, 1) := by decide +kernel
theorem dX2_add_19 : decode cX2_add 19 = .ok (.getfield 15, 3) := by decide +kernel
theorem dX2_add_22 : decode cX2_add 22 = .ok (.iconst 1, 1) := by decide +kernel
theorem dX2_add_23 : decode cX2_add 23 = .ok (.iadd, 1) := by decide +kernel
theorem dX2_add_24 : decode cX2_add 24 = .ok (.putfield 15, 3) := by decide +kernel
theorem dX2_add_27 : decode cX2_add 27 = .ok (.aload_n 0, 1) := by decide +kernel
theorem dX2_add_28 : decode cX2_add 28 = .ok (.getfield 15, 3) := by decide +kernel
theorem dX2_add_31 : decode cX2_add 31 = .ok (.ireturn, 1) := by decide +kernel
theorem dX2_forget_0 : decode cX2_forget 0 = .ok (.aload_n 0, 1) := by decide +kernel
theorem dX2_forget_1 : decode cX2_forget 1 = .ok (.iconst 0, 1) := by decide +kernel
theorem dX2_forget_2 : decode cX2_forget 2 = .ok (.putfield 15, 3) := by decide +kernel
theorem dX2_forget_5 : decode cX2_forget 5 = .ok (.return_, 1) := by decide +kernel
theorem dX2_formBehind_0 : decode cX2_formBehind 0 = .ok (.iload_n 0, 1) := by decide +kernel
theorem dX2_formBehind_1 : decode cX2_formBehind 1 = .ok (.tableswitch 111 99 119 #[99, 111, 111, 105, 111, 102, 111, 111, 111, 111, 99, 108, 111, 111, 111, 111, 111, 111, 105, 111, 99], 99) := by decide +kernel
theorem dX2_formBehind_100 : decode cX2_formBehind 100 = .ok (.ldc 23, 2) := by decide +kernel
theorem dX2_formBehind_102 : decode cX2_formBehind 102 = .ok (.areturn, 1) := by decide +kernel
theorem dX2_formBehind_103 : decode cX2_formBehind 103 = .ok (.ldc 25, 2) := by decide +kernel
theorem dX2_formBehind_105 : decode cX2_formBehind 105 = .ok (.areturn, 1) := by decide +kernel
theorem dX2_formBehind_106 : decode cX2_formBehind 106 = .ok (.ldc 27, 2) := by decide +kernel
theorem dX2_formBehind_108 : decode cX2_formBehind 108 = .ok (.areturn, 1) := by decide +kernel
theorem dX2_formBehind_109 : decode cX2_formBehind 109 = .ok (.ldc 29, 2) := by decide +kernel
theorem dX2_formBehind_111 : decode cX2_formBehind 111 = .ok (.areturn, 1) := by decide +kernel
theorem dX2_formBehind_112 : decode cX2_formBehind 112 = .ok (.ldc 31, 2) := by decide +kernel
theorem dX2_formBehind_114 : decode cX2_formBehind 114 = .ok (.areturn, 1) := by decide +kernel
theorem dX2_fits_0 : decode cX2_fits 0 = .ok (.iload_n 0, 1) := by decide +kernel
theorem dX2_fits_1 : decode cX2_fits 1 = .ok (.lookupswitch 61 #[(100, 27), (107, 45)], 27) := by decide +kernel
theorem dX2_fits_28 : decode cX2_fits 28 = .ok (.iload_n 1, 1) := by decide +kernel
theorem dX2_fits_29 : decode cX2_fits 29 = .ok (.bipush 48, 2) := by decide +kernel
theorem dX2_fits_31 : decode cX2_fits 31 = .ok (.if_icmp .lt 13, 3) := by decide +kernel
theorem dX2_fits_34 : decode cX2_fits 34 = .ok (.iload_n 1, 1) := by decide +kernel
theorem dX2_fits_35 : decode cX2_fits 35 = .ok (.bipush 57, 2) := by decide +kernel
theorem dX2_fits_37 : decode cX2_fits 37 = .ok (.if_icmp .gt 7, 3) := by decide +kernel
theorem dX2_fits_40 : decode cX2_fits 40 = .ok (.iconst 1, 1) := by decide +kernel
theorem dX2_fits_41 : decode cX2_fits 41 = .ok (.goto 4, 3) := by decide +kernel
theorem dX2_fits_44 : decode cX2_fits 44 = .ok (.iconst 0, 1) := by decide +kernel
theorem dX2_fits_45 : decode cX2_fits 45 = .ok (.ireturn, 1) := by decide +kernel
theorem dX2_fits_46 : decode cX2_fits 46 = .ok (.ldc 33, 2) := by decide +kernel
theorem dX2_fits_48 : decode cX2_fits 48 = .ok (.iload_n 1, 1) := by decide +kernel
theorem dX2_fits_49 : decode cX2_fits 49 = .ok (.i2c, 1) := by decide +kernel
theorem dX2_fits_50 : decode cX2_fits 50 = .ok (.invokevirtual 35, 3) := by decide +kernel
theorem dX2_fits_53 : decode cX2_fits 53 = .ok (.ifCond .lt 7, 3) := by decide +kernel
theorem dX2_fits_56 : decode cX2_fits 56 = .ok (.iconst 1, 1) := by decide +kernel
theorem dX2_fits_57 : decode cX2_fits 57 = .ok (.goto 4, 3) := by decide +kernel
theorem dX2_fits_60 : decode cX2_fits 60 = .ok (.iconst 0, 1) := by decide +kernel
theorem dX2_fits_61 : decode cX2_fits 61 = .ok (.ireturn, 1) := by decide +kernel
theorem dX2_fits_62 : decode cX2_fits 62 = .ok (.iload_n 1, 1) := by decide +kernel
theorem dX2_fits_63 : decode cX2_fits 63 = .ok (.iload_n 0, 1) := by decide +kernel
theorem dX2_fits_64 : decode cX2_fits 64 = .ok (.if_icmp .ne 7, 3) := by decide +kernel
theorem dX2_fits_67 : decode cX2_fits 67 = .ok (.iconst 1, 1) := by decide +kernel
theorem dX2_fits_68 : decode cX2_fits 68 = .ok (.goto 4, 3) := by decide +kernel
theorem dX2_fits_71 : decode cX2_fits 71 = .ok (.iconst 0, 1) := by decide +kernel
theorem dX2_fits_72 : decode cX2_fits 72 = .ok (.ireturn, 1) := by decide +kernel
theorem dX2_brokenPlace_0 : decode cX2_brokenPlace 0 = .ok (.aload_n 0, 1) := by decide +kernel
theorem dX2_brokenPlace_1 : decode cX2_brokenPlace 1 = .ok (.getfield 15, 3) := by decide +kernel
theorem dX2_brokenPlace_4 : decode cX2_brokenPlace 4 = .ok (.ifCond .ne 5, 3) := by decide +kernel
theorem dX2_brokenPlace_7 : decode cX2_brokenPlace 7 = .ok (.iconst 0, 1) := by decide +kernel
theorem dX2_brokenPlace_8 : decode cX2_brokenPlace 8 = .ok (.ireturn, 1) := by decide +kernel
theorem dX2_brokenPlace_9 : decode cX2_brokenPlace 9 = .ok (.iconst 0, 1) := by decide +kernel
theorem dX2_brokenPlace_10 : decode cX2_brokenPlace 10 = .ok (.istore_n 1, 1) := by decide +kernel
theorem dX2_brokenPlace_11 : decode cX2_brokenPlace 11 = .ok (.iload_n 1, 1) := by decide +kernel
theorem dX2_brokenPlace_12 : decode cX2_brokenPlace 12 = .ok (.aload_n 0, 1) := by decide +kernel
theorem dX2_brokenPlace_13 : decode cX2_brokenPlace 13 = .ok (.getfield 15, 3) := by decide +kernel
theorem dX2_brokenPlace_16 : decode cX2_brokenPlace 16 = .ok (.if_icmp .ge 74, 3) := by decide +kernel
theorem dX2_brokenPlace_19 : decode cX2_brokenPlace 19 = .ok (.aload_n 0, 1) := by decide +kernel
theorem dX2_brokenPlace_20 : decode cX2_brokenPlace 20 = .ok (.getfield 9, 3) := by decide +kernel
theorem dX2_brokenPlace_23 : decode cX2_brokenPlace 23 = .ok (.iload_n 1, 1) := by decide +kernel
theorem dX2_brokenPlace_24 : decode cX2_brokenPlace 24 = .ok (.iaload, 1) := by decide +kernel
theorem dX2_brokenPlace_25 : decode cX2_brokenPlace 25 = .ok (.invokestatic 41, 3) := by decide +kernel
theorem dX2_brokenPlace_28 : decode cX2_brokenPlace 28 = .ok (.astore_n 2, 1) := by decide +kernel
theorem dX2_brokenPlace_29 : decode cX2_brokenPlace 29 = .ok (.aload_n 2, 1) := by decide +kernel
theorem dX2_brokenPlace_30 : decode cX2_brokenPlace 30 = .ok (.invokevirtual 45, 3) := by decide +kernel
theorem dX2_brokenPlace_33 : decode cX2_brokenPlace 33 = .ok (.ifCond .eq 5, 3) := by decide +kernel
theorem dX2_brokenPlace_36 : decode cX2_brokenPlace 36 = .ok (.iload_n 1, 1) := by decide +kernel
theorem dX2_brokenPlace_37 : decode cX2_brokenPlace 37 = .ok (.ireturn, 1) := by decide +kernel
theorem dX2_brokenPlace_38 : decode cX2_brokenPlace 38 = .ok (.iinc 1 1, 3) := by decide +kernel
theorem dX2_brokenPlace_41 : decode cX2_brokenPlace 41 = .ok (.iconst 0, 1) := by decide +kernel
theorem dX2_brokenPlace_42 : decode cX2_brokenPlace 42 = .ok (.istore_n 3, 1) := by decide +kernel
theorem dX2_brokenPlace_43 : decode cX2_brokenPlace 43 = .ok (.iload_n 3, 1) := by decide +kernel
theorem dX2_brokenPlace_44 : decode cX2_brokenPlace 44 = .ok (.aload_n 2, 1) := by decide +kernel
theorem dX2_brokenPlace_45 : decode cX2_brokenPlace 45 = .ok (.invokevirtual 48, 3) := by decide +kernel
theorem dX2_brokenPlace_48 : decode cX2_brokenPlace 48 = .ok (.if_icmp .ge 39, 3) := by decide +kernel
theorem dX2_brokenPlace_51 : decode cX2_brokenPlace 51 = .ok (.iload_n 1, 1) := by decide +kernel
theorem dX2_brokenPlace_52 : decode cX2_brokenPlace 52 = .ok (.aload_n 0, 1) := by decide +kernel
theorem dX2_brokenPlace_53 : decode cX2_brokenPlace 53 = .ok (.getfield 15, 3) := by decide +kernel
theorem dX2_brokenPlace_56 : decode cX2_brokenPlace 56 = .ok (.if_icmp .ge 20, 3) := by decide +kernel
theorem dX2_brokenPlace_59 : decode cX2_brokenPlace 59 = .ok (.aload_n 2, 1) := by decide +kernel
theorem dX2_brokenPlace_60 : decode cX2_brokenPlace 60 = .ok (.iload_n 3, 1) := by decide +kernel
theorem dX2_brokenPlace_61 : decode cX2_brokenPlace 61 = .ok (.invokevirtual 51, 3) := by decide +kernel
theorem dX2_brokenPlace_64 : decode cX2_brokenPlace 64 = .ok (.aload_n 0, 1) := by decide +kernel
theorem dX2_brokenPlace_65 : decode cX2_brokenPlace 65 = .ok (.getfield 9, 3) := by decide +kernel
theorem dX2_brokenPlace_68 : decode cX2_brokenPlace 68 = .ok (.iload_n 1, 1) := by decide +kernel
theorem dX2_brokenPlace_69 : decode cX2_brokenPlace 69 = .ok (.iaload, 1) := by decide +kernel
theorem dX2_brokenPlace_70 : decode cX2_brokenPlace 70 = .ok (.invokestatic 55, 3) := by decide +kernel
theorem dX2_brokenPlace_73 : decode cX2_brokenPlace 73 = .ok (.ifCond .ne 5, 3) := by decide +kernel
theorem dX2_brokenPlace_76 : decode cX2_brokenPlace 76 = .ok (.iload_n 1, 1) := by decide +kernel
theorem dX2_brokenPlace_77 : decode cX2_brokenPlace 77 = .ok (.ireturn, 1) := by decide +kernel
theorem dX2_brokenPlace_78 : decode cX2_brokenPlace 78 = .ok (.iinc 1 1, 3) := by decide +kernel
theorem dX2_brokenPlace_81 : decode cX2_brokenPlace 81 = .ok (.iinc 3 1, 3) := by decide +kernel
theorem dX2_brokenPlace_84 : decode cX2_brokenPlace 84 = .ok (.goto (-41), 3) := by decide +kernel
theorem dX2_brokenPlace_87 : decode cX2_brokenPlace 87 = .ok (.goto (-76), 3) := by decide +kernel
theorem dX2_brokenPlace_90 : decode cX2_brokenPlace 90 = .ok (.iconst (-1), 1) := by decide +kernel
theorem dX2_brokenPlace_91 : decode cX2_brokenPlace 91 = .ok (.ireturn, 1) := by decide +kernel
theorem dX2_refusedPlace_0 : decode cX2_refusedPlace 0 = .ok (.aload_n 0, 1) := by decide +kernel
theorem dX2_refusedPlace_1 : decode cX2_refusedPlace 1 = .ok (.iconst 0, 1) := by decide +kernel
theorem dX2_refusedPlace_2 : decode cX2_refusedPlace 2 = .ok (.putfield 59, 3) := by decide +kernel
theorem dX2_refusedPlace_5 : decode cX2_refusedPlace 5 = .ok (.iconst 0, 1) := by decide +kernel
theorem dX2_refusedPlace_6 : decode cX2_refusedPlace 6 = .ok (.istore_n 2, 1) := by decide +kernel
theorem dX2_refusedPlace_7 : decode cX2_refusedPlace 7 = .ok (.iload_n 2, 1) := by decide +kernel
theorem dX2_refusedPlace_8 : decode cX2_refusedPlace 8 = .ok (.aload_n 0, 1) := by decide +kernel
theorem dX2_refusedPlace_9 : decode cX2_refusedPlace 9 = .ok (.getfield 15, 3) := by decide +kernel
theorem dX2_refusedPlace_12 : decode cX2_refusedPlace 12 = .ok (.if_icmp .ge 44, 3) := by decide +kernel
theorem dX2_refusedPlace_15 : decode cX2_refusedPlace 15 = .ok (.aload_n 0, 1) := by decide +kernel
theorem dX2_refusedPlace_16 : decode cX2_refusedPlace 16 = .ok (.iload_n 2, 1) := by decide +kernel
theorem dX2_refusedPlace_17 : decode cX2_refusedPlace 17 = .ok (.aload_n 1, 1) := by decide +kernel
theorem dX2_refusedPlace_18 : decode cX2_refusedPlace 18 = .ok (.invokevirtual 62, 3) := by decide +kernel
theorem dX2_refusedPlace_21 : decode cX2_refusedPlace 21 = .ok (.ifCond .ne 5, 3) := by decide +kernel
theorem dX2_refusedPlace_24 : decode cX2_refusedPlace 24 = .ok (.iload_n 2, 1) := by decide +kernel
theorem dX2_refusedPlace_25 : decode cX2_refusedPlace 25 = .ok (.ireturn, 1) := by decide +kernel
theorem dX2_refusedPlace_26 : decode cX2_refusedPlace 26 = .ok (.aload_n 0, 1) := by decide +kernel
theorem dX2_refusedPlace_27 : decode cX2_refusedPlace 27 = .ok (.dup, 1) := by decide +kernel
theorem dX2_refusedPlace_28 : decode cX2_refusedPlace 28 = .ok (.getfield 59, 3) := by decide +kernel
theorem dX2_refusedPlace_31 : decode cX2_refusedPlace 31 = .ok (.iconst 1, 1) := by decide +kernel
theorem dX2_refusedPlace_32 : decode cX2_refusedPlace 32 = .ok (.iadd, 1) := by decide +kernel
theorem dX2_refusedPlace_33 : decode cX2_refusedPlace 33 = .ok (.putfield 59, 3) := by decide +kernel
theorem dX2_refusedPlace_36 : decode cX2_refusedPlace 36 = .ok (.iload_n 2, 1) := by decide +kernel
theorem dX2_refusedPlace_37 : decode cX2_refusedPlace 37 = .ok (.iconst 1, 1) := by decide +kernel
theorem dX2_refusedPlace_38 : decode cX2_refusedPlace 38 = .ok (.aload_n 0, 1) := by decide +kernel
theorem dX2_refusedPlace_39 : decode cX2_refusedPlace 39 = .ok (.getfield 9, 3) := by decide +kernel
theorem dX2_refusedPlace_42 : decode cX2_refusedPlace 42 = .ok (.iload_n 2, 1) := by decide +kernel
theorem dX2_refusedPlace_43 : decode cX2_refusedPlace 43 = .ok (.iaload, 1) := by decide +kernel
theorem dX2_refusedPlace_44 : decode cX2_refusedPlace 44 = .ok (.invokestatic 41, 3) := by decide +kernel
theorem dX2_refusedPlace_47 : decode cX2_refusedPlace 47 = .ok (.invokevirtual 48, 3) := by decide +kernel
theorem dX2_refusedPlace_50 : decode cX2_refusedPlace 50 = .ok (.iadd, 1) := by decide +kernel
theorem dX2_refusedPlace_51 : decode cX2_refusedPlace 51 = .ok (.iadd, 1) := by decide +kernel
theorem dX2_refusedPlace_52 : decode cX2_refusedPlace 52 = .ok (.istore_n 2, 1) := by decide +kernel
theorem dX2_refusedPlace_53 : decode cX2_refusedPlace 53 = .ok (.goto (-46), 3) := by decide +kernel
theorem dX2_refusedPlace_56 : decode cX2_refusedPlace 56 = .ok (.iconst (-1), 1) := by decide +kernel
theorem dX2_refusedPlace_57 : decode cX2_refusedPlace 57 = .ok (.ireturn, 1) := by decide +kernel
theorem dX2_comes_0 : decode cX2_comes 0 = .ok (.aload_n 0, 1) := by decide +kernel
theorem dX2_comes_1 : decode cX2_comes 1 = .ok (.getfield 9, 3) := by decide +kernel
theorem dX2_comes_4 : decode cX2_comes 4 = .ok (.iload_n 1, 1) := by decide +kernel
theorem dX2_comes_5 : decode cX2_comes 5 = .ok (.iaload, 1) := by decide +kernel
theorem dX2_comes_6 : decode cX2_comes 6 = .ok (.lookupswitch 182 #[(99, 58), (104, 77), (109, 120), (110, 170), (117, 158), (119, 139)], 58) := by decide +kernel
theorem dX2_comes_64 : decode cX2_comes 64 = .ok (.aload_n 2, 1) := by decide +kernel
theorem dX2_comes_65 : decode cX2_comes 65 = .ok (.aload_n 0, 1) := by decide +kernel
theorem dX2_comes_66 : decode cX2_comes 66 = .ok (.iload_n 1, 1) := by decide +kernel
theorem dX2_comes_67 : decode cX2_comes 67 = .ok (.iconst 1, 1) := by decide +kernel
theorem dX2_comes_68 : decode cX2_comes 68 = .ok (.iadd, 1) := by decide +kernel
theorem dX2_comes_69 : decode cX2_comes 69 = .ok (.invokevirtual 66, 3) := by decide +kernel
theorem dX2_comes_72 : decode cX2_comes 72 = .ok (.aload_n 0, 1) := by decide +kernel
theorem dX2_comes_73 : decode cX2_comes 73 = .ok (.iload_n 1, 1) := by decide +kernel
theorem dX2_comes_74 : decode cX2_comes 74 = .ok (.iconst 3, 1) := by decide +kernel
theorem dX2_comes_75 : decode cX2_comes 75 = .ok (.iadd, 1) := by decide +kernel
theorem dX2_comes_76 : decode cX2_comes 76 = .ok (.invokevirtual 69, 3) := by decide +kernel
theorem dX2_comes_79 : decode cX2_comes 79 = .ok (.invokevirtual 72, 3) := by decide +kernel
theorem dX2_comes_82 : decode cX2_comes 82 = .ok (.ireturn, 1) := by decide +kernel
theorem dX2_comes_83 : decode cX2_comes 83 = .ok (.aload_n 2, 1) := by decide +kernel
theorem dX2_comes_84 : decode cX2_comes 84 = .ok (.getfield 78, 3) := by decide +kernel
theorem dX2_comes_87 : decode cX2_comes 87 = .ok (.bipush 7, 2) := by decide +kernel
theorem dX2_comes_89 : decode cX2_comes 89 = .ok (.if_icmp .ge 35, 3) := by decide +kernel
theorem dX2_comes_92 : decode cX2_comes 92 = .ok (.aload_n 2, 1) := by decide +kernel
theorem dX2_comes_93 : decode cX2_comes 93 = .ok (.aload_n 0, 1) := by decide +kernel
theorem dX2_comes_94 : decode cX2_comes 94 = .ok (.iload_n 1, 1) := by decide +kernel
theorem dX2_comes_95 : decode cX2_comes 95 = .ok (.iconst 1, 1) := by decide +kernel
theorem dX2_comes_96 : decode cX2_comes 96 = .ok (.iadd, 1) := by decide +kernel
theorem dX2_comes_97 : decode cX2_comes 97 = .ok (.invokevirtual 81, 3) := by decide +kernel
theorem dX2_comes_100 : decode cX2_comes 100 = .ok (.aload_n 0, 1) := by decide +kernel
theorem dX2_comes_101 : decode cX2_comes 101 = .ok (.iload_n 1, 1) := by decide +kernel
theorem dX2_comes_102 : decode cX2_comes 102 = .ok (.iconst 2, 1) := by decide +kernel
theorem dX2_comes_103 : decode cX2_comes 103 = .ok (.iadd, 1) := by decide +kernel
theorem dX2_comes_104 : decode cX2_comes 104 = .ok (.invokevirtual 69, 3) := by decide +kernel
theorem dX2_comes_107 : decode cX2_comes 107 = .ok (.aload_n 0, 1) := by decide +kernel
theorem dX2_comes_108 : decode cX2_comes 108 = .ok (.iload_n 1, 1) := by decide +kernel
theorem dX2_comes_109 : decode cX2_comes 109 = .ok (.iconst 3, 1) := by decide +kernel
theorem dX2_comes_110 : decode cX2_comes 110 = .ok (.iadd, 1) := by decide +kernel
theorem dX2_comes_111 : decode cX2_comes 111 = .ok (.invokevirtual 66, 3) := by decide +kernel
theorem dX2_comes_114 : decode cX2_comes 114 = .ok (.invokevirtual 84, 3) := by decide +kernel
theorem dX2_comes_117 : decode cX2_comes 117 = .ok (.ifCond .eq 7, 3) := by decide +kernel
theorem dX2_comes_120 : decode cX2_comes 120 = .ok (.iconst 1, 1) := by decide +kernel
theorem dX2_comes_121 : decode cX2_comes 121 = .ok (.goto 4, 3) := by decide +kernel
theorem dX2_comes_124 : decode cX2_comes 124 = .ok (.iconst 0, 1) := by decide +kernel
theorem dX2_comes_125 : decode cX2_comes 125 = .ok (.ireturn, 1) := by decide +kernel
theorem dX2_comes_126 : decode cX2_comes 126 = .ok (.aload_n 2, 1) := by decide +kernel
theorem dX2_comes_127 : decode cX2_comes 127 = .ok (.aload_n 0, 1) := by decide +kernel
theorem dX2_comes_128 : decode cX2_comes 128 = .ok (.iload_n 1, 1) := by decide +kernel
theorem dX2_comes_129 : decode cX2_comes 129 = .ok (.iconst 1, 1) := by decide +kernel
theorem dX2_comes_130 : decode cX2_comes 130 = .ok (.iadd, 1) := by decide +kernel
theorem dX2_comes_131 : decode cX2_comes 131 = .ok (.invokevirtual 69, 3) := by decide +kernel
theorem dX2_comes_134 : decode cX2_comes 134 = .ok (.aload_n 0, 1) := by decide +kernel
theorem dX2_comes_135 : decode cX2_comes 135 = .ok (.iload_n 1, 1) := by decide +kernel
theorem dX2_comes_136 : decode cX2_comes 136 = .ok (.iconst 2, 1) := by decide +kernel
theorem dX2_comes_137 : decode cX2_comes 137 = .ok (.iadd, 1) := by decide +kernel
theorem dX2_comes_138 : decode cX2_comes 138 = .ok (.invokevirtual 66, 3) := by decide +kernel
theorem dX2_comes_141 : decode cX2_comes 141 = .ok (.invokevirtual 88, 3) := by decide +kernel
theorem dX2_comes_144 : decode cX2_comes 144 = .ok (.ireturn, 1) := by decide +kernel
theorem dX2_comes_145 : decode cX2_comes 145 = .ok (.aload_n 2, 1) := by decide +kernel
theorem dX2_comes_146 : decode cX2_comes 146 = .ok (.aload_n 0, 1) := by decide +kernel
theorem dX2_comes_147 : decode cX2_comes 147 = .ok (.iload_n 1, 1) := by decide +kernel
theorem dX2_comes_148 : decode cX2_comes 148 = .ok (.iconst 1, 1) := by decide +kernel
theorem dX2_comes_149 : decode cX2_comes 149 = .ok (.iadd, 1) := by decide +kernel
theorem dX2_comes_150 : decode cX2_comes 150 = .ok (.invokevirtual 69, 3) := by decide +kernel
theorem dX2_comes_153 : decode cX2_comes 153 = .ok (.aload_n 0, 1) := by decide +kernel
theorem dX2_comes_154 : decode cX2_comes 154 = .ok (.iload_n 1, 1) := by decide +kernel
theorem dX2_comes_155 : decode cX2_comes 155 = .ok (.iconst 2, 1) := by decide +kernel
theorem dX2_comes_156 : decode cX2_comes 156 = .ok (.iadd, 1) := by decide +kernel
theorem dX2_comes_157 : decode cX2_comes 157 = .ok (.invokevirtual 66, 3) := by decide +kernel
theorem dX2_comes_160 : decode cX2_comes 160 = .ok (.invokevirtual 91, 3) := by decide +kernel
theorem dX2_comes_163 : decode cX2_comes 163 = .ok (.ireturn, 1) := by decide +kernel
theorem dX2_comes_164 : decode cX2_comes 164 = .ok (.aload_n 2, 1) := by decide +kernel
theorem dX2_comes_165 : decode cX2_comes 165 = .ok (.aload_n 0, 1) := by decide +kernel
theorem dX2_comes_166 : decode cX2_comes 166 = .ok (.iload_n 1, 1) := by decide +kernel
theorem dX2_comes_167 : decode cX2_comes 167 = .ok (.iconst 1, 1) := by decide +kernel
theorem dX2_comes_168 : decode cX2_comes 168 = .ok (.iadd, 1) := by decide +kernel
theorem dX2_comes_169 : decode cX2_comes 169 = .ok (.invokevirtual 69, 3) := by decide +kernel
theorem dX2_comes_172 : decode cX2_comes 172 = .ok (.invokevirtual 94, 3) := by decide +kernel
theorem dX2_comes_175 : decode cX2_comes 175 = .ok (.ireturn, 1) := by decide +kernel
theorem dX2_comes_176 : decode cX2_comes 176 = .ok (.aload_n 2, 1) := by decide +kernel
theorem dX2_comes_177 : decode cX2_comes 177 = .ok (.aload_n 0, 1) := by decide +kernel
theorem dX2_comes_178 : decode cX2_comes 178 = .ok (.iload_n 1, 1) := by decide +kernel
theorem dX2_comes_179 : decode cX2_comes 179 = .ok (.iconst 1, 1) := by decide +kernel
theorem dX2_comes_180 : decode cX2_comes 180 = .ok (.iadd, 1) := by decide +kernel
theorem dX2_comes_181 : decode cX2_comes 181 = .ok (.invokevirtual 66, 3) := by decide +kernel
theorem dX2_comes_184 : decode cX2_comes 184 = .ok (.invokevirtual 98, 3) := by decide +kernel
theorem dX2_comes_187 : decode cX2_comes 187 = .ok (.ireturn, 1) := by decide +kernel
theorem dX2_comes_188 : decode cX2_comes 188 = .ok (.aload_n 2, 1) := by decide +kernel
theorem dX2_comes_189 : decode cX2_comes 189 = .ok (.aload_n 0, 1) := by decide +kernel
theorem dX2_comes_190 : decode cX2_comes 190 = .ok (.iload_n 1, 1) := by decide +kernel
theorem dX2_comes_191 : decode cX2_comes 191 = .ok (.iconst 1, 1) := by decide +kernel
theorem dX2_comes_192 : decode cX2_comes 192 = .ok (.iadd, 1) := by decide +kernel
theorem dX2_comes_193 : decode cX2_comes 193 = .ok (.invokevirtual 69, 3) := by decide +kernel
theorem dX2_comes_196 : decode cX2_comes 196 = .ok (.putfield 101, 3) := by decide +kernel
theorem dX2_comes_199 : decode cX2_comes 199 = .ok (.iconst 1, 1) := by decide +kernel
theorem dX2_comes_200 : decode cX2_comes 200 = .ok (.ireturn, 1) := by decide +kernel
theorem dX2_kindAt_0 : decode cX2_kindAt 0 = .ok (.iload_n 1, 1) := by decide +kernel
theorem dX2_kindAt_1 : decode cX2_kindAt 1 = .ok (.aload_n 0, 1) := by decide +kernel
theorem dX2_kindAt_2 : decode cX2_kindAt 2 = .ok (.getfield 15, 3) := by decide +kernel
theorem dX2_kindAt_5 : decode cX2_kindAt 5 = .ok (.if_icmp .ge 18, 3) := by decide +kernel
theorem dX2_kindAt_8 : decode cX2_kindAt 8 = .ok (.ldc 33, 2) := by decide +kernel
theorem dX2_kindAt_10 : decode cX2_kindAt 10 = .ok (.aload_n 0, 1) := by decide +kernel
theorem dX2_kindAt_11 : decode cX2_kindAt 11 = .ok (.getfield 9, 3) := by decide +kernel
theorem dX2_kindAt_14 : decode cX2_kindAt 14 = .ok (.iload_n 1, 1) := by decide +kernel
theorem dX2_kindAt_15 : decode cX2_kindAt 15 = .ok (.iaload, 1) := by decide +kernel
theorem dX2_kindAt_16 : decode cX2_kindAt 16 = .ok (.i2c, 1) := by decide +kernel
theorem dX2_kindAt_17 : decode cX2_kindAt 17 = .ok (.invokevirtual 35, 3) := by decide +kernel
theorem dX2_kindAt_20 : decode cX2_kindAt 20 = .ok (.goto 4, 3) := by decide +kernel
theorem dX2_kindAt_23 : decode cX2_kindAt 23 = .ok (.iconst 0, 1) := by decide +kernel
theorem dX2_kindAt_24 : decode cX2_kindAt 24 = .ok (.ireturn, 1) := by decide +kernel
theorem dX2_digit_0 : decode cX2_digit 0 = .ok (.iload_n 1, 1) := by decide +kernel
theorem dX2_digit_1 : decode cX2_digit 1 = .ok (.aload_n 0, 1) := by decide +kernel
theorem dX2_digit_2 : decode cX2_digit 2 = .ok (.getfield 15, 3) := by decide +kernel
theorem dX2_digit_5 : decode cX2_digit 5 = .ok (.if_icmp .ge 15, 3) := by decide +kernel
theorem dX2_digit_8 : decode cX2_digit 8 = .ok (.aload_n 0, 1) := by decide +kernel
theorem dX2_digit_9 : decode cX2_digit 9 = .ok (.getfield 9, 3) := by decide +kernel
theorem dX2_digit_12 : decode cX2_digit 12 = .ok (.iload_n 1, 1) := by decide +kernel
theorem dX2_digit_13 : decode cX2_digit 13 = .ok (.iaload, 1) := by decide +kernel
theorem dX2_digit_14 : decode cX2_digit 14 = .ok (.bipush 48, 2) := by decide +kernel
theorem dX2_digit_16 : decode cX2_digit 16 = .ok (.isub, 1) := by decide +kernel
theorem dX2_digit_17 : decode cX2_digit 17 = .ok (.goto 4, 3) := by decide +kernel
theorem dX2_digit_20 : decode cX2_digit 20 = .ok (.iconst 0, 1) := by decide +kernel
theorem dX2_digit_21 : decode cX2_digit 21 = .ok (.ireturn, 1) := by decide +kernel
theorem dX2_twoDigits_0 : decode cX2_twoDigits 0 = .ok (.bipush 10, 2) := by decide +kernel
theorem dX2_twoDigits_2 : decode cX2_twoDigits 2 = .ok (.aload_n 0, 1) := by decide +kernel
theorem dX2_twoDigits_3 : decode cX2_twoDigits 3 = .ok (.iload_n 1, 1) := by decide +kernel
theorem dX2_twoDigits_4 : decode cX2_twoDigits 4 = .ok (.invokevirtual 69, 3) := by decide +kernel
theorem dX2_twoDigits_7 : decode cX2_twoDigits 7 = .ok (.imul, 1) := by decide +kernel
theorem dX2_twoDigits_8 : decode cX2_twoDigits 8 = .ok (.aload_n 0, 1) := by decide +kernel
theorem dX2_twoDigits_9 : decode cX2_twoDigits 9 = .ok (.iload_n 1, 1) := by decide +kernel
theorem dX2_twoDigits_10 : decode cX2_twoDigits 10 = .ok (.iconst 1, 1) := by decide +kernel
theorem dX2_twoDigits_11 : decode cX2_twoDigits 11 = .ok (.iadd, 1) := by decide +kernel
theorem dX2_twoDigits_12 : decode cX2_twoDigits 12 = .ok (.invokevirtual 69, 3) := by decide +kernel
theorem dX2_twoDigits_15 : decode cX2_twoDigits 15 = .ok (.iadd, 1) := by decide +kernel
theorem dX2_twoDigits_16 : decode cX2_twoDigits 16 = .ok (.ireturn, 1) := by decide +kernel
theorem dX3_init_0 : decode cX3_init 0 = .ok (.aload_n 0, 1) := by decide +kernel
theorem dX3_init_1 : decode cX3_init 1 = .ok (.invokespecial 3, 3) := by decide +kernel
theorem dX3_init_4 : decode cX3_init 4 = .ok (.aload_n 0, 1) := by decide +kernel
theorem dX3_init_5 : decode cX3_init 5 = .ok (.bipush 8, 2) := by decide +kernel
theorem dX3_init_7 : decode cX3_init 7 = .ok (.newarray .int, 2) := by decide +kernel
theorem dX3_init_9 : decode cX3_init 9 = .ok (.putfield 11, 3) := by decide +kernel
theorem dX3_init_12 : decode cX3_init 12 = .ok (.aload_n 0, 1) := by decide +kernel
theorem dX3_init_13 : decode cX3_init 13 = .ok (.bipush 8, 2) := by decide +kernel
theorem dX3_init_15 : decode cX3_init 15 = .ok (.newarray .int, 2) := by decide +kernel
theorem dX3_init_17 : decode cX3_init 17 = .ok (.putfield 17, 3) := by decide +kernel
theorem dX3_init_20 : decode cX3_init 20 = .ok (.return_, 1) := by decide +kernel
theorem dX3_lookOver_0 : decode cX3_lookOver 0 = .ok (.aload_n 0, 1) := by decide +kernel
theorem dX3_lookOver_1 : decode cX3_lookOver 1 = .ok (.aload_n 1, 1) := by decide +kernel
theorem dX3_lookOver_2 : decode cX3_lookOver 2 = .ok (.invokevirtual 20, 3) := by decide +kernel
theorem dX3_lookOver_5 : decode cX3_lookOver 5 = .ok (.aload_n 0, 1) := by decide +kernel
theorem dX3_lookOver_6 : decode cX3_lookOver 6 = .ok (.aload_n 1, 1) := by decide +kernel
theorem dX3_lookOver_7 : decode cX3_lookOver 7 = .ok (.invokevirtual 24, 3) := by decide +kernel
theorem dX3_lookOver_10 : decode cX3_lookOver 10 = .ok (.return_, 1) := by decide +kernel
theorem dX3_measure_0 : decode cX3_measure 0 = .ok (.aload_n 0, 1) := by decide +kernel
theorem dX3_measure_1 : decode cX3_measure 1 = .ok (.aload_n 1, 1) := by decide +kernel
theorem dX3_measure_2 : decode cX3_measure 2 = .ok (.getfield 27, 3) := by decide +kernel
theorem dX3_measure_5 : decode cX3_measure 5 = .ok (.putfield 31, 3) := by decide +kernel
theorem dX3_measure_8 : decode cX3_measure 8 = .ok (.iconst 0, 1) := by decide +kernel
theorem dX3_measure_9 : decode cX3_measure 9 = .ok (.istore_n 2, 1) := by decide +kernel
theorem dX3_measure_10 : decode cX3_measure 10 = .ok (.iload_n 2, 1) := by decide +kernel
theorem dX3_measure_11 : decode cX3_measure 11 = .ok (.aload_n 0, 1) := by decide +kernel
theorem dX3_measure_12 : decode cX3_measure 12 = .ok (.getfield 31, 3) := by decide +kernel
theorem dX3_measure_15 : decode cX3_measure 15 = .ok (.if_icmp .ge 20, 3) := by decide +kernel
theorem dX3_measure_18 : decode cX3_measure 18 = .ok (.aload_n 0, 1) := by decide +kernel
theorem dX3_measure_19 : decode cX3_measure 19 = .ok (.getfield 11, 3) := by decide +kernel
theorem dX3_measure_22 : decode cX3_measure 22 = .ok (.iload_n 2, 1) := by decide +kernel
theorem dX3_measure_23 : decode cX3_measure 23 = .ok (.aload_n 1, 1) := by decide +kernel
theorem dX3_measure_24 : decode cX3_measure 24 = .ok (.iload_n 2, 1) := by decide +kernel
theorem dX3_measure_25 : decode cX3_measure 25 = .ok (.invokevirtual 32, 3) := by decide +kernel
theorem dX3_measure_28 : decode cX3_measure 28 = .ok (.iastore, 1) := by decide +kernel
theorem dX3_measure_29 : decode cX3_measure 29 = .ok (.iinc 2 1, 3) := by decide +kernel
theorem dX3_measure_32 : decode cX3_measure 32 = .ok (.goto (-22), 3) := by decide +kernel
theorem dX3_measure_35 : decode cX3_measure 35 = .ok (.return_, 1) := by decide +kernel
theorem dX3_look_0 : decode cX3_look 0 = .ok (.aload_n 0, 1) := by decide +kernel
theorem dX3_look_1 : decode cX3_look 1 = .ok (.iconst 0, 1) := by decide +kernel
theorem dX3_look_2 : decode cX3_look 2 = .ok (.putfield 36, 3) := by decide +kernel
theorem dX3_look_5 : decode cX3_look 5 = .ok (.iconst 0, 1) := by decide +kernel
theorem dX3_look_6 : decode cX3_look 6 = .ok (.istore_n 2, 1) := by decide +kernel
theorem dX3_look_7 : decode cX3_look 7 = .ok (.iload_n 2, 1) := by decide +kernel
theorem dX3_look_8 : decode cX3_look 8 = .ok (.aload_n 0, 1) := by decide +kernel
theorem dX3_look_9 : decode cX3_look 9 = .ok (.getfield 31, 3) := by decide +kernel
theorem dX3_look_12 : decode cX3_look 12 = .ok (.if_icmp .ge 118, 3) := by decide +kernel
theorem dX3_look_15 : decode cX3_look 15 = .ok (.aload_n 0, 1) := by decide +kernel
theorem dX3_look_16 : decode cX3_look 16 = .ok (.getfield 17, 3) := by decide +kernel
theorem dX3_look_19 : decode cX3_look 19 = .ok (.iload_n 2, 1) := by decide +kernel
theorem dX3_look_20 : decode cX3_look 20 = .ok (.iconst 0, 1) := by decide +kernel
theorem dX3_look_21 : decode cX3_look 21 = .ok (.iastore, 1) := by decide +kernel
theorem dX3_look_22 : decode cX3_look 22 = .ok (.aload_n 1, 1) := by decide +kernel
theorem dX3_look_23 : decode cX3_look 23 = .ok (.aload_n 1, 1) := by decide +kernel
theorem dX3_look_24 : decode cX3_look 24 = .ok (.getfield 39, 3) := by decide +kernel
theorem dX3_look_27 : decode cX3_look 27 = .ok (.iload_n 2, 1) := by decide +kernel
theorem dX3_look_28 : decode cX3_look 28 = .ok (.iaload, 1) := by decide +kernel
theorem dX3_look_29 : decode cX3_look 29 = .ok (.aload_n 0, 1) := by decide +kernel
theorem dX3_look_30 : decode cX3_look 30 = .ok (.getfield 11, 3) := by decide +kernel
theorem dX3_look_33 : decode cX3_look 33 = .ok (.iload_n 2, 1) := by decide +kernel
theorem dX3_look_34 : decode cX3_look 34 = .ok (.iaload, 1) := by decide +kernel
theorem dX3_look_35 : decode cX3_look 35 = .ok (.bipush 20, 2) := by decide +kernel
theorem dX3_look_37 : decode cX3_look 37 = .ok (.iconst 0, 1) := by decide +kernel
theorem dX3_look_38 : decode cX3_look 38 = .ok (.invokestatic 42, 3) := by decide +kernel
theorem dX3_look_41 : decode cX3_look 41 = .ok (.ifCond .eq 15, 3) := by decide +kernel
theorem dX3_look_44 : decode cX3_look 44 = .ok (.aload_n 0, 1) := by decide +kernel
theorem dX3_look_45 : decode cX3_look 45 = .ok (.dup, 1) := by decide +kernel
theorem dX3_look_46 : decode cX3_look 46 = .ok (.getfield 36, 3) := by decide +kernel
theorem dX3_look_49 : decode cX3_look 49 = .ok (.iconst 1, 1) := by decide +kernel
theorem dX3_look_50 : decode cX3_look 50 = .ok (.iload_n 2, 1) := by decide +kernel
theorem dX3_look_51 : decode cX3_look 51 = .ok (.ishl, 1) := by decide +kernel
theorem dX3_look_52 : decode cX3_look 52 = .ok (.ior, 1) := by decide +kernel
theorem dX3_look_53 : decode cX3_look 53 = .ok (.putfield 36, 3) := by decide +kernel
theorem dX3_look_56 : decode cX3_look 56 = .ok (.iconst 0, 1) := by decide +kernel
theorem dX3_look_57 : decode cX3_look 57 = .ok (.istore_n 3, 1) := by decide +kernel
theorem dX3_look_58 : decode cX3_look 58 = .ok (.iload_n 3, 1) := by decide +kernel
theorem dX3_look_59 : decode cX3_look 59 = .ok (.iload_n 2, 1) := by decide +kernel
theorem dX3_look_60 : decode cX3_look 60 = .ok (.if_icmp .ge 64, 3) := by decide +kernel
theorem dX3_look_63 : decode cX3_look 63 = .ok (.aload_n 1, 1) := by decide +kernel
theorem dX3_look_64 : decode cX3_look 64 = .ok (.aload_n 1, 1) := by decide +kernel
theorem dX3_look_65 : decode cX3_look 65 = .ok (.getfield 39, 3) := by decide +kernel
theorem dX3_look_68 : decode cX3_look 68 = .ok (.iload_n 2, 1) := by decide +kernel
theorem dX3_look_69 : decode cX3_look 69 = .ok (.iaload, 1) := by decide +kernel
theorem dX3_look_70 : decode cX3_look 70 = .ok (.aload_n 0, 1) := by decide +kernel
theorem dX3_look_71 : decode cX3_look 71 = .ok (.getfield 11, 3) := by decide +kernel
theorem dX3_look_74 : decode cX3_look 74 = .ok (.iload_n 2, 1) := by decide +kernel
theorem dX3_look_75 : decode cX3_look 75 = .ok (.iaload, 1) := by decide +kernel
theorem dX3_look_76 : decode cX3_look 76 = .ok (.aload_n 1, 1) := by decide +kernel
theorem dX3_look_77 : decode cX3_look 77 = .ok (.getfield 39, 3) := by decide +kernel
theorem dX3_look_80 : decode cX3_look 80 = .ok (.iload_n 3, 1) := by decide +kernel
theorem dX3_look_81 : decode cX3_look 81 = .ok (.iaload, 1) := by decide +kernel
theorem dX3_look_82 : decode cX3_look 82 = .ok (.aload_n 0, 1) := by decide +kernel
theorem dX3_look_83 : decode cX3_look 83 = .ok (.getfield 11, 3) := by decide +kernel
theorem dX3_look_86 : decode cX3_look 86 = .ok (.iload_n 3, 1) := by decide +kernel
theorem dX3_look_87 : decode cX3_look 87 = .ok (.iaload, 1) := by decide +kernel
theorem dX3_look_88 : decode cX3_look 88 = .ok (.invokestatic 42, 3) := by decide +kernel
theorem dX3_look_91 : decode cX3_look 91 = .ok (.ifCond .eq 27, 3) := by decide +kernel
theorem dX3_look_94 : decode cX3_look 94 = .ok (.aload_n 0, 1) := by decide +kernel
theorem dX3_look_95 : decode cX3_look 95 = .ok (.getfield 17, 3) := by decide +kernel
theorem dX3_look_98 : decode cX3_look 98 = .ok (.iload_n 2, 1) := by decide +kernel
theorem dX3_look_99 : decode cX3_look 99 = .ok (.dup2, 1) := by decide +kernel
theorem dX3_look_100 : decode cX3_look 100 = .ok (.iaload, 1) := by decide +kernel
theorem dX3_look_101 : decode cX3_look 101 = .ok (.iconst 1, 1) := by decide +kernel
theorem dX3_look_102 : decode cX3_look 102 = .ok (.iload_n 3, 1) := by decide +kernel
theorem dX3_look_103 : decode cX3_look 103 = .ok (.ishl, 1) := by decide +kernel
theorem dX3_look_104 : decode cX3_look 104 = .ok (.ior, 1) := by decide +kernel
theorem dX3_look_105 : decode cX3_look 105 = .ok (.iastore, 1) := by decide +kernel
theorem dX3_look_106 : decode cX3_look 106 = .ok (.aload_n 0, 1) := by decide +kernel
theorem dX3_look_107 : decode cX3_look 107 = .ok (.getfield 17, 3) := by decide +kernel
theorem dX3_look_110 : decode cX3_look 110 = .ok (.iload_n 3, 1) := by decide +kernel
theorem dX3_look_111 : decode cX3_look 111 = .ok (.dup2, 1) := by decide +kernel
theorem dX3_look_112 : decode cX3_look 112 = .ok (.iaload, 1) := by decide +kernel
theorem dX3_look_113 : decode cX3_look 113 = .ok (.iconst 1, 1) := by decide +kernel
theorem dX3_look_114 : decode cX3_look 114 = .ok (.iload_n 2, 1) := by decide +kernel
theorem dX3_look_115 : decode cX3_look 115 = .ok (.ishl, 1) := by decide +kernel
theorem dX3_look_116 : decode cX3_look 116 = .ok (.ior, 1) := by decide +kernel
theorem dX3_look_117 : decode cX3_look 117 = .ok (.iastore, 1) := by decide +kernel
theorem dX3_look_118 : decode cX3_look 118 = .ok (.iinc 3 1, 3) := by decide +kernel
theorem dX3_look_121 : decode cX3_look 121 = .ok (.goto (-63), 3) := by decide +kernel
theorem dX3_look_124 : decode cX3_look 124 = .ok (.iinc 2 1, 3) := by decide +kernel
theorem dX3_look_127 : decode cX3_look 127 = .ok (.goto (-120), 3) := by decide +kernel
theorem dX3_look_130 : decode cX3_look 130 = .ok (.return_, 1) := by decide +kernel
theorem dX3_isOpen_0 : decode cX3_isOpen 0 = .ok (.iload_n 1, 1) := by decide +kernel
theorem dX3_isOpen_1 : decode cX3_isOpen 1 = .ok (.iload_n 3, 1) := by decide +kernel
theorem dX3_isOpen_2 : decode cX3_isOpen 2 = .ok (.invokestatic 46, 3) := by decide +kernel
theorem dX3_isOpen_5 : decode cX3_isOpen 5 = .ok (.istore 5, 2) := by decide +kernel
theorem dX3_isOpen_7 : decode cX3_isOpen 7 = .ok (.iload_n 1, 1) := by decide +kernel
theorem dX3_isOpen_8 : decode cX3_isOpen 8 = .ok (.iload_n 3, 1) := by decide +kernel
theorem dX3_isOpen_9 : decode cX3_isOpen 9 = .ok (.invokestatic 52, 3) := by decide +kernel
theorem dX3_isOpen_12 : decode cX3_isOpen 12 = .ok (.istore 6, 2) := by decide +kernel
theorem dX3_isOpen_14 : decode cX3_isOpen 14 = .ok (.iload 6, 2) := by decide +kernel
theorem dX3_isOpen_16 : decode cX3_isOpen 16 = .ok (.iload 5, 2) := by decide +kernel
theorem dX3_isOpen_18 : decode cX3_isOpen 18 = .ok (.isub, 1) := by decide +kernel
theorem dX3_isOpen_19 : decode cX3_isOpen 19 = .ok (.bipush 20, 2) := by decide +kernel
theorem dX3_isOpen_21 : decode cX3_isOpen 21 = .ok (.iconst 2, 1) := by decide +kernel
theorem dX3_isOpen_22 : decode cX3_isOpen 22 = .ok (.aload_n 0, 1) := by decide +kernel
theorem dX3_isOpen_23 : decode cX3_isOpen 23 = .ok (.getfield 55, 3) := by decide +kernel
theorem dX3_isOpen_26 : decode cX3_isOpen 26 = .ok (.imul, 1) := by decide +kernel
theorem dX3_isOpen_27 : decode cX3_isOpen 27 = .ok (.isub, 1) := by decide +kernel
theorem dX3_isOpen_28 : decode cX3_isOpen 28 = .ok (.if_icmp .le 5, 3) := by decide +kernel
theorem dX3_isOpen_31 : decode cX3_isOpen 31 = .ok (.iconst 0, 1) := by decide +kernel
theorem dX3_isOpen_32 : decode cX3_isOpen 32 = .ok (.ireturn, 1) := by decide +kernel
theorem dX3_isOpen_33 : decode cX3_isOpen 33 = .ok (.iload_n 1, 1) := by decide +kernel
theorem dX3_isOpen_34 : decode cX3_isOpen 34 = .ok (.iload_n 3, 1) := by decide +kernel
theorem dX3_isOpen_35 : decode cX3_isOpen 35 = .ok (.if_icmp .gt 7, 3) := by decide +kernel
theorem dX3_isOpen_38 : decode cX3_isOpen 38 = .ok (.iload_n 2, 1) := by decide +kernel
theorem dX3_isOpen_39 : decode cX3_isOpen 39 = .ok (.goto 5, 3) := by decide +kernel
theorem dX3_isOpen_42 : decode cX3_isOpen 42 = .ok (.iload 4, 2) := by decide +kernel
theorem dX3_isOpen_44 : decode cX3_isOpen 44 = .ok (.istore 7, 2) := by decide +kernel
theorem dX3_isOpen_46 : decode cX3_isOpen 46 = .ok (.iload_n 1, 1) := by decide +kernel
theorem dX3_isOpen_47 : decode cX3_isOpen 47 = .ok (.iload_n 3, 1) := by decide +kernel
theorem dX3_isOpen_48 : decode cX3_isOpen 48 = .ok (.if_icmp .gt 8, 3) := by decide +kernel
theorem dX3_isOpen_51 : decode cX3_isOpen 51 = .ok (.iload 4, 2) := by decide +kernel
theorem dX3_isOpen_53 : decode cX3_isOpen 53 = .ok (.goto 4, 3) := by decide +kernel
theorem dX3_isOpen_56 : decode cX3_isOpen 56 = .ok (.iload_n 2, 1) := by decide +kernel
theorem dX3_isOpen_57 : decode cX3_isOpen 57 = .ok (.istore 8, 2) := by decide +kernel
theorem dX3_isOpen_59 : decode cX3_isOpen 59 = .ok (.iload 5, 2) := by decide +kernel
theorem dX3_isOpen_61 : decode cX3_isOpen 61 = .ok (.iconst 1, 1) := by decide +kernel
theorem dX3_isOpen_62 : decode cX3_isOpen 62 = .ok (.iadd, 1) := by decide +kernel
theorem dX3_isOpen_63 : decode cX3_isOpen 63 = .ok (.istore 9, 2) := by decide +kernel
theorem dX3_isOpen_65 : decode cX3_isOpen 65 = .ok (.iload 9, 2) := by decide +kernel
theorem dX3_isOpen_67 : decode cX3_isOpen 67 = .ok (.iload 6, 2) := by decide +kernel
theorem dX3_isOpen_69 : decode cX3_isOpen 69 = .ok (.if_icmp .ge 28, 3) := by decide +kernel
theorem dX3_isOpen_72 : decode cX3_isOpen 72 = .ok (.aload_n 0, 1) := by decide +kernel
theorem dX3_isOpen_73 : decode cX3_isOpen 73 = .ok (.iload 9, 2) := by decide +kernel
theorem dX3_isOpen_75 : decode cX3_isOpen 75 = .ok (.iload 5, 2) := by decide +kernel
theorem dX3_isOpen_77 : decode cX3_isOpen 77 = .ok (.iload 7, 2) := by decide +kernel
theorem dX3_isOpen_79 : decode cX3_isOpen 79 = .ok (.iload 6, 2) := by decide +kernel
theorem dX3_isOpen_81 : decode cX3_isOpen 81 = .ok (.iload 8, 2) := by decide +kernel
theorem dX3_isOpen_83 : decode cX3_isOpen 83 = .ok (.invokestatic 58, 3) := by decide +kernel
theorem dX3_isOpen_86 : decode cX3_isOpen 86 = .ok (.ifCond .lt 5, 3) := by decide +kernel
theorem dX3_isOpen_89 : decode cX3_isOpen 89 = .ok (.iconst 0, 1) := by decide +kernel
theorem dX3_isOpen_90 : decode cX3_isOpen 90 = .ok (.ireturn, 1) := by decide +kernel
theorem dX3_isOpen_91 : decode cX3_isOpen 91 = .ok (.iinc 9 1, 3) := by decide +kernel
theorem dX3_isOpen_94 : decode cX3_isOpen 94 = .ok (.goto (-29), 3) := by decide +kernel
theorem dX3_isOpen_97 : decode cX3_isOpen 97 = .ok (.iconst 1, 1) := by decide +kernel
theorem dX3_isOpen_98 : decode cX3_isOpen 98 = .ok (.ireturn, 1) := by decide +kernel
theorem dX3_aboveLine_0 : decode cX3_aboveLine 0 = .ok (.iload_n 1, 1) := by decide +kernel
theorem dX3_aboveLine_1 : decode cX3_aboveLine 1 = .ok (.ifCond .lt 18, 3) := by decide +kernel
theorem dX3_aboveLine_4 : decode cX3_aboveLine 4 = .ok (.iload_n 1, 1) := by decide +kernel
theorem dX3_aboveLine_5 : decode cX3_aboveLine 5 = .ok (.bipush 20, 2) := by decide +kernel
theorem dX3_aboveLine_7 : decode cX3_aboveLine 7 = .ok (.if_icmp .ge 12, 3) := by decide +kernel
theorem dX3_aboveLine_10 : decode cX3_aboveLine 10 = .ok (.aload_n 0, 1) := by decide +kernel
theorem dX3_aboveLine_11 : decode cX3_aboveLine 11 = .ok (.getfield 62, 3) := by decide +kernel
theorem dX3_aboveLine_14 : decode cX3_aboveLine 14 = .ok (.iload_n 1, 1) := by decide +kernel
theorem dX3_aboveLine_15 : decode cX3_aboveLine 15 = .ok (.iaload, 1) := by decide +kernel
theorem dX3_aboveLine_16 : decode cX3_aboveLine 16 = .ok (.goto 4, 3) := by decide +kernel
theorem dX3_aboveLine_19 : decode cX3_aboveLine 19 = .ok (.iconst 0, 1) := by decide +kernel
theorem dX3_aboveLine_20 : decode cX3_aboveLine 20 = .ok (.istore 6, 2) := by decide +kernel
theorem dX3_aboveLine_22 : decode cX3_aboveLine 22 = .ok (.iload 6, 2) := by decide +kernel
theorem dX3_aboveLine_24 : decode cX3_aboveLine 24 = .ok (.iload 4, 2) := by decide +kernel
theorem dX3_aboveLine_26 : decode cX3_aboveLine 26 = .ok (.iload_n 2, 1) := by decide +kernel
theorem dX3_aboveLine_27 : decode cX3_aboveLine 27 = .ok (.isub, 1) := by decide +kernel
theorem dX3_aboveLine_28 : decode cX3_aboveLine 28 = .ok (.imul, 1) := by decide +kernel
theorem dX3_aboveLine_29 : decode cX3_aboveLine 29 = .ok (.iload_n 3, 1) := by decide +kernel
theorem dX3_aboveLine_30 : decode cX3_aboveLine 30 = .ok (.iload 4, 2) := by decide +kernel
theorem dX3_aboveLine_32 : decode cX3_aboveLine 32 = .ok (.iload_n 1, 1) := by decide +kernel
theorem dX3_aboveLine_33 : decode cX3_aboveLine 33 = .ok (.isub, 1) := by decide +kernel
theorem dX3_aboveLine_34 : decode cX3_aboveLine 34 = .ok (.imul, 1) := by decide +kernel
theorem dX3_aboveLine_35 : decode cX3_aboveLine 35 = .ok (.isub, 1) := by decide +kernel
theorem dX3_aboveLine_36 : decode cX3_aboveLine 36 = .ok (.iload 5, 2) := by decide +kernel
theorem dX3_aboveLine_38 : decode cX3_aboveLine 38 = .ok (.iload_n 1, 1) := by decide +kernel
theorem dX3_aboveLine_39 : decode cX3_aboveLine 39 = .ok (.iload_n 2, 1) := by decide +kernel
theorem dX3_aboveLine_40 : decode cX3_aboveLine 40 = .ok (.isub, 1) := by decide +kernel
theorem dX3_aboveLine_41 : decode cX3_aboveLine 41 = .ok (.imul, 1) := by decide +kernel
theorem dX3_aboveLine_42 : decode cX3_aboveLine 42 = .ok (.isub, 1) := by decide +kernel
theorem dX3_aboveLine_43 : decode cX3_aboveLine 43 = .ok (.ireturn, 1) := by decide +kernel
theorem dX3_hanging_0 : decode cX3_hanging 0 = .ok (.iload_n 1, 1) := by decide +kernel
theorem dX3_hanging_1 : decode cX3_hanging 1 = .ok (.aload_n 0, 1) := by decide +kernel
theorem dX3_hanging_2 : decode cX3_hanging 2 = .ok (.getfield 36, 3) := by decide +kernel
theorem dX3_hanging_5 : decode cX3_hanging 5 = .ok (.iand, 1) := by decide +kernel
theorem dX3_hanging_6 : decode cX3_hanging 6 = .ok (.istore_n 2, 1) := by decide +kernel
theorem dX3_hanging_7 : decode cX3_hanging 7 = .ok (.iload_n 2, 1) := by decide +kernel
theorem dX3_hanging_8 : decode cX3_hanging 8 = .ok (.istore_n 3, 1) := by decide +kernel
theorem dX3_hanging_9 : decode cX3_hanging 9 = .ok (.iconst 0, 1) := by decide +kernel
theorem dX3_hanging_10 : decode cX3_hanging 10 = .ok (.istore 4, 2) := by decide +kernel
theorem dX3_hanging_12 : decode cX3_hanging 12 = .ok (.iload 4, 2) := by decide +kernel
theorem dX3_hanging_14 : decode cX3_hanging 14 = .ok (.aload_n 0, 1) := by decide +kernel
theorem dX3_hanging_15 : decode cX3_hanging 15 = .ok (.getfield 31, 3) := by decide +kernel
theorem dX3_hanging_18 : decode cX3_hanging 18 = .ok (.if_icmp .ge 28, 3) := by decide +kernel
theorem dX3_hanging_21 : decode cX3_hanging 21 = .ok (.iload_n 3, 1) := by decide +kernel
theorem dX3_hanging_22 : decode cX3_hanging 22 = .ok (.ifCond .eq 24, 3) := by decide +kernel
theorem dX3_hanging_25 : decode cX3_hanging 25 = .ok (.aload_n 0, 1) := by decide +kernel
theorem dX3_hanging_26 : decode cX3_hanging 26 = .ok (.iload_n 1, 1) := by decide +kernel
theorem dX3_hanging_27 : decode cX3_hanging 27 = .ok (.iload_n 2, 1) := by decide +kernel
theorem dX3_hanging_28 : decode cX3_hanging 28 = .ok (.iconst (-1), 1) := by decide +kernel
theorem dX3_hanging_29 : decode cX3_hanging 29 = .ok (.ixor, 1) := by decide +kernel
theorem dX3_hanging_30 : decode cX3_hanging 30 = .ok (.iand, 1) := by decide +kernel
theorem dX3_hanging_31 : decode cX3_hanging 31 = .ok (.iload_n 3, 1) := by decide +kernel
theorem dX3_hanging_32 : decode cX3_hanging 32 = .ok (.invokevirtual 65, 3) := by decide +kernel
theorem dX3_hanging_35 : decode cX3_hanging 35 = .ok (.istore_n 3, 1) := by decide +kernel
theorem dX3_hanging_36 : decode cX3_hanging 36 = .ok (.iload_n 2, 1) := by decide +kernel
theorem dX3_hanging_37 : decode cX3_hanging 37 = .ok (.iload_n 3, 1) := by decide +kernel
theorem dX3_hanging_38 : decode cX3_hanging 38 = .ok (.ior, 1) := by decide +kernel
theorem dX3_hanging_39 : decode cX3_hanging 39 = .ok (.istore_n 2, 1) := by decide +kernel
theorem dX3_hanging_40 : decode cX3_hanging 40 = .ok (.iinc 4 1, 3) := by decide +kernel
theorem dX3_hanging_43 : decode cX3_hanging 43 = .ok (.goto (-31), 3) := by decide +kernel
theorem dX3_hanging_46 : decode cX3_hanging 46 = .ok (.iload_n 2, 1) := by decide +kernel
theorem dX3_hanging_47 : decode cX3_hanging 47 = .ok (.ireturn, 1) := by decide +kernel
theorem dX3_seeing_0 : decode cX3_seeing 0 = .ok (.iconst 0, 1) := by decide +kernel
theorem dX3_seeing_1 : decode cX3_seeing 1 = .ok (.istore_n 3, 1) := by decide +kernel
theorem dX3_seeing_2 : decode cX3_seeing 2 = .ok (.iconst 0, 1) := by decide +kernel
theorem dX3_seeing_3 : decode cX3_seeing 3 = .ok (.istore 4, 2) := by decide +kernel
theorem dX3_seeing_5 : decode cX3_seeing 5 = .ok (.iload 4, 2) := by decide +kernel
theorem dX3_seeing_7 : decode cX3_seeing 7 = .ok (.aload_n 0, 1) := by decide +kernel
theorem dX3_seeing_8 : decode cX3_seeing 8 = .ok (.getfield 31, 3) := by decide +kernel
theorem dX3_seeing_11 : decode cX3_seeing 11 = .ok (.if_icmp .ge 37, 3) := by decide +kernel
theorem dX3_seeing_14 : decode cX3_seeing 14 = .ok (.iload_n 1, 1) := by decide +kernel
theorem dX3_seeing_15 : decode cX3_seeing 15 = .ok (.iload 4, 2) := by decide +kernel
theorem dX3_seeing_17 : decode cX3_seeing 17 = .ok (.invokestatic 68, 3) := by decide +kernel
theorem dX3_seeing_20 : decode cX3_seeing 20 = .ok (.ifCond .eq 22, 3) := by decide +kernel
theorem dX3_seeing_23 : decode cX3_seeing 23 = .ok (.aload_n 0, 1) := by decide +kernel
theorem dX3_seeing_24 : decode cX3_seeing 24 = .ok (.getfield 17, 3) := by decide +kernel
theorem dX3_seeing_27 : decode cX3_seeing 27 = .ok (.iload 4, 2) := by decide +kernel
theorem dX3_seeing_29 : decode cX3_seeing 29 = .ok (.iaload, 1) := by decide +kernel
theorem dX3_seeing_30 : decode cX3_seeing 30 = .ok (.iload_n 2, 1) := by decide +kernel
theorem dX3_seeing_31 : decode cX3_seeing 31 = .ok (.iand, 1) := by decide +kernel
theorem dX3_seeing_32 : decode cX3_seeing 32 = .ok (.ifCond .eq 10, 3) := by decide +kernel
theorem dX3_seeing_35 : decode cX3_seeing 35 = .ok (.iload_n 3, 1) := by decide +kernel
theorem dX3_seeing_36 : decode cX3_seeing 36 = .ok (.iconst 1, 1) := by decide +kernel
theorem dX3_seeing_37 : decode cX3_seeing 37 = .ok (.iload 4, 2) := by decide +kernel
theorem dX3_seeing_39 : decode cX3_seeing 39 = .ok (.ishl, 1) := by decide +kernel
theorem dX3_seeing_40 : decode cX3_seeing 40 = .ok (.ior, 1) := by decide +kernel
theorem dX3_seeing_41 : decode cX3_seeing 41 = .ok (.istore_n 3, 1) := by decide +kernel
theorem dX3_seeing_42 : decode cX3_seeing 42 = .ok (.iinc 4 1, 3) := by decide +kernel
theorem dX3_seeing_45 : decode cX3_seeing 45 = .ok (.goto (-40), 3) := by decide +kernel
theorem dX3_seeing_48 : decode cX3_seeing 48 = .ok (.iload_n 3, 1) := by decide +kernel
theorem dX3_seeing_49 : decode cX3_seeing 49 = .ok (.ireturn, 1) := by decide +kernel
theorem dX4_init_0 : decode cX4_init 0 = .ok (.aload_n 0, 1) := by decide +kernel
theorem dX4_init_1 : decode cX4_init 1 = .ok (.invokespecial 3, 3) := by decide +kernel
theorem dX4_init_4 : decode cX4_init 4 = .ok (.aload_n 0, 1) := by decide +kernel
theorem dX4_init_5 : decode cX4_init 5 = .ok (.new 9, 3) := by decide +kernel
theorem dX4_init_8 : decode cX4_init 8 = .ok (.dup, 1) := by decide +kernel
theorem dX4_init_9 : decode cX4_init 9 = .ok (.invokespecial 11, 3) := by decide +kernel
theorem dX4_init_12 : decode cX4_init 12 = .ok (.putfield 12, 3) := by decide +kernel
theorem dX4_init_15 : decode cX4_init 15 = .ok (.aload_n 0, 1) := by decide +kernel
theorem dX4_init_16 : decode cX4_init 16 = .ok (.new 9, 3) := by decide +kernel
theorem dX4_init_19 : decode cX4_init 19 = .ok (.dup, 1) := by decide +kernel
theorem dX4_init_20 : decode cX4_init 20 = .ok (.invokespecial 11, 3) := by decide +kernel
theorem dX4_init_23 : decode cX4_init 23 = .ok (.putfield 18, 3) := by decide +kernel
theorem dX4_init_26 : decode cX4_init 26 = .ok (.aload_n 0, 1) := by decide +kernel
theorem dX4_init_27 : decode cX4_init 27 = .ok (.new 21, 3) := by decide +kernel
theorem dX4_init_30 : decode cX4_init 30 = .ok (.dup, 1) := by decide +kernel
theorem dX4_init_31 : decode cX4_init 31 = .ok (.invokespecial 23, 3) := by decide +kernel
theorem dX4_init_34 : decode cX4_init 34 = .ok (.putfield 24, 3) := by decide +kernel
theorem dX4_init_37 : decode cX4_init 37 = .ok (.aload_n 0, 1) := by decide +kernel
theorem dX4_init_38 : decode cX4_init 38 = .ok (.new 21, 3) := by decide +kernel
theorem dX4_init_41 : decode cX4_init 41 = .ok (.dup, 1) := by decide +kernel
theorem dX4_init_42 : decode cX4_init 42 = .ok (.invokespecial 23, 3) := by decide +kernel
theorem dX4_init_45 : decode cX4_init 45 = .ok (.putfield 28, 3) := by decide +kernel
theorem dX4_init_48 : decode cX4_init 48 = .ok (.aload_n 0, 1) := by decide +kernel
theorem dX4_init_49 : decode cX4_init 49 = .ok (.bipush 8, 2) := by decide +kernel
theorem dX4_init_51 : decode cX4_init 51 = .ok (.newarray .int, 2) := by decide +kernel
theorem dX4_init_53 : decode cX4_init 53 = .ok (.putfield 31, 3) := by decide +kernel
theorem dX4_init_56 : decode cX4_init 56 = .ok (.aload_n 0, 1) := by decide +kernel
theorem dX4_init_57 : decode cX4_init 57 = .ok (.iconst 4, 1) := by decide +kernel
theorem dX4_init_58 : decode cX4_init 58 = .ok (.newarray .int, 2) := by decide +kernel
theorem dX4_init_60 : decode cX4_init 60 = .ok (.putfield 35, 3) := by decide +kernel
theorem dX4_init_63 : decode cX4_init 63 = .ok (.aload_n 0, 1) := by decide +kernel
theorem dX4_init_64 : decode cX4_init 64 = .ok (.iconst 4, 1) := by decide +kernel
theorem dX4_init_65 : decode cX4_init 65 = .ok (.newarray .int, 2) := by decide +kernel
theorem dX4_init_67 : decode cX4_init 67 = .ok (.putfield 38, 3) := by decide +kernel
theorem dX4_init_70 : decode cX4_init 70 = .ok (.return_, 1) := by decide +kernel
theorem dX4_begin_0 : decode cX4_begin 0 = .ok (.aload_n 0, 1) := by decide +kernel
theorem dX4_begin_1 : decode cX4_begin 1 = .ok (.getfield 18, 3) := by decide +kernel
theorem dX4_begin_4 : decode cX4_begin 4 = .ok (.aload_n 0, 1) := by decide +kernel
theorem dX4_begin_5 : decode cX4_begin 5 = .ok (.getfield 12, 3) := by decide +kernel
theorem dX4_begin_8 : decode cX4_begin 8 = .ok (.invokevirtual 41, 3) := by decide +kernel
theorem dX4_begin_11 : decode cX4_begin 11 = .ok (.aload_n 0, 1) := by decide +kernel
theorem dX4_begin_12 : decode cX4_begin 12 = .ok (.getfield 24, 3) := by decide +kernel
theorem dX4_begin_15 : decode cX4_begin 15 = .ok (.aload_n 0, 1) := by decide +kernel
theorem dX4_begin_16 : decode cX4_begin 16 = .ok (.getfield 18, 3) := by decide +kernel
theorem dX4_begin_19 : decode cX4_begin 19 = .ok (.invokevirtual 45, 3) := by decide +kernel
theorem dX4_begin_22 : decode cX4_begin 22 = .ok (.aload_n 0, 1) := by decide +kernel
theorem dX4_begin_23 : decode cX4_begin 23 = .ok (.getfield 24, 3) := by decide +kernel
theorem dX4_begin_26 : decode cX4_begin 26 = .ok (.aload_n 0, 1) := by decide +kernel
theorem dX4_begin_27 : decode cX4_begin 27 = .ok (.getfield 18, 3) := by decide +kernel
theorem dX4_begin_30 : decode cX4_begin 30 = .ok (.invokevirtual 48, 3) := by decide +kernel
theorem dX4_begin_33 : decode cX4_begin 33 = .ok (.return_, 1) := by decide +kernel
theorem dX4_hangers_0 : decode cX4_hangers 0 = .ok (.aload_n 0, 1) := by decide +kernel
theorem dX4_hangers_1 : decode cX4_hangers 1 = .ok (.getfield 24, 3) := by decide +kernel
theorem dX4_hangers_4 : decode cX4_hangers 4 = .ok (.aload_n 0, 1) := by decide +kernel
theorem dX4_hangers_5 : decode cX4_hangers 5 = .ok (.getfield 18, 3) := by decide +kernel
theorem dX4_hangers_8 : decode cX4_hangers 8 = .ok (.invokevirtual 51, 3) := by decide +kernel
theorem dX4_hangers_11 : decode cX4_hangers 11 = .ok (.invokevirtual 55, 3) := by decide +kernel
theorem dX4_hangers_14 : decode cX4_hangers 14 = .ok (.ireturn, 1) := by decide +kernel
theorem dX4_hangTogether_0 : decode cX4_hangTogether 0 = .ok (.iconst 0, 1) := by decide +kernel
theorem dX4_hangTogether_1 : decode cX4_hangTogether 1 = .ok (.istore_n 2, 1) := by decide +kernel
theorem dX4_hangTogether_2 : decode cX4_hangTogether 2 = .ok (.iconst 0, 1) := by decide +kernel
theorem dX4_hangTogether_3 : decode cX4_hangTogether 3 = .ok (.istore_n 3, 1) := by decide +kernel
theorem dX4_hangTogether_4 : decode cX4_hangTogether 4 = .ok (.iload_n 3, 1) := by decide +kernel
theorem dX4_hangTogether_5 : decode cX4_hangTogether 5 = .ok (.iload_n 1, 1) := by decide +kernel
theorem dX4_hangTogether_6 : decode cX4_hangTogether 6 = .ok (.if_icmp .gt 36, 3) := by decide +kernel
theorem dX4_hangTogether_9 : decode cX4_hangTogether 9 = .ok (.iload_n 2, 1) := by decide +kernel
theorem dX4_hangTogether_10 : decode cX4_hangTogether 10 = .ok (.aload_n 0, 1) := by decide +kernel
theorem dX4_hangTogether_11 : decode cX4_hangTogether 11 = .ok (.getfield 24, 3) := by decide +kernel
theorem dX4_hangTogether_14 : decode cX4_hangTogether 14 = .ok (.aload_n 0, 1) := by decide +kernel
theorem dX4_hangTogether_15 : decode cX4_hangTogether 15 = .ok (.getfield 18, 3) := by decide +kernel
theorem dX4_hangTogether_18 : decode cX4_hangTogether 18 = .ok (.invokevirtual 51, 3) := by decide +kernel
theorem dX4_hangTogether_21 : decode cX4_hangTogether 21 = .ok (.invokevirtual 55, 3) := by decide +kernel
theorem dX4_hangTogether_24 : decode cX4_hangTogether 24 = .ok (.invokestatic 59, 3) := by decide +kernel
theorem dX4_hangTogether_27 : decode cX4_hangTogether 27 = .ok (.iadd, 1) := by decide +kernel
theorem dX4_hangTogether_28 : decode cX4_hangTogether 28 = .ok (.istore_n 2, 1) := by decide +kernel
theorem dX4_hangTogether_29 : decode cX4_hangTogether 29 = .ok (.aload_n 0, 1) := by decide +kernel
theorem dX4_hangTogether_30 : decode cX4_hangTogether 30 = .ok (.getfield 18, 3) := by decide +kernel
theorem dX4_hangTogether_33 : decode cX4_hangTogether 33 = .ok (.invokevirtual 64, 3) := by decide +kernel
theorem dX4_hangTogether_36 : decode cX4_hangTogether 36 = .ok (.iinc 3 1, 3) := by decide +kernel
theorem dX4_hangTogether_39 : decode cX4_hangTogether 39 = .ok (.goto (-35), 3) := by decide +kernel
theorem dX4_hangTogether_42 : decode cX4_hangTogether 42 = .ok (.iload_n 2, 1) := by decide +kernel
theorem dX4_hangTogether_43 : decode cX4_hangTogether 43 = .ok (.ireturn, 1) := by decide +kernel
theorem dX4_litBehind_0 : decode cX4_litBehind 0 = .ok (.aload_n 0, 1) := by decide +kernel
theorem dX4_litBehind_1 : decode cX4_litBehind 1 = .ok (.getfield 18, 3) := by decide +kernel
theorem dX4_litBehind_4 : decode cX4_litBehind 4 = .ok (.aload_n 0, 1) := by decide +kernel
theorem dX4_litBehind_5 : decode cX4_litBehind 5 = .ok (.getfield 12, 3) := by decide +kernel
theorem dX4_litBehind_8 : decode cX4_litBehind 8 = .ok (.invokevirtual 41, 3) := by decide +kernel
theorem dX4_litBehind_11 : decode cX4_litBehind 11 = .ok (.aload_n 0, 1) := by decide +kernel
theorem dX4_litBehind_12 : decode cX4_litBehind 12 = .ok (.getfield 18, 3) := by decide +kernel
theorem dX4_litBehind_15 : decode cX4_litBehind 15 = .ok (.iload_n 1, 1) := by decide +kernel
theorem dX4_litBehind_16 : decode cX4_litBehind 16 = .ok (.invokevirtual 67, 3) := by decide +kernel
theorem dX4_litBehind_19 : decode cX4_litBehind 19 = .ok (.aload_n 0, 1) := by decide +kernel
theorem dX4_litBehind_20 : decode cX4_litBehind 20 = .ok (.getfield 18, 3) := by decide +kernel
theorem dX4_litBehind_23 : decode cX4_litBehind 23 = .ok (.invokevirtual 51, 3) := by decide +kernel
theorem dX4_litBehind_26 : decode cX4_litBehind 26 = .ok (.ireturn, 1) := by decide +kernel
theorem dX4_hangingBehind_0 : decode cX4_hangingBehind 0 = .ok (.aload_n 0, 1) := by decide +kernel
theorem dX4_hangingBehind_1 : decode cX4_hangingBehind 1 = .ok (.invokevirtual 71, 3) := by decide +kernel
theorem dX4_hangingBehind_4 : decode cX4_hangingBehind 4 = .ok (.aload_n 0, 1) := by decide +kernel
theorem dX4_hangingBehind_5 : decode cX4_hangingBehind 5 = .ok (.getfield 18, 3) := by decide +kernel
theorem dX4_hangingBehind_8 : decode cX4_hangingBehind 8 = .ok (.iload_n 1, 1) := by decide +kernel
theorem dX4_hangingBehind_9 : decode cX4_hangingBehind 9 = .ok (.invokevirtual 67, 3) := by decide +kernel
theorem dX4_hangingBehind_12 : decode cX4_hangingBehind 12 = .ok (.aload_n 0, 1) := by decide +kernel
theorem dX4_hangingBehind_13 : decode cX4_hangingBehind 13 = .ok (.invokevirtual 74, 3) := by decide +kernel
theorem dX4_hangingBehind_16 : decode cX4_hangingBehind 16 = .ok (.ireturn, 1) := by decide +kernel
theorem dX4_wicksBehind_0 : decode cX4_wicksBehind 0 = .ok (.aload_n 0, 1) := by decide +kernel
theorem dX4_wicksBehind_1 : decode cX4_wicksBehind 1 = .ok (.getfield 18, 3) := by decide +kernel
theorem dX4_wicksBehind_4 : decode cX4_wicksBehind 4 = .ok (.aload_n 0, 1) := by decide +kernel
theorem dX4_wicksBehind_5 : decode cX4_wicksBehind 5 = .ok (.getfield 12, 3) := by decide +kernel
theorem dX4_wicksBehind_8 : decode cX4_wicksBehind 8 = .ok (.invokevirtual 41, 3) := by decide +kernel
theorem dX4_wicksBehind_11 : decode cX4_wicksBehind 11 = .ok (.aload_n 0, 1) := by decide +kernel
theorem dX4_wicksBehind_12 : decode cX4_wicksBehind 12 = .ok (.getfield 18, 3) := by decide +kernel
theorem dX4_wicksBehind_15 : decode cX4_wicksBehind 15 = .ok (.iload_n 2, 1) := by decide +kernel
theorem dX4_wicksBehind_16 : decode cX4_wicksBehind 16 = .ok (.invokevirtual 67, 3) := by decide +kernel
theorem dX4_wicksBehind_19 : decode cX4_wicksBehind 19 = .ok (.aload_n 0, 1) := by decide +kernel
theorem dX4_wicksBehind_20 : decode cX4_wicksBehind 20 = .ok (.getfield 18, 3) := by decide +kernel
theorem dX4_wicksBehind_23 : decode cX4_wicksBehind 23 = .ok (.getfield 77, 3) := by decide +kernel
theorem dX4_wicksBehind_26 : decode cX4_wicksBehind 26 = .ok (.iload_n 1, 1) := by decide +kernel
theorem dX4_wicksBehind_27 : decode cX4_wicksBehind 27 = .ok (.iaload, 1) := by decide +kernel
theorem dX4_wicksBehind_28 : decode cX4_wicksBehind 28 = .ok (.ireturn, 1) := by decide +kernel
theorem dX4_darkBehind_0 : decode cX4_darkBehind 0 = .ok (.aload_n 0, 1) := by decide +kernel
theorem dX4_darkBehind_1 : decode cX4_darkBehind 1 = .ok (.invokevirtual 71, 3) := by decide +kernel
theorem dX4_darkBehind_4 : decode cX4_darkBehind 4 = .ok (.iconst 0, 1) := by decide +kernel
theorem dX4_darkBehind_5 : decode cX4_darkBehind 5 = .ok (.istore_n 2, 1) := by decide +kernel
theorem dX4_darkBehind_6 : decode cX4_darkBehind 6 = .ok (.iload_n 2, 1) := by decide +kernel
theorem dX4_darkBehind_7 : decode cX4_darkBehind 7 = .ok (.bipush 60, 2) := by decide +kernel
theorem dX4_darkBehind_9 : decode cX4_darkBehind 9 = .ok (.if_icmp .gt 29, 3) := by decide +kernel
theorem dX4_darkBehind_12 : decode cX4_darkBehind 12 = .ok (.aload_n 0, 1) := by decide +kernel
theorem dX4_darkBehind_13 : decode cX4_darkBehind 13 = .ok (.invokevirtual 74, 3) := by decide +kernel
theorem dX4_darkBehind_16 : decode cX4_darkBehind 16 = .ok (.iload_n 1, 1) := by decide +kernel
theorem dX4_darkBehind_17 : decode cX4_darkBehind 17 = .ok (.invokestatic 80, 3) := by decide +kernel
theorem dX4_darkBehind_20 : decode cX4_darkBehind 20 = .ok (.ifCond .ne 5, 3) := by decide +kernel
theorem dX4_darkBehind_23 : decode cX4_darkBehind 23 = .ok (.iload_n 2, 1) := by decide +kernel
theorem dX4_darkBehind_24 : decode cX4_darkBehind 24 = .ok (.ireturn, 1) := by decide +kernel
theorem dX4_darkBehind_25 : decode cX4_darkBehind 25 = .ok (.aload_n 0, 1) := by decide +kernel
theorem dX4_darkBehind_26 : decode cX4_darkBehind 26 = .ok (.getfield 18, 3) := by decide +kernel
theorem dX4_darkBehind_29 : decode cX4_darkBehind 29 = .ok (.invokevirtual 64, 3) := by decide +kernel
theorem dX4_darkBehind_32 : decode cX4_darkBehind 32 = .ok (.iinc 2 1, 3) := by decide +kernel
theorem dX4_darkBehind_35 : decode cX4_darkBehind 35 = .ok (.goto (-29), 3) := by decide +kernel
theorem dX4_darkBehind_38 : decode cX4_darkBehind 38 = .ok (.bipush (-9), 2) := by decide +kernel
theorem dX4_darkBehind_40 : decode cX4_darkBehind 40 = .ok (.ireturn, 1) := by decide +kernel
theorem dX4_firstDark_0 : decode cX4_firstDark 0 = .ok (.aload_n 0, 1) := by decide +kernel
theorem dX4_firstDark_1 : decode cX4_firstDark 1 = .ok (.invokevirtual 71, 3) := by decide +kernel
theorem dX4_firstDark_4 : decode cX4_firstDark 4 = .ok (.aload_n 0, 1) := by decide +kernel
theorem dX4_firstDark_5 : decode cX4_firstDark 5 = .ok (.invokevirtual 74, 3) := by decide +kernel
theorem dX4_firstDark_8 : decode cX4_firstDark 8 = .ok (.istore_n 1, 1) := by decide +kernel
theorem dX4_firstDark_9 : decode cX4_firstDark 9 = .ok (.iconst 0, 1) := by decide +kernel
theorem dX4_firstDark_10 : decode cX4_firstDark 10 = .ok (.istore_n 2, 1) := by decide +kernel
theorem dX4_firstDark_11 : decode cX4_firstDark 11 = .ok (.iload_n 2, 1) := by decide +kernel
theorem dX4_firstDark_12 : decode cX4_firstDark 12 = .ok (.bipush 60, 2) := by decide +kernel
theorem dX4_firstDark_14 : decode cX4_firstDark 14 = .ok (.if_icmp .gt 34, 3) := by decide +kernel
theorem dX4_firstDark_17 : decode cX4_firstDark 17 = .ok (.iload_n 1, 1) := by decide +kernel
theorem dX4_firstDark_18 : decode cX4_firstDark 18 = .ok (.aload_n 0, 1) := by decide +kernel
theorem dX4_firstDark_19 : decode cX4_firstDark 19 = .ok (.invokevirtual 74, 3) := by decide +kernel
theorem dX4_firstDark_22 : decode cX4_firstDark 22 = .ok (.iconst (-1), 1) := by decide +kernel
theorem dX4_firstDark_23 : decode cX4_firstDark 23 = .ok (.ixor, 1) := by decide +kernel
theorem dX4_firstDark_24 : decode cX4_firstDark 24 = .ok (.iand, 1) := by decide +kernel
theorem dX4_firstDark_25 : decode cX4_firstDark 25 = .ok (.istore_n 3, 1) := by decide +kernel
theorem dX4_firstDark_26 : decode cX4_firstDark 26 = .ok (.iload_n 3, 1) := by decide +kernel
theorem dX4_firstDark_27 : decode cX4_firstDark 27 = .ok (.ifCond .eq 8, 3) := by decide +kernel
theorem dX4_firstDark_30 : decode cX4_firstDark 30 = .ok (.iload_n 3, 1) := by decide +kernel
theorem dX4_firstDark_31 : decode cX4_firstDark 31 = .ok (.invokestatic 84, 3) := by decide +kernel
theorem dX4_firstDark_34 : decode cX4_firstDark 34 = .ok (.ireturn, 1) := by decide +kernel
theorem dX4_firstDark_35 : decode cX4_firstDark 35 = .ok (.aload_n 0, 1) := by decide +kernel
theorem dX4_firstDark_36 : decode cX4_firstDark 36 = .ok (.getfield 18, 3) := by decide +kernel
theorem dX4_firstDark_39 : decode cX4_firstDark 39 = .ok (.invokevirtual 64, 3) := by decide +kernel
theorem dX4_firstDark_42 : decode cX4_firstDark 42 = .ok (.iinc 2 1, 3) := by decide +kernel
theorem dX4_firstDark_45 : decode cX4_firstDark 45 = .ok (.goto (-34), 3) := by decide +kernel
theorem dX4_firstDark_48 : decode cX4_firstDark 48 = .ok (.bipush (-9), 2) := by decide +kernel
theorem dX4_firstDark_50 : decode cX4_firstDark 50 = .ok (.ireturn, 1) := by decide +kernel
theorem dX4_wholeBehind_0 : decode cX4_wholeBehind 0 = .ok (.aload_n 0, 1) := by decide +kernel
theorem dX4_wholeBehind_1 : decode cX4_wholeBehind 1 = .ok (.invokevirtual 71, 3) := by decide +kernel
theorem dX4_wholeBehind_4 : decode cX4_wholeBehind 4 = .ok (.iconst 0, 1) := by decide +kernel
theorem dX4_wholeBehind_5 : decode cX4_wholeBehind 5 = .ok (.istore_n 1, 1) := by decide +kernel
theorem dX4_wholeBehind_6 : decode cX4_wholeBehind 6 = .ok (.iload_n 1, 1) := by decide +kernel
theorem dX4_wholeBehind_7 : decode cX4_wholeBehind 7 = .ok (.bipush 60, 2) := by decide +kernel
theorem dX4_wholeBehind_9 : decode cX4_wholeBehind 9 = .ok (.if_icmp .gt 32, 3) := by decide +kernel
theorem dX4_wholeBehind_12 : decode cX4_wholeBehind 12 = .ok (.aload_n 0, 1) := by decide +kernel
theorem dX4_wholeBehind_13 : decode cX4_wholeBehind 13 = .ok (.invokevirtual 74, 3) := by decide +kernel
theorem dX4_wholeBehind_16 : decode cX4_wholeBehind 16 = .ok (.aload_n 0, 1) := by decide +kernel
theorem dX4_wholeBehind_17 : decode cX4_wholeBehind 17 = .ok (.getfield 18, 3) := by decide +kernel
theorem dX4_wholeBehind_20 : decode cX4_wholeBehind 20 = .ok (.invokevirtual 87, 3) := by decide +kernel
theorem dX4_wholeBehind_23 : decode cX4_wholeBehind 23 = .ok (.if_icmp .ne 5, 3) := by decide +kernel
theorem dX4_wholeBehind_26 : decode cX4_wholeBehind 26 = .ok (.iload_n 1, 1) := by decide +kernel
theorem dX4_wholeBehind_27 : decode cX4_wholeBehind 27 = .ok (.ireturn, 1) := by decide +kernel
theorem dX4_wholeBehind_28 : decode cX4_wholeBehind 28 = .ok (.aload_n 0, 1) := by decide +kernel
theorem dX4_wholeBehind_29 : decode cX4_wholeBehind 29 = .ok (.getfield 18, 3) := by decide +kernel
theorem dX4_wholeBehind_32 : decode cX4_wholeBehind 32 = .ok (.invokevirtual 64, 3) := by decide +kernel
theorem dX4_wholeBehind_35 : decode cX4_wholeBehind 35 = .ok (.iinc 1 1, 3) := by decide +kernel
theorem dX4_wholeBehind_38 : decode cX4_wholeBehind 38 = .ok (.goto (-32), 3) := by decide +kernel
theorem dX4_wholeBehind_41 : decode cX4_wholeBehind 41 = .ok (.bipush (-9), 2) := by decide +kernel
theorem dX4_wholeBehind_43 : decode cX4_wholeBehind 43 = .ok (.ireturn, 1) := by decide +kernel
theorem dX4_seenBy_0 : decode cX4_seenBy 0 = .ok (.aload_n 0, 1) := by decide +kernel
theorem dX4_seenBy_1 : decode cX4_seenBy 1 = .ok (.invokevirtual 71, 3) := by decide +kernel
theorem dX4_seenBy_4 : decode cX4_seenBy 4 = .ok (.aload_n 0, 1) := by decide +kernel
theorem dX4_seenBy_5 : decode cX4_seenBy 5 = .ok (.getfield 24, 3) := by decide +kernel
theorem dX4_seenBy_8 : decode cX4_seenBy 8 = .ok (.getfield 90, 3) := by decide +kernel
theorem dX4_seenBy_11 : decode cX4_seenBy 11 = .ok (.iload_n 1, 1) := by decide +kernel
theorem dX4_seenBy_12 : decode cX4_seenBy 12 = .ok (.iaload, 1) := by decide +kernel
theorem dX4_seenBy_13 : decode cX4_seenBy 13 = .ok (.aload_n 0, 1) := by decide +kernel
theorem dX4_seenBy_14 : decode cX4_seenBy 14 = .ok (.getfield 24, 3) := by decide +kernel
theorem dX4_seenBy_17 : decode cX4_seenBy 17 = .ok (.getfield 93, 3) := by decide +kernel
theorem dX4_seenBy_20 : decode cX4_seenBy 20 = .ok (.iload_n 1, 1) := by decide +kernel
theorem dX4_seenBy_21 : decode cX4_seenBy 21 = .ok (.invokestatic 80, 3) := by decide +kernel
theorem dX4_seenBy_24 : decode cX4_seenBy 24 = .ok (.ifCond .eq 9, 3) := by decide +kernel
theorem dX4_seenBy_27 : decode cX4_seenBy 27 = .ok (.sipush 128, 3) := by decide +kernel
theorem dX4_seenBy_30 : decode cX4_seenBy 30 = .ok (.goto 4, 3) := by decide +kernel
theorem dX4_seenBy_33 : decode cX4_seenBy 33 = .ok (.iconst 0, 1) := by decide +kernel
theorem dX4_seenBy_34 : decode cX4_seenBy 34 = .ok (.ior, 1) := by decide +kernel
theorem dX4_seenBy_35 : decode cX4_seenBy 35 = .ok (.ireturn, 1) := by decide +kernel
theorem dX4_cellInTheWay_0 : decode cX4_cellInTheWay 0 = .ok (.aload_n 0, 1) := by decide +kernel
theorem dX4_cellInTheWay_1 : decode cX4_cellInTheWay 1 = .ok (.invokevirtual 71, 3) := by decide +kernel
theorem dX4_cellInTheWay_4 : decode cX4_cellInTheWay 4 = .ok (.aload_n 0, 1) := by decide +kernel
theorem dX4_cellInTheWay_5 : decode cX4_cellInTheWay 5 = .ok (.getfield 18, 3) := by decide +kernel
theorem dX4_cellInTheWay_8 : decode cX4_cellInTheWay 8 = .ok (.getfield 97, 3) := by decide +kernel
theorem dX4_cellInTheWay_11 : decode cX4_cellInTheWay 11 = .ok (.iload_n 1, 1) := by decide +kernel
theorem dX4_cellInTheWay_12 : decode cX4_cellInTheWay 12 = .ok (.iaload, 1) := by decide +kernel
theorem dX4_cellInTheWay_13 : decode cX4_cellInTheWay 13 = .ok (.aload_n 0, 1) := by decide +kernel
theorem dX4_cellInTheWay_14 : decode cX4_cellInTheWay 14 = .ok (.getfield 18, 3) := by decide +kernel
theorem dX4_cellInTheWay_17 : decode cX4_cellInTheWay 17 = .ok (.getfield 97, 3) := by decide +kernel
theorem dX4_cellInTheWay_20 : decode cX4_cellInTheWay 20 = .ok (.iload_n 2, 1) := by decide +kernel
theorem dX4_cellInTheWay_21 : decode cX4_cellInTheWay 21 = .ok (.iaload, 1) := by decide +kernel
theorem dX4_cellInTheWay_22 : decode cX4_cellInTheWay 22 = .ok (.if_icmp .gt 7, 3) := by decide +kernel
theorem dX4_cellInTheWay_25 : decode cX4_cellInTheWay 25 = .ok (.iload_n 1, 1) := by decide +kernel
theorem dX4_cellInTheWay_26 : decode cX4_cellInTheWay 26 = .ok (.goto 4, 3) := by decide +kernel
theorem dX4_cellInTheWay_29 : decode cX4_cellInTheWay 29 = .ok (.iload_n 2, 1) := by decide +kernel
theorem dX4_cellInTheWay_30 : decode cX4_cellInTheWay 30 = .ok (.istore_n 3, 1) := by decide +kernel
theorem dX4_cellInTheWay_31 : decode cX4_cellInTheWay 31 = .ok (.iload_n 3, 1) := by decide +kernel
theorem dX4_cellInTheWay_32 : decode cX4_cellInTheWay 32 = .ok (.iload_n 1, 1) := by decide +kernel
theorem dX4_cellInTheWay_33 : decode cX4_cellInTheWay 33 = .ok (.if_icmp .ne 7, 3) := by decide +kernel
theorem dX4_cellInTheWay_36 : decode cX4_cellInTheWay 36 = .ok (.iload_n 2, 1) := by decide +kernel
theorem dX4_cellInTheWay_37 : decode cX4_cellInTheWay 37 = .ok (.goto 4, 3) := by decide +kernel
theorem dX4_cellInTheWay_40 : decode cX4_cellInTheWay 40 = .ok (.iload_n 1, 1) := by decide +kernel
theorem dX4_cellInTheWay_41 : decode cX4_cellInTheWay 41 = .ok (.istore 4, 2) := by decide +kernel
theorem dX4_cellInTheWay_43 : decode cX4_cellInTheWay 43 = .ok (.aload_n 0, 1) := by decide +kernel
theorem dX4_cellInTheWay_44 : decode cX4_cellInTheWay 44 = .ok (.getfield 18, 3) := by decide +kernel
theorem dX4_cellInTheWay_47 : decode cX4_cellInTheWay 47 = .ok (.getfield 97, 3) := by decide +kernel
theorem dX4_cellInTheWay_50 : decode cX4_cellInTheWay 50 = .ok (.iload_n 3, 1) := by decide +kernel
theorem dX4_cellInTheWay_51 : decode cX4_cellInTheWay 51 = .ok (.iaload, 1) := by decide +kernel
theorem dX4_cellInTheWay_52 : decode cX4_cellInTheWay 52 = .ok (.istore 5, 2) := by decide +kernel
theorem dX4_cellInTheWay_54 : decode cX4_cellInTheWay 54 = .ok (.aload_n 0, 1) := by decide +kernel
theorem dX4_cellInTheWay_55 : decode cX4_cellInTheWay 55 = .ok (.getfield 18, 3) := by decide +kernel
theorem dX4_cellInTheWay_58 : decode cX4_cellInTheWay 58 = .ok (.getfield 97, 3) := by decide +kernel
theorem dX4_cellInTheWay_61 : decode cX4_cellInTheWay 61 = .ok (.iload 4, 2) := by decide +kernel
theorem dX4_cellInTheWay_63 : decode cX4_cellInTheWay 63 = .ok (.iaload, 1) := by decide +kernel
theorem dX4_cellInTheWay_64 : decode cX4_cellInTheWay 64 = .ok (.istore 6, 2) := by decide +kernel
theorem dX4_cellInTheWay_66 : decode cX4_cellInTheWay 66 = .ok (.bipush (-9), 2) := by decide +kernel
theorem dX4_cellInTheWay_68 : decode cX4_cellInTheWay 68 = .ok (.istore 7, 2) := by decide +kernel
theorem dX4_cellInTheWay_70 : decode cX4_cellInTheWay 70 = .ok (.iconst 0, 1) := by decide +kernel
theorem dX4_cellInTheWay_71 : decode cX4_cellInTheWay 71 = .ok (.istore 8, 2) := by decide +kernel
theorem dX4_cellInTheWay_73 : decode cX4_cellInTheWay 73 = .ok (.iload 5, 2) := by decide +kernel
theorem dX4_cellInTheWay_75 : decode cX4_cellInTheWay 75 = .ok (.iconst 1, 1) := by decide +kernel
theorem dX4_cellInTheWay_76 : decode cX4_cellInTheWay 76 = .ok (.iadd, 1) := by decide +kernel
theorem dX4_cellInTheWay_77 : decode cX4_cellInTheWay 77 = .ok (.istore 9, 2) := by decide +kernel
theorem dX4_cellInTheWay_79 : decode cX4_cellInTheWay 79 = .ok (.iload 9, 2) := by decide +kernel
theorem dX4_cellInTheWay_81 : decode cX4_cellInTheWay 81 = .ok (.iload 6, 2) := by decide +kernel
theorem dX4_cellInTheWay_83 : decode cX4_cellInTheWay 83 = .ok (.if_icmp .ge 65, 3) := by decide +kernel
theorem dX4_cellInTheWay_86 : decode cX4_cellInTheWay 86 = .ok (.aload_n 0, 1) := by decide +kernel
theorem dX4_cellInTheWay_87 : decode cX4_cellInTheWay 87 = .ok (.getfield 18, 3) := by decide +kernel
theorem dX4_cellInTheWay_90 : decode cX4_cellInTheWay 90 = .ok (.iload 9, 2) := by decide +kernel
theorem dX4_cellInTheWay_92 : decode cX4_cellInTheWay 92 = .ok (.iload 5, 2) := by decide +kernel
theorem dX4_cellInTheWay_94 : decode cX4_cellInTheWay 94 = .ok (.aload_n 0, 1) := by decide +kernel
theorem dX4_cellInTheWay_95 : decode cX4_cellInTheWay 95 = .ok (.getfield 24, 3) := by decide +kernel
theorem dX4_cellInTheWay_98 : decode cX4_cellInTheWay 98 = .ok (.getfield 100, 3) := by decide +kernel
theorem dX4_cellInTheWay_101 : decode cX4_cellInTheWay 101 = .ok (.iload_n 3, 1) := by decide +kernel
theorem dX4_cellInTheWay_102 : decode cX4_cellInTheWay 102 = .ok (.iaload, 1) := by decide +kernel
theorem dX4_cellInTheWay_103 : decode cX4_cellInTheWay 103 = .ok (.iload 6, 2) := by decide +kernel
theorem dX4_cellInTheWay_105 : decode cX4_cellInTheWay 105 = .ok (.aload_n 0, 1) := by decide +kernel
theorem dX4_cellInTheWay_106 : decode cX4_cellInTheWay 106 = .ok (.getfield 24, 3) := by decide +kernel
theorem dX4_cellInTheWay_109 : decode cX4_cellInTheWay 109 = .ok (.getfield 100, 3) := by decide +kernel
theorem dX4_cellInTheWay_112 : decode cX4_cellInTheWay 112 = .ok (.iload 4, 2) := by decide +kernel
theorem dX4_cellInTheWay_114 : decode cX4_cellInTheWay 114 = .ok (.iaload, 1) := by decide +kernel
theorem dX4_cellInTheWay_115 : decode cX4_cellInTheWay 115 = .ok (.invokestatic 103, 3) := by decide +kernel
theorem dX4_cellInTheWay_118 : decode cX4_cellInTheWay 118 = .ok (.istore 10, 2) := by decide +kernel
theorem dX4_cellInTheWay_120 : decode cX4_cellInTheWay 120 = .ok (.iload 7, 2) := by decide +kernel
theorem dX4_cellInTheWay_122 : decode cX4_cellInTheWay 122 = .ok (.bipush (-9), 2) := by decide +kernel
theorem dX4_cellInTheWay_124 : decode cX4_cellInTheWay 124 = .ok (.if_icmp .eq 10, 3) := by decide +kernel
theorem dX4_cellInTheWay_127 : decode cX4_cellInTheWay 127 = .ok (.iload 10, 2) := by decide +kernel
theorem dX4_cellInTheWay_129 : decode cX4_cellInTheWay 129 = .ok (.iload 8, 2) := by decide +kernel
theorem dX4_cellInTheWay_131 : decode cX4_cellInTheWay 131 = .ok (.if_icmp .le 11, 3) := by decide +kernel
theorem dX4_cellInTheWay_134 : decode cX4_cellInTheWay 134 = .ok (.iload 9, 2) := by decide +kernel
theorem dX4_cellInTheWay_136 : decode cX4_cellInTheWay 136 = .ok (.istore 7, 2) := by decide +kernel
theorem dX4_cellInTheWay_138 : decode cX4_cellInTheWay 138 = .ok (.iload 10, 2) := by decide +kernel
theorem dX4_cellInTheWay_140 : decode cX4_cellInTheWay 140 = .ok (.istore 8, 2) := by decide +kernel
theorem dX4_cellInTheWay_142 : decode cX4_cellInTheWay 142 = .ok (.iinc 9 1, 3) := by decide +kernel
theorem dX4_cellInTheWay_145 : decode cX4_cellInTheWay 145 = .ok (.goto (-66), 3) := by decide +kernel
theorem dX4_cellInTheWay_148 : decode cX4_cellInTheWay 148 = .ok (.iload 7, 2) := by decide +kernel
theorem dX4_cellInTheWay_150 : decode cX4_cellInTheWay 150 = .ok (.ireturn, 1) := by decide +kernel
theorem dX4_leastCandle_0 : decode cX4_leastCandle 0 = .ok (.aload_n 0, 1) := by decide +kernel
theorem dX4_leastCandle_1 : decode cX4_leastCandle 1 = .ok (.getfield 12, 3) := by decide +kernel
theorem dX4_leastCandle_4 : decode cX4_leastCandle 4 = .ok (.getfield 97, 3) := by decide +kernel
theorem dX4_leastCandle_7 : decode cX4_leastCandle 7 = .ok (.iload_n 1, 1) := by decide +kernel
theorem dX4_leastCandle_8 : decode cX4_leastCandle 8 = .ok (.iaload, 1) := by decide +kernel
theorem dX4_leastCandle_9 : decode cX4_leastCandle 9 = .ok (.istore_n 2, 1) := by decide +kernel
theorem dX4_leastCandle_10 : decode cX4_leastCandle 10 = .ok (.iconst 0, 1) := by decide +kernel
theorem dX4_leastCandle_11 : decode cX4_leastCandle 11 = .ok (.istore_n 3, 1) := by decide +kernel
theorem dX4_leastCandle_12 : decode cX4_leastCandle 12 = .ok (.iload_n 3, 1) := by decide +kernel
theorem dX4_leastCandle_13 : decode cX4_leastCandle 13 = .ok (.bipush 30, 2) := by decide +kernel
theorem dX4_leastCandle_15 : decode cX4_leastCandle 15 = .ok (.if_icmp .gt 36, 3) := by decide +kernel
theorem dX4_leastCandle_18 : decode cX4_leastCandle 18 = .ok (.aload_n 0, 1) := by decide +kernel
theorem dX4_leastCandle_19 : decode cX4_leastCandle 19 = .ok (.getfield 12, 3) := by decide +kernel
theorem dX4_leastCandle_22 : decode cX4_leastCandle 22 = .ok (.iload_n 2, 1) := by decide +kernel
theorem dX4_leastCandle_23 : decode cX4_leastCandle 23 = .ok (.aload_n 0, 1) := by decide +kernel
theorem dX4_leastCandle_24 : decode cX4_leastCandle 24 = .ok (.getfield 12, 3) := by decide +kernel
theorem dX4_leastCandle_27 : decode cX4_leastCandle 27 = .ok (.getfield 107, 3) := by decide +kernel
theorem dX4_leastCandle_30 : decode cX4_leastCandle 30 = .ok (.iload_n 2, 1) := by decide +kernel
theorem dX4_leastCandle_31 : decode cX4_leastCandle 31 = .ok (.iaload, 1) := by decide +kernel
theorem dX4_leastCandle_32 : decode cX4_leastCandle 32 = .ok (.iload_n 3, 1) := by decide +kernel
theorem dX4_leastCandle_33 : decode cX4_leastCandle 33 = .ok (.iadd, 1) := by decide +kernel
theorem dX4_leastCandle_34 : decode cX4_leastCandle 34 = .ok (.bipush 20, 2) := by decide +kernel
theorem dX4_leastCandle_36 : decode cX4_leastCandle 36 = .ok (.iconst 0, 1) := by decide +kernel
theorem dX4_leastCandle_37 : decode cX4_leastCandle 37 = .ok (.invokestatic 110, 3) := by decide +kernel
theorem dX4_leastCandle_40 : decode cX4_leastCandle 40 = .ok (.ifCond .eq 5, 3) := by decide +kernel
theorem dX4_leastCandle_43 : decode cX4_leastCandle 43 = .ok (.iload_n 3, 1) := by decide +kernel
theorem dX4_leastCandle_44 : decode cX4_leastCandle 44 = .ok (.ireturn, 1) := by decide +kernel
theorem dX4_leastCandle_45 : decode cX4_leastCandle 45 = .ok (.iinc 3 1, 3) := by decide +kernel
theorem dX4_leastCandle_48 : decode cX4_leastCandle 48 = .ok (.goto (-36), 3) := by decide +kernel
theorem dX4_leastCandle_51 : decode cX4_leastCandle 51 = .ok (.bipush (-9), 2) := by decide +kernel
theorem dX4_leastCandle_53 : decode cX4_leastCandle 53 = .ok (.ireturn, 1) := by decide +kernel
theorem dX4_cutHouse_0 : decode cX4_cutHouse 0 = .ok (.aload_n 0, 1) := by decide +kernel
theorem dX4_cutHouse_1 : decode cX4_cutHouse 1 = .ok (.invokevirtual 71, 3) := by decide +kernel
theorem dX4_cutHouse_4 : decode cX4_cutHouse 4 = .ok (.aload_n 0, 1) := by decide +kernel
theorem dX4_cutHouse_5 : decode cX4_cutHouse 5 = .ok (.getfield 18, 3) := by decide +kernel
theorem dX4_cutHouse_8 : decode cX4_cutHouse 8 = .ok (.invokevirtual 51, 3) := by decide +kernel
theorem dX4_cutHouse_11 : decode cX4_cutHouse 11 = .ok (.istore_n 1, 1) := by decide +kernel
theorem dX4_cutHouse_12 : decode cX4_cutHouse 12 = .ok (.bipush (-9), 2) := by decide +kernel
theorem dX4_cutHouse_14 : decode cX4_cutHouse 14 = .ok (.istore_n 2, 1) := by decide +kernel
theorem dX4_cutHouse_15 : decode cX4_cutHouse 15 = .ok (.iconst 0, 1) := by decide +kernel
theorem dX4_cutHouse_16 : decode cX4_cutHouse 16 = .ok (.istore_n 3, 1) := by decide +kernel
theorem dX4_cutHouse_17 : decode cX4_cutHouse 17 = .ok (.iconst 0, 1) := by decide +kernel
theorem dX4_cutHouse_18 : decode cX4_cutHouse 18 = .ok (.istore 4, 2) := by decide +kernel
theorem dX4_cutHouse_20 : decode cX4_cutHouse 20 = .ok (.iload 4, 2) := by decide +kernel
theorem dX4_cutHouse_22 : decode cX4_cutHouse 22 = .ok (.aload_n 0, 1) := by decide +kernel
theorem dX4_cutHouse_23 : decode cX4_cutHouse 23 = .ok (.getfield 18, 3) := by decide +kernel
theorem dX4_cutHouse_26 : decode cX4_cutHouse 26 = .ok (.getfield 114, 3) := by decide +kernel
theorem dX4_cutHouse_29 : decode cX4_cutHouse 29 = .ok (.if_icmp .ge 45, 3) := by decide +kernel
theorem dX4_cutHouse_32 : decode cX4_cutHouse 32 = .ok (.iload_n 1, 1) := by decide +kernel
theorem dX4_cutHouse_33 : decode cX4_cutHouse 33 = .ok (.iload 4, 2) := by decide +kernel
theorem dX4_cutHouse_35 : decode cX4_cutHouse 35 = .ok (.invokestatic 80, 3) := by decide +kernel
theorem dX4_cutHouse_38 : decode cX4_cutHouse 38 = .ok (.ifCond .eq 30, 3) := by decide +kernel
theorem dX4_cutHouse_41 : decode cX4_cutHouse 41 = .ok (.aload_n 0, 1) := by decide +kernel
theorem dX4_cutHouse_42 : decode cX4_cutHouse 42 = .ok (.iload_n 1, 1) := by decide +kernel
theorem dX4_cutHouse_43 : decode cX4_cutHouse 43 = .ok (.iload 4, 2) := by decide +kernel
theorem dX4_cutHouse_45 : decode cX4_cutHouse 45 = .ok (.invokevirtual 117, 3) := by decide +kernel
theorem dX4_cutHouse_48 : decode cX4_cutHouse 48 = .ok (.istore 5, 2) := by decide +kernel
theorem dX4_cutHouse_50 : decode cX4_cutHouse 50 = .ok (.iload_n 2, 1) := by decide +kernel
theorem dX4_cutHouse_51 : decode cX4_cutHouse 51 = .ok (.bipush (-9), 2) := by decide +kernel
theorem dX4_cutHouse_53 : decode cX4_cutHouse 53 = .ok (.if_icmp .eq 9, 3) := by decide +kernel
theorem dX4_cutHouse_56 : decode cX4_cutHouse 56 = .ok (.iload 5, 2) := by decide +kernel
theorem dX4_cutHouse_58 : decode cX4_cutHouse 58 = .ok (.iload_n 3, 1) := by decide +kernel
theorem dX4_cutHouse_59 : decode cX4_cutHouse 59 = .ok (.if_icmp .ge 9, 3) := by decide +kernel
theorem dX4_cutHouse_62 : decode cX4_cutHouse 62 = .ok (.iload 4, 2) := by decide +kernel
theorem dX4_cutHouse_64 : decode cX4_cutHouse 64 = .ok (.istore_n 2, 1) := by decide +kernel
theorem dX4_cutHouse_65 : decode cX4_cutHouse 65 = .ok (.iload 5, 2) := by decide +kernel
theorem dX4_cutHouse_67 : decode cX4_cutHouse 67 = .ok (.istore_n 3, 1) := by decide +kernel
theorem dX4_cutHouse_68 : decode cX4_cutHouse 68 = .ok (.iinc 4 1, 3) := by decide +kernel
theorem dX4_cutHouse_71 : decode cX4_cutHouse 71 = .ok (.goto (-51), 3) := by decide +kernel
theorem dX4_cutHouse_74 : decode cX4_cutHouse 74 = .ok (.iload_n 2, 1) := by decide +kernel
theorem dX4_cutHouse_75 : decode cX4_cutHouse 75 = .ok (.ireturn, 1) := by decide +kernel
theorem dX4_hangingWithout_0 : decode cX4_hangingWithout 0 = .ok (.aload_n 0, 1) := by decide +kernel
theorem dX4_hangingWithout_1 : decode cX4_hangingWithout 1 = .ok (.getfield 24, 3) := by decide +kernel
theorem dX4_hangingWithout_4 : decode cX4_hangingWithout 4 = .ok (.iload_n 1, 1) := by decide +kernel
theorem dX4_hangingWithout_5 : decode cX4_hangingWithout 5 = .ok (.iconst 1, 1) := by decide +kernel
theorem dX4_hangingWithout_6 : decode cX4_hangingWithout 6 = .ok (.iload_n 2, 1) := by decide +kernel
theorem dX4_hangingWithout_7 : decode cX4_hangingWithout 7 = .ok (.ishl, 1) := by decide +kernel
theorem dX4_hangingWithout_8 : decode cX4_hangingWithout 8 = .ok (.iconst (-1), 1) := by decide +kernel
theorem dX4_hangingWithout_9 : decode cX4_hangingWithout 9 = .ok (.ixor, 1) := by decide +kernel
theorem dX4_hangingWithout_10 : decode cX4_hangingWithout 10 = .ok (.iand, 1) := by decide +kernel
theorem dX4_hangingWithout_11 : decode cX4_hangingWithout 11 = .ok (.invokevirtual 55, 3) := by decide +kernel
theorem dX4_hangingWithout_14 : decode cX4_hangingWithout 14 = .ok (.invokestatic 59, 3) := by decide +kernel
theorem dX4_hangingWithout_17 : decode cX4_hangingWithout 17 = .ok (.ireturn, 1) := by decide +kernel
theorem dX4_hangingAfterCut_0 : decode cX4_hangingAfterCut 0 = .ok (.aload_n 0, 1) := by decide +kernel
theorem dX4_hangingAfterCut_1 : decode cX4_hangingAfterCut 1 = .ok (.invokevirtual 121, 3) := by decide +kernel
theorem dX4_hangingAfterCut_4 : decode cX4_hangingAfterCut 4 = .ok (.istore_n 1, 1) := by decide +kernel
theorem dX4_hangingAfterCut_5 : decode cX4_hangingAfterCut 5 = .ok (.iload_n 1, 1) := by decide +kernel
theorem dX4_hangingAfterCut_6 : decode cX4_hangingAfterCut 6 = .ok (.bipush (-9), 2) := by decide +kernel
theorem dX4_hangingAfterCut_8 : decode cX4_hangingAfterCut 8 = .ok (.if_icmp .ne 8, 3) := by decide +kernel
theorem dX4_hangingAfterCut_11 : decode cX4_hangingAfterCut 11 = .ok (.bipush (-9), 2) := by decide +kernel
theorem dX4_hangingAfterCut_13 : decode cX4_hangingAfterCut 13 = .ok (.goto 15, 3) := by decide +kernel
theorem dX4_hangingAfterCut_16 : decode cX4_hangingAfterCut 16 = .ok (.aload_n 0, 1) := by decide +kernel
theorem dX4_hangingAfterCut_17 : decode cX4_hangingAfterCut 17 = .ok (.aload_n 0, 1) := by decide +kernel
theorem dX4_hangingAfterCut_18 : decode cX4_hangingAfterCut 18 = .ok (.getfield 18, 3) := by decide +kernel
theorem dX4_hangingAfterCut_21 : decode cX4_hangingAfterCut 21 = .ok (.invokevirtual 51, 3) := by decide +kernel
theorem dX4_hangingAfterCut_24 : decode cX4_hangingAfterCut 24 = .ok (.iload_n 1, 1) := by decide +kernel
theorem dX4_hangingAfterCut_25 : decode cX4_hangingAfterCut 25 = .ok (.invokevirtual 117, 3) := by decide +kernel
theorem dX4_hangingAfterCut_28 : decode cX4_hangingAfterCut 28 = .ok (.ireturn, 1) := by decide +kernel
theorem dX4_needed_0 : decode cX4_needed 0 = .ok (.aload_n 0, 1) := by decide +kernel
theorem dX4_needed_1 : decode cX4_needed 1 = .ok (.invokevirtual 71, 3) := by decide +kernel
theorem dX4_needed_4 : decode cX4_needed 4 = .ok (.aload_n 0, 1) := by decide +kernel
theorem dX4_needed_5 : decode cX4_needed 5 = .ok (.getfield 18, 3) := by decide +kernel
theorem dX4_needed_8 : decode cX4_needed 8 = .ok (.invokevirtual 51, 3) := by decide +kernel
theorem dX4_needed_11 : decode cX4_needed 11 = .ok (.istore_n 1, 1) := by decide +kernel
theorem dX4_needed_12 : decode cX4_needed 12 = .ok (.aload_n 0, 1) := by decide +kernel
theorem dX4_needed_13 : decode cX4_needed 13 = .ok (.getfield 24, 3) := by decide +kernel
theorem dX4_needed_16 : decode cX4_needed 16 = .ok (.iload_n 1, 1) := by decide +kernel
theorem dX4_needed_17 : decode cX4_needed 17 = .ok (.invokevirtual 55, 3) := by decide +kernel
theorem dX4_needed_20 : decode cX4_needed 20 = .ok (.istore_n 2, 1) := by decide +kernel
theorem dX4_needed_21 : decode cX4_needed 21 = .ok (.iconst 0, 1) := by decide +kernel
theorem dX4_needed_22 : decode cX4_needed 22 = .ok (.istore_n 3, 1) := by decide +kernel
theorem dX4_needed_23 : decode cX4_needed 23 = .ok (.iconst 0, 1) := by decide +kernel
theorem dX4_needed_24 : decode cX4_needed 24 = .ok (.istore 4, 2) := by decide +kernel
theorem dX4_needed_26 : decode cX4_needed 26 = .ok (.iload 4, 2) := by decide +kernel
theorem dX4_needed_28 : decode cX4_needed 28 = .ok (.aload_n 0, 1) := by decide +kernel
theorem dX4_needed_29 : decode cX4_needed 29 = .ok (.getfield 18, 3) := by decide +kernel
theorem dX4_needed_32 : decode cX4_needed 32 = .ok (.getfield 114, 3) := by decide +kernel
theorem dX4_needed_35 : decode cX4_needed 35 = .ok (.if_icmp .ge 49, 3) := by decide +kernel
theorem dX4_needed_38 : decode cX4_needed 38 = .ok (.iload_n 2, 1) := by decide +kernel
theorem dX4_needed_39 : decode cX4_needed 39 = .ok (.aload_n 0, 1) := by decide +kernel
theorem dX4_needed_40 : decode cX4_needed 40 = .ok (.getfield 24, 3) := by decide +kernel
theorem dX4_needed_43 : decode cX4_needed 43 = .ok (.iload_n 1, 1) := by decide +kernel
theorem dX4_needed_44 : decode cX4_needed 44 = .ok (.iconst 1, 1) := by decide +kernel
theorem dX4_needed_45 : decode cX4_needed 45 = .ok (.iload 4, 2) := by decide +kernel
theorem dX4_needed_47 : decode cX4_needed 47 = .ok (.ishl, 1) := by decide +kernel
theorem dX4_needed_48 : decode cX4_needed 48 = .ok (.iconst (-1), 1) := by decide +kernel
theorem dX4_needed_49 : decode cX4_needed 49 = .ok (.ixor, 1) := by decide +kernel
theorem dX4_needed_50 : decode cX4_needed 50 = .ok (.iand, 1) := by decide +kernel
theorem dX4_needed_51 : decode cX4_needed 51 = .ok (.invokevirtual 55, 3) := by decide +kernel
theorem dX4_needed_54 : decode cX4_needed 54 = .ok (.iconst (-1), 1) := by decide +kernel
theorem dX4_needed_55 : decode cX4_needed 55 = .ok (.ixor, 1) := by decide +kernel
theorem dX4_needed_56 : decode cX4_needed 56 = .ok (.iand, 1) := by decide +kernel
theorem dX4_needed_57 : decode cX4_needed 57 = .ok (.istore 5, 2) := by decide +kernel
theorem dX4_needed_59 : decode cX4_needed 59 = .ok (.iload 5, 2) := by decide +kernel
theorem dX4_needed_61 : decode cX4_needed 61 = .ok (.iconst 1, 1) := by decide +kernel
theorem dX4_needed_62 : decode cX4_needed 62 = .ok (.iload 4, 2) := by decide +kernel
theorem dX4_needed_64 : decode cX4_needed 64 = .ok (.ishl, 1) := by decide +kernel
theorem dX4_needed_65 : decode cX4_needed 65 = .ok (.iconst (-1), 1) := by decide +kernel
theorem dX4_needed_66 : decode cX4_needed 66 = .ok (.ixor, 1) := by decide +kernel
theorem dX4_needed_67 : decode cX4_needed 67 = .ok (.iand, 1) := by decide +kernel
theorem dX4_needed_68 : decode cX4_needed 68 = .ok (.ifCond .eq 10, 3) := by decide +kernel
theorem dX4_needed_71 : decode cX4_needed 71 = .ok (.iload_n 3, 1) := by decide +kernel
theorem dX4_needed_72 : decode cX4_needed 72 = .ok (.iconst 1, 1) := by decide +kernel
theorem dX4_needed_73 : decode cX4_needed 73 = .ok (.iload 4, 2) := by decide +kernel
theorem dX4_needed_75 : decode cX4_needed 75 = .ok (.ishl, 1) := by decide +kernel
theorem dX4_needed_76 : decode cX4_needed 76 = .ok (.ior, 1) := by decide +kernel
theorem dX4_needed_77 : decode cX4_needed 77 = .ok (.istore_n 3, 1) := by decide +kernel
theorem dX4_needed_78 : decode cX4_needed 78 = .ok (.iinc 4 1, 3) := by decide +kernel
theorem dX4_needed_81 : decode cX4_needed 81 = .ok (.goto (-55), 3) := by decide +kernel
theorem dX4_needed_84 : decode cX4_needed 84 = .ok (.iload_n 3, 1) := by decide +kernel
theorem dX4_needed_85 : decode cX4_needed 85 = .ok (.ireturn, 1) := by decide +kernel
theorem dX4_buildCell_0 : decode cX4_buildCell 0 = .ok (.iconst 0, 1) := by decide +kernel
theorem dX4_buildCell_1 : decode cX4_buildCell 1 = .ok (.istore_n 1, 1) := by decide +kernel
theorem dX4_buildCell_2 : decode cX4_buildCell 2 = .ok (.iconst 0, 1) := by decide +kernel
theorem dX4_buildCell_3 : decode cX4_buildCell 3 = .ok (.istore_n 2, 1) := by decide +kernel
theorem dX4_buildCell_4 : decode cX4_buildCell 4 = .ok (.iconst 0, 1) := by decide +kernel
theorem dX4_buildCell_5 : decode cX4_buildCell 5 = .ok (.istore_n 3, 1) := by decide +kernel
theorem dX4_buildCell_6 : decode cX4_buildCell 6 = .ok (.iload_n 3, 1) := by decide +kernel
theorem dX4_buildCell_7 : decode cX4_buildCell 7 = .ok (.bipush 20, 2) := by decide +kernel
theorem dX4_buildCell_9 : decode cX4_buildCell 9 = .ok (.if_icmp .ge 27, 3) := by decide +kernel
theorem dX4_buildCell_12 : decode cX4_buildCell 12 = .ok (.aload_n 0, 1) := by decide +kernel
theorem dX4_buildCell_13 : decode cX4_buildCell 13 = .ok (.iload_n 3, 1) := by decide +kernel
theorem dX4_buildCell_14 : decode cX4_buildCell 14 = .ok (.invokevirtual 124, 3) := by decide +kernel
theorem dX4_buildCell_17 : decode cX4_buildCell 17 = .ok (.istore 4, 2) := by decide +kernel
theorem dX4_buildCell_19 : decode cX4_buildCell 19 = .ok (.iload 4, 2) := by decide +kernel
theorem dX4_buildCell_21 : decode cX4_buildCell 21 = .ok (.iload_n 2, 1) := by decide +kernel
theorem dX4_buildCell_22 : decode cX4_buildCell 22 = .ok (.if_icmp .le 8, 3) := by decide +kernel
theorem dX4_buildCell_25 : decode cX4_buildCell 25 = .ok (.iload_n 3, 1) := by decide +kernel
theorem dX4_buildCell_26 : decode cX4_buildCell 26 = .ok (.istore_n 1, 1) := by decide +kernel
theorem dX4_buildCell_27 : decode cX4_buildCell 27 = .ok (.iload 4, 2) := by decide +kernel
theorem dX4_buildCell_29 : decode cX4_buildCell 29 = .ok (.istore_n 2, 1) := by decide +kernel
theorem dX4_buildCell_30 : decode cX4_buildCell 30 = .ok (.iinc 3 1, 3) := by decide +kernel
theorem dX4_buildCell_33 : decode cX4_buildCell 33 = .ok (.goto (-27), 3) := by decide +kernel
theorem dX4_buildCell_36 : decode cX4_buildCell 36 = .ok (.iload_n 1, 1) := by decide +kernel
theorem dX4_buildCell_37 : decode cX4_buildCell 37 = .ok (.ireturn, 1) := by decide +kernel
theorem dX4_hangingIfBuilt_0 : decode cX4_hangingIfBuilt 0 = .ok (.aload_n 0, 1) := by decide +kernel
theorem dX4_hangingIfBuilt_1 : decode cX4_hangingIfBuilt 1 = .ok (.getfield 18, 3) := by decide +kernel
theorem dX4_hangingIfBuilt_4 : decode cX4_hangingIfBuilt 4 = .ok (.aload_n 0, 1) := by decide +kernel
theorem dX4_hangingIfBuilt_5 : decode cX4_hangingIfBuilt 5 = .ok (.getfield 12, 3) := by decide +kernel
theorem dX4_hangingIfBuilt_8 : decode cX4_hangingIfBuilt 8 = .ok (.invokevirtual 41, 3) := by decide +kernel
theorem dX4_hangingIfBuilt_11 : decode cX4_hangingIfBuilt 11 = .ok (.aload_n 0, 1) := by decide +kernel
theorem dX4_hangingIfBuilt_12 : decode cX4_hangingIfBuilt 12 = .ok (.getfield 18, 3) := by decide +kernel
theorem dX4_hangingIfBuilt_15 : decode cX4_hangingIfBuilt 15 = .ok (.iconst 0, 1) := by decide +kernel
theorem dX4_hangingIfBuilt_16 : decode cX4_hangingIfBuilt 16 = .ok (.iconst 0, 1) := by decide +kernel
theorem dX4_hangingIfBuilt_17 : decode cX4_hangingIfBuilt 17 = .ok (.iload_n 1, 1) := by decide +kernel
theorem dX4_hangingIfBuilt_18 : decode cX4_hangingIfBuilt 18 = .ok (.invokevirtual 127, 3) := by decide +kernel
theorem dX4_hangingIfBuilt_21 : decode cX4_hangingIfBuilt 21 = .ok (.pop, 1) := by decide +kernel
theorem dX4_hangingIfBuilt_22 : decode cX4_hangingIfBuilt 22 = .ok (.aload_n 0, 1) := by decide +kernel
theorem dX4_hangingIfBuilt_23 : decode cX4_hangingIfBuilt 23 = .ok (.getfield 24, 3) := by decide +kernel
theorem dX4_hangingIfBuilt_26 : decode cX4_hangingIfBuilt 26 = .ok (.aload_n 0, 1) := by decide +kernel
theorem dX4_hangingIfBuilt_27 : decode cX4_hangingIfBuilt 27 = .ok (.getfield 18, 3) := by decide +kernel
theorem dX4_hangingIfBuilt_30 : decode cX4_hangingIfBuilt 30 = .ok (.invokevirtual 131, 3) := by decide +kernel
theorem dX4_hangingIfBuilt_33 : decode cX4_hangingIfBuilt 33 = .ok (.aload_n 0, 1) := by decide +kernel
theorem dX4_hangingIfBuilt_34 : decode cX4_hangingIfBuilt 34 = .ok (.invokevirtual 74, 3) := by decide +kernel
theorem dX4_hangingIfBuilt_37 : decode cX4_hangingIfBuilt 37 = .ok (.invokestatic 59, 3) := by decide +kernel
theorem dX4_hangingIfBuilt_40 : decode cX4_hangingIfBuilt 40 = .ok (.ireturn, 1) := by decide +kernel
theorem dX4_cellToFell_0 : decode cX4_cellToFell 0 = .ok (.aload_n 0, 1) := by decide +kernel
theorem dX4_cellToFell_1 : decode cX4_cellToFell 1 = .ok (.invokevirtual 71, 3) := by decide +kernel
theorem dX4_cellToFell_4 : decode cX4_cellToFell 4 = .ok (.bipush (-9), 2) := by decide +kernel
theorem dX4_cellToFell_6 : decode cX4_cellToFell 6 = .ok (.istore_n 1, 1) := by decide +kernel
theorem dX4_cellToFell_7 : decode cX4_cellToFell 7 = .ok (.aload_n 0, 1) := by decide +kernel
theorem dX4_cellToFell_8 : decode cX4_cellToFell 8 = .ok (.invokevirtual 74, 3) := by decide +kernel
theorem dX4_cellToFell_11 : decode cX4_cellToFell 11 = .ok (.invokestatic 59, 3) := by decide +kernel
theorem dX4_cellToFell_14 : decode cX4_cellToFell 14 = .ok (.istore_n 2, 1) := by decide +kernel
theorem dX4_cellToFell_15 : decode cX4_cellToFell 15 = .ok (.iconst 0, 1) := by decide +kernel
theorem dX4_cellToFell_16 : decode cX4_cellToFell 16 = .ok (.istore_n 3, 1) := by decide +kernel
theorem dX4_cellToFell_17 : decode cX4_cellToFell 17 = .ok (.iload_n 3, 1) := by decide +kernel
theorem dX4_cellToFell_18 : decode cX4_cellToFell 18 = .ok (.bipush 20, 2) := by decide +kernel
theorem dX4_cellToFell_20 : decode cX4_cellToFell 20 = .ok (.if_icmp .ge 61, 3) := by decide +kernel
theorem dX4_cellToFell_23 : decode cX4_cellToFell 23 = .ok (.aload_n 0, 1) := by decide +kernel
theorem dX4_cellToFell_24 : decode cX4_cellToFell 24 = .ok (.getfield 18, 3) := by decide +kernel
theorem dX4_cellToFell_27 : decode cX4_cellToFell 27 = .ok (.aload_n 0, 1) := by decide +kernel
theorem dX4_cellToFell_28 : decode cX4_cellToFell 28 = .ok (.getfield 12, 3) := by decide +kernel
theorem dX4_cellToFell_31 : decode cX4_cellToFell 31 = .ok (.invokevirtual 41, 3) := by decide +kernel
theorem dX4_cellToFell_34 : decode cX4_cellToFell 34 = .ok (.aload_n 0, 1) := by decide +kernel
theorem dX4_cellToFell_35 : decode cX4_cellToFell 35 = .ok (.getfield 18, 3) := by decide +kernel
theorem dX4_cellToFell_38 : decode cX4_cellToFell 38 = .ok (.iload_n 3, 1) := by decide +kernel
theorem dX4_cellToFell_39 : decode cX4_cellToFell 39 = .ok (.iconst 0, 1) := by decide +kernel
theorem dX4_cellToFell_40 : decode cX4_cellToFell 40 = .ok (.invokevirtual 134, 3) := by decide +kernel
theorem dX4_cellToFell_43 : decode cX4_cellToFell 43 = .ok (.pop, 1) := by decide +kernel
theorem dX4_cellToFell_44 : decode cX4_cellToFell 44 = .ok (.aload_n 0, 1) := by decide +kernel
theorem dX4_cellToFell_45 : decode cX4_cellToFell 45 = .ok (.getfield 24, 3) := by decide +kernel
theorem dX4_cellToFell_48 : decode cX4_cellToFell 48 = .ok (.aload_n 0, 1) := by decide +kernel
theorem dX4_cellToFell_49 : decode cX4_cellToFell 49 = .ok (.getfield 18, 3) := by decide +kernel
theorem dX4_cellToFell_52 : decode cX4_cellToFell 52 = .ok (.invokevirtual 131, 3) := by decide +kernel
theorem dX4_cellToFell_55 : decode cX4_cellToFell 55 = .ok (.aload_n 0, 1) := by decide +kernel
theorem dX4_cellToFell_56 : decode cX4_cellToFell 56 = .ok (.invokevirtual 74, 3) := by decide +kernel
theorem dX4_cellToFell_59 : decode cX4_cellToFell 59 = .ok (.invokestatic 59, 3) := by decide +kernel
theorem dX4_cellToFell_62 : decode cX4_cellToFell 62 = .ok (.istore 4, 2) := by decide +kernel
theorem dX4_cellToFell_64 : decode cX4_cellToFell 64 = .ok (.iload 4, 2) := by decide +kernel
theorem dX4_cellToFell_66 : decode cX4_cellToFell 66 = .ok (.iload_n 2, 1) := by decide +kernel
theorem dX4_cellToFell_67 : decode cX4_cellToFell 67 = .ok (.if_icmp .le 8, 3) := by decide +kernel
theorem dX4_cellToFell_70 : decode cX4_cellToFell 70 = .ok (.iload_n 3, 1) := by decide +kernel
theorem dX4_cellToFell_71 : decode cX4_cellToFell 71 = .ok (.istore_n 1, 1) := by decide +kernel
theorem dX4_cellToFell_72 : decode cX4_cellToFell 72 = .ok (.iload 4, 2) := by decide +kernel
theorem dX4_cellToFell_74 : decode cX4_cellToFell 74 = .ok (.istore_n 2, 1) := by decide +kernel
theorem dX4_cellToFell_75 : decode cX4_cellToFell 75 = .ok (.iinc 3 1, 3) := by decide +kernel
theorem dX4_cellToFell_78 : decode cX4_cellToFell 78 = .ok (.goto (-61), 3) := by decide +kernel
theorem dX4_cellToFell_81 : decode cX4_cellToFell 81 = .ok (.iload_n 1, 1) := by decide +kernel
theorem dX4_cellToFell_82 : decode cX4_cellToFell 82 = .ok (.ireturn, 1) := by decide +kernel
theorem dX4_houseToRaise_0 : decode cX4_houseToRaise 0 = .ok (.aload_n 0, 1) := by decide +kernel
theorem dX4_houseToRaise_1 : decode cX4_houseToRaise 1 = .ok (.invokevirtual 71, 3) := by decide +kernel
theorem dX4_houseToRaise_4 : decode cX4_houseToRaise 4 = .ok (.bipush (-9), 2) := by decide +kernel
theorem dX4_houseToRaise_6 : decode cX4_houseToRaise 6 = .ok (.istore_n 1, 1) := by decide +kernel
theorem dX4_houseToRaise_7 : decode cX4_houseToRaise 7 = .ok (.aload_n 0, 1) := by decide +kernel
theorem dX4_houseToRaise_8 : decode cX4_houseToRaise 8 = .ok (.invokevirtual 74, 3) := by decide +kernel
theorem dX4_houseToRaise_11 : decode cX4_houseToRaise 11 = .ok (.invokestatic 59, 3) := by decide +kernel
theorem dX4_houseToRaise_14 : decode cX4_houseToRaise 14 = .ok (.istore_n 2, 1) := by decide +kernel
theorem dX4_houseToRaise_15 : decode cX4_houseToRaise 15 = .ok (.iconst 0, 1) := by decide +kernel
theorem dX4_houseToRaise_16 : decode cX4_houseToRaise 16 = .ok (.istore_n 3, 1) := by decide +kernel
theorem dX4_houseToRaise_17 : decode cX4_houseToRaise 17 = .ok (.iload_n 3, 1) := by decide +kernel
theorem dX4_houseToRaise_18 : decode cX4_houseToRaise 18 = .ok (.aload_n 0, 1) := by decide +kernel
theorem dX4_houseToRaise_19 : decode cX4_houseToRaise 19 = .ok (.getfield 18, 3) := by decide +kernel
theorem dX4_houseToRaise_22 : decode cX4_houseToRaise 22 = .ok (.getfield 114, 3) := by decide +kernel
theorem dX4_houseToRaise_25 : decode cX4_houseToRaise 25 = .ok (.if_icmp .ge 64, 3) := by decide +kernel
theorem dX4_houseToRaise_28 : decode cX4_houseToRaise 28 = .ok (.aload_n 0, 1) := by decide +kernel
theorem dX4_houseToRaise_29 : decode cX4_houseToRaise 29 = .ok (.getfield 24, 3) := by decide +kernel
theorem dX4_houseToRaise_32 : decode cX4_houseToRaise 32 = .ok (.aload_n 0, 1) := by decide +kernel
theorem dX4_houseToRaise_33 : decode cX4_houseToRaise 33 = .ok (.getfield 18, 3) := by decide +kernel
theorem dX4_houseToRaise_36 : decode cX4_houseToRaise 36 = .ok (.invokevirtual 45, 3) := by decide +kernel
theorem dX4_houseToRaise_39 : decode cX4_houseToRaise 39 = .ok (.aload_n 0, 1) := by decide +kernel
theorem dX4_houseToRaise_40 : decode cX4_houseToRaise 40 = .ok (.getfield 24, 3) := by decide +kernel
theorem dX4_houseToRaise_43 : decode cX4_houseToRaise 43 = .ok (.getfield 100, 3) := by decide +kernel
theorem dX4_houseToRaise_46 : decode cX4_houseToRaise 46 = .ok (.iload_n 3, 1) := by decide +kernel
theorem dX4_houseToRaise_47 : decode cX4_houseToRaise 47 = .ok (.dup2, 1) := by decide +kernel
theorem dX4_houseToRaise_48 : decode cX4_houseToRaise 48 = .ok (.iaload, 1) := by decide +kernel
theorem dX4_houseToRaise_49 : decode cX4_houseToRaise 49 = .ok (.iconst 3, 1) := by decide +kernel
theorem dX4_houseToRaise_50 : decode cX4_houseToRaise 50 = .ok (.iadd, 1) := by decide +kernel
theorem dX4_houseToRaise_51 : decode cX4_houseToRaise 51 = .ok (.iastore, 1) := by decide +kernel
theorem dX4_houseToRaise_52 : decode cX4_houseToRaise 52 = .ok (.aload_n 0, 1) := by decide +kernel
theorem dX4_houseToRaise_53 : decode cX4_houseToRaise 53 = .ok (.getfield 24, 3) := by decide +kernel
theorem dX4_houseToRaise_56 : decode cX4_houseToRaise 56 = .ok (.aload_n 0, 1) := by decide +kernel
theorem dX4_houseToRaise_57 : decode cX4_houseToRaise 57 = .ok (.getfield 18, 3) := by decide +kernel
theorem dX4_houseToRaise_60 : decode cX4_houseToRaise 60 = .ok (.invokevirtual 48, 3) := by decide +kernel
theorem dX4_houseToRaise_63 : decode cX4_houseToRaise 63 = .ok (.aload_n 0, 1) := by decide +kernel
theorem dX4_houseToRaise_64 : decode cX4_houseToRaise 64 = .ok (.invokevirtual 74, 3) := by decide +kernel
theorem dX4_houseToRaise_67 : decode cX4_houseToRaise 67 = .ok (.invokestatic 59, 3) := by decide +kernel
theorem dX4_houseToRaise_70 : decode cX4_houseToRaise 70 = .ok (.istore 4, 2) := by decide +kernel
theorem dX4_houseToRaise_72 : decode cX4_houseToRaise 72 = .ok (.iload 4, 2) := by decide +kernel
theorem dX4_houseToRaise_74 : decode cX4_houseToRaise 74 = .ok (.iload_n 2, 1) := by decide +kernel
theorem dX4_houseToRaise_75 : decode cX4_houseToRaise 75 = .ok (.if_icmp .le 8, 3) := by decide +kernel
theorem dX4_houseToRaise_78 : decode cX4_houseToRaise 78 = .ok (.iload_n 3, 1) := by decide +kernel
theorem dX4_houseToRaise_79 : decode cX4_houseToRaise 79 = .ok (.istore_n 1, 1) := by decide +kernel
theorem dX4_houseToRaise_80 : decode cX4_houseToRaise 80 = .ok (.iload 4, 2) := by decide +kernel
theorem dX4_houseToRaise_82 : decode cX4_houseToRaise 82 = .ok (.istore_n 2, 1) := by decide +kernel
theorem dX4_houseToRaise_83 : decode cX4_houseToRaise 83 = .ok (.iinc 3 1, 3) := by decide +kernel
theorem dX4_houseToRaise_86 : decode cX4_houseToRaise 86 = .ok (.goto (-69), 3) := by decide +kernel
theorem dX4_houseToRaise_89 : decode cX4_houseToRaise 89 = .ok (.iload_n 1, 1) := by decide +kernel
theorem dX4_houseToRaise_90 : decode cX4_houseToRaise 90 = .ok (.ireturn, 1) := by decide +kernel
theorem dX4_fewestCalled_0 : decode cX4_fewestCalled 0 = .ok (.aload_n 0, 1) := by decide +kernel
theorem dX4_fewestCalled_1 : decode cX4_fewestCalled 1 = .ok (.invokevirtual 71, 3) := by decide +kernel
theorem dX4_fewestCalled_4 : decode cX4_fewestCalled 4 = .ok (.aload_n 0, 1) := by decide +kernel
theorem dX4_fewestCalled_5 : decode cX4_fewestCalled 5 = .ok (.getfield 18, 3) := by decide +kernel
theorem dX4_fewestCalled_8 : decode cX4_fewestCalled 8 = .ok (.invokevirtual 87, 3) := by decide +kernel
theorem dX4_fewestCalled_11 : decode cX4_fewestCalled 11 = .ok (.istore_n 2, 1) := by decide +kernel
theorem dX4_fewestCalled_12 : decode cX4_fewestCalled 12 = .ok (.aload_n 0, 1) := by decide +kernel
theorem dX4_fewestCalled_13 : decode cX4_fewestCalled 13 = .ok (.iload_n 2, 1) := by decide +kernel
theorem dX4_fewestCalled_14 : decode cX4_fewestCalled 14 = .ok (.iload_n 1, 1) := by decide +kernel
theorem dX4_fewestCalled_15 : decode cX4_fewestCalled 15 = .ok (.invokevirtual 137, 3) := by decide +kernel
theorem dX4_fewestCalled_18 : decode cX4_fewestCalled 18 = .ok (.istore_n 3, 1) := by decide +kernel
theorem dX4_fewestCalled_19 : decode cX4_fewestCalled 19 = .ok (.iconst 0, 1) := by decide +kernel
theorem dX4_fewestCalled_20 : decode cX4_fewestCalled 20 = .ok (.istore 4, 2) := by decide +kernel
theorem dX4_fewestCalled_22 : decode cX4_fewestCalled 22 = .ok (.iload 4, 2) := by decide +kernel
theorem dX4_fewestCalled_24 : decode cX4_fewestCalled 24 = .ok (.aload_n 0, 1) := by decide +kernel
theorem dX4_fewestCalled_25 : decode cX4_fewestCalled 25 = .ok (.getfield 12, 3) := by decide +kernel
theorem dX4_fewestCalled_28 : decode cX4_fewestCalled 28 = .ok (.invokevirtual 87, 3) := by decide +kernel
theorem dX4_fewestCalled_31 : decode cX4_fewestCalled 31 = .ok (.if_icmp .ge 35, 3) := by decide +kernel
theorem dX4_fewestCalled_34 : decode cX4_fewestCalled 34 = .ok (.iload 4, 2) := by decide +kernel
theorem dX4_fewestCalled_36 : decode cX4_fewestCalled 36 = .ok (.invokestatic 59, 3) := by decide +kernel
theorem dX4_fewestCalled_39 : decode cX4_fewestCalled 39 = .ok (.iload_n 2, 1) := by decide +kernel
theorem dX4_fewestCalled_40 : decode cX4_fewestCalled 40 = .ok (.invokestatic 59, 3) := by decide +kernel
theorem dX4_fewestCalled_43 : decode cX4_fewestCalled 43 = .ok (.if_icmp .ge 17, 3) := by decide +kernel
theorem dX4_fewestCalled_46 : decode cX4_fewestCalled 46 = .ok (.aload_n 0, 1) := by decide +kernel
theorem dX4_fewestCalled_47 : decode cX4_fewestCalled 47 = .ok (.iload 4, 2) := by decide +kernel
theorem dX4_fewestCalled_49 : decode cX4_fewestCalled 49 = .ok (.iload_n 1, 1) := by decide +kernel
theorem dX4_fewestCalled_50 : decode cX4_fewestCalled 50 = .ok (.invokevirtual 137, 3) := by decide +kernel
theorem dX4_fewestCalled_53 : decode cX4_fewestCalled 53 = .ok (.iload_n 3, 1) := by decide +kernel
theorem dX4_fewestCalled_54 : decode cX4_fewestCalled 54 = .ok (.if_icmp .lt 6, 3) := by decide +kernel
theorem dX4_fewestCalled_57 : decode cX4_fewestCalled 57 = .ok (.iload 4, 2) := by decide +kernel
theorem dX4_fewestCalled_59 : decode cX4_fewestCalled 59 = .ok (.istore_n 2, 1) := by decide +kernel
theorem dX4_fewestCalled_60 : decode cX4_fewestCalled 60 = .ok (.iinc 4 1, 3) := by decide +kernel
theorem dX4_fewestCalled_63 : decode cX4_fewestCalled 63 = .ok (.goto (-41), 3) := by decide +kernel
theorem dX4_fewestCalled_66 : decode cX4_fewestCalled 66 = .ok (.iload_n 2, 1) := by decide +kernel
theorem dX4_fewestCalled_67 : decode cX4_fewestCalled 67 = .ok (.ireturn, 1) := by decide +kernel
theorem dX4_togetherIfCalled_0 : decode cX4_togetherIfCalled 0 = .ok (.aload_n 0, 1) := by decide +kernel
theorem dX4_togetherIfCalled_1 : decode cX4_togetherIfCalled 1 = .ok (.getfield 18, 3) := by decide +kernel
theorem dX4_togetherIfCalled_4 : decode cX4_togetherIfCalled 4 = .ok (.aload_n 0, 1) := by decide +kernel
theorem dX4_togetherIfCalled_5 : decode cX4_togetherIfCalled 5 = .ok (.getfield 12, 3) := by decide +kernel
theorem dX4_togetherIfCalled_8 : decode cX4_togetherIfCalled 8 = .ok (.invokevirtual 41, 3) := by decide +kernel
theorem dX4_togetherIfCalled_11 : decode cX4_togetherIfCalled 11 = .ok (.aload_n 0, 1) := by decide +kernel
theorem dX4_togetherIfCalled_12 : decode cX4_togetherIfCalled 12 = .ok (.getfield 18, 3) := by decide +kernel
theorem dX4_togetherIfCalled_15 : decode cX4_togetherIfCalled 15 = .ok (.iload_n 1, 1) := by decide +kernel
theorem dX4_togetherIfCalled_16 : decode cX4_togetherIfCalled 16 = .ok (.putfield 140, 3) := by decide +kernel
theorem dX4_togetherIfCalled_19 : decode cX4_togetherIfCalled 19 = .ok (.aload_n 0, 1) := by decide +kernel
theorem dX4_togetherIfCalled_20 : decode cX4_togetherIfCalled 20 = .ok (.iload_n 2, 1) := by decide +kernel
theorem dX4_togetherIfCalled_21 : decode cX4_togetherIfCalled 21 = .ok (.invokevirtual 143, 3) := by decide +kernel
theorem dX4_togetherIfCalled_24 : decode cX4_togetherIfCalled 24 = .ok (.ireturn, 1) := by decide +kernel
theorem dX4_measureWays_0 : decode cX4_measureWays 0 = .ok (.aload_n 0, 1) := by decide +kernel
theorem dX4_measureWays_1 : decode cX4_measureWays 1 = .ok (.invokevirtual 71, 3) := by decide +kernel
theorem dX4_measureWays_4 : decode cX4_measureWays 4 = .ok (.aload_n 0, 1) := by decide +kernel
theorem dX4_measureWays_5 : decode cX4_measureWays 5 = .ok (.getfield 31, 3) := by decide +kernel
theorem dX4_measureWays_8 : decode cX4_measureWays 8 = .ok (.iconst 0, 1) := by decide +kernel
theorem dX4_measureWays_9 : decode cX4_measureWays 9 = .ok (.invokestatic 146, 3) := by decide +kernel
theorem dX4_measureWays_12 : decode cX4_measureWays 12 = .ok (.aload_n 0, 1) := by decide +kernel
theorem dX4_measureWays_13 : decode cX4_measureWays 13 = .ok (.invokevirtual 74, 3) := by decide +kernel
theorem dX4_measureWays_16 : decode cX4_measureWays 16 = .ok (.istore_n 1, 1) := by decide +kernel
theorem dX4_measureWays_17 : decode cX4_measureWays 17 = .ok (.iload_n 1, 1) := by decide +kernel
theorem dX4_measureWays_18 : decode cX4_measureWays 18 = .ok (.aload_n 0, 1) := by decide +kernel
theorem dX4_measureWays_19 : decode cX4_measureWays 19 = .ok (.getfield 24, 3) := by decide +kernel
theorem dX4_measureWays_22 : decode cX4_measureWays 22 = .ok (.getfield 93, 3) := by decide +kernel
theorem dX4_measureWays_25 : decode cX4_measureWays 25 = .ok (.iand, 1) := by decide +kernel
theorem dX4_measureWays_26 : decode cX4_measureWays 26 = .ok (.istore_n 2, 1) := by decide +kernel
theorem dX4_measureWays_27 : decode cX4_measureWays 27 = .ok (.iconst 1, 1) := by decide +kernel
theorem dX4_measureWays_28 : decode cX4_measureWays 28 = .ok (.istore_n 3, 1) := by decide +kernel
theorem dX4_measureWays_29 : decode cX4_measureWays 29 = .ok (.iload_n 3, 1) := by decide +kernel
theorem dX4_measureWays_30 : decode cX4_measureWays 30 = .ok (.aload_n 0, 1) := by decide +kernel
theorem dX4_measureWays_31 : decode cX4_measureWays 31 = .ok (.getfield 18, 3) := by decide +kernel
theorem dX4_measureWays_34 : decode cX4_measureWays 34 = .ok (.getfield 114, 3) := by decide +kernel
theorem dX4_measureWays_37 : decode cX4_measureWays 37 = .ok (.if_icmp .gt 67, 3) := by decide +kernel
theorem dX4_measureWays_40 : decode cX4_measureWays 40 = .ok (.iload_n 2, 1) := by decide +kernel
theorem dX4_measureWays_41 : decode cX4_measureWays 41 = .ok (.ifCond .eq 63, 3) := by decide +kernel
theorem dX4_measureWays_44 : decode cX4_measureWays 44 = .ok (.iconst 0, 1) := by decide +kernel
theorem dX4_measureWays_45 : decode cX4_measureWays 45 = .ok (.istore 4, 2) := by decide +kernel
theorem dX4_measureWays_47 : decode cX4_measureWays 47 = .ok (.iload 4, 2) := by decide +kernel
theorem dX4_measureWays_49 : decode cX4_measureWays 49 = .ok (.aload_n 0, 1) := by decide +kernel
theorem dX4_measureWays_50 : decode cX4_measureWays 50 = .ok (.getfield 18, 3) := by decide +kernel
theorem dX4_measureWays_53 : decode cX4_measureWays 53 = .ok (.getfield 114, 3) := by decide +kernel
theorem dX4_measureWays_56 : decode cX4_measureWays 56 = .ok (.if_icmp .ge 26, 3) := by decide +kernel
theorem dX4_measureWays_59 : decode cX4_measureWays 59 = .ok (.iload_n 2, 1) := by decide +kernel
theorem dX4_measureWays_60 : decode cX4_measureWays 60 = .ok (.iload 4, 2) := by decide +kernel
theorem dX4_measureWays_62 : decode cX4_measureWays 62 = .ok (.invokestatic 80, 3) := by decide +kernel
theorem dX4_measureWays_65 : decode cX4_measureWays 65 = .ok (.ifCond .eq 11, 3) := by decide +kernel
theorem dX4_measureWays_68 : decode cX4_measureWays 68 = .ok (.aload_n 0, 1) := by decide +kernel
theorem dX4_measureWays_69 : decode cX4_measureWays 69 = .ok (.getfield 31, 3) := by decide +kernel
theorem dX4_measureWays_72 : decode cX4_measureWays 72 = .ok (.iload 4, 2) := by decide +kernel
theorem dX4_measureWays_74 : decode cX4_measureWays 74 = .ok (.iload_n 3, 1) := by decide +kernel
theorem dX4_measureWays_75 : decode cX4_measureWays 75 = .ok (.iastore, 1) := by decide +kernel
theorem dX4_measureWays_76 : decode cX4_measureWays 76 = .ok (.iinc 4 1, 3) := by decide +kernel
theorem dX4_measureWays_79 : decode cX4_measureWays 79 = .ok (.goto (-32), 3) := by decide +kernel
theorem dX4_measureWays_82 : decode cX4_measureWays 82 = .ok (.iload_n 1, 1) := by decide +kernel
theorem dX4_measureWays_83 : decode cX4_measureWays 83 = .ok (.iload_n 2, 1) := by decide +kernel
theorem dX4_measureWays_84 : decode cX4_measureWays 84 = .ok (.iconst (-1), 1) := by decide +kernel
theorem dX4_measureWays_85 : decode cX4_measureWays 85 = .ok (.ixor, 1) := by decide +kernel
theorem dX4_measureWays_86 : decode cX4_measureWays 86 = .ok (.iand, 1) := by decide +kernel
theorem dX4_measureWays_87 : decode cX4_measureWays 87 = .ok (.istore_n 1, 1) := by decide +kernel
theorem dX4_measureWays_88 : decode cX4_measureWays 88 = .ok (.aload_n 0, 1) := by decide +kernel
theorem dX4_measureWays_89 : decode cX4_measureWays 89 = .ok (.getfield 24, 3) := by decide +kernel
theorem dX4_measureWays_92 : decode cX4_measureWays 92 = .ok (.iload_n 1, 1) := by decide +kernel
theorem dX4_measureWays_93 : decode cX4_measureWays 93 = .ok (.iload_n 2, 1) := by decide +kernel
theorem dX4_measureWays_94 : decode cX4_measureWays 94 = .ok (.invokevirtual 152, 3) := by decide +kernel
theorem dX4_measureWays_97 : decode cX4_measureWays 97 = .ok (.istore_n 2, 1) := by decide +kernel
theorem dX4_measureWays_98 : decode cX4_measureWays 98 = .ok (.iinc 3 1, 3) := by decide +kernel
theorem dX4_measureWays_101 : decode cX4_measureWays 101 = .ok (.goto (-72), 3) := by decide +kernel
theorem dX4_measureWays_104 : decode cX4_measureWays 104 = .ok (.return_, 1) := by decide +kernel
theorem dX4_newsLength_0 : decode cX4_newsLength 0 = .ok (.aload_n 0, 1) := by decide +kernel
theorem dX4_newsLength_1 : decode cX4_newsLength 1 = .ok (.invokevirtual 155, 3) := by decide +kernel
theorem dX4_newsLength_4 : decode cX4_newsLength 4 = .ok (.aload_n 0, 1) := by decide +kernel
theorem dX4_newsLength_5 : decode cX4_newsLength 5 = .ok (.getfield 31, 3) := by decide +kernel
theorem dX4_newsLength_8 : decode cX4_newsLength 8 = .ok (.iload_n 1, 1) := by decide +kernel
theorem dX4_newsLength_9 : decode cX4_newsLength 9 = .ok (.iaload, 1) := by decide +kernel
theorem dX4_newsLength_10 : decode cX4_newsLength 10 = .ok (.ifCond .ne 8, 3) := by decide +kernel
theorem dX4_newsLength_13 : decode cX4_newsLength 13 = .ok (.bipush (-9), 2) := by decide +kernel
theorem dX4_newsLength_15 : decode cX4_newsLength 15 = .ok (.goto 9, 3) := by decide +kernel
theorem dX4_newsLength_18 : decode cX4_newsLength 18 = .ok (.aload_n 0, 1) := by decide +kernel
theorem dX4_newsLength_19 : decode cX4_newsLength 19 = .ok (.getfield 31, 3) := by decide +kernel
theorem dX4_newsLength_22 : decode cX4_newsLength 22 = .ok (.iload_n 1, 1) := by decide +kernel
theorem dX4_newsLength_23 : decode cX4_newsLength 23 = .ok (.iaload, 1) := by decide +kernel
theorem dX4_newsLength_24 : decode cX4_newsLength 24 = .ok (.ireturn, 1) := by decide +kernel
theorem dX4_newsNext_0 : decode cX4_newsNext 0 = .ok (.aload_n 0, 1) := by decide +kernel
theorem dX4_newsNext_1 : decode cX4_newsNext 1 = .ok (.invokevirtual 155, 3) := by decide +kernel
theorem dX4_newsNext_4 : decode cX4_newsNext 4 = .ok (.aload_n 0, 1) := by decide +kernel
theorem dX4_newsNext_5 : decode cX4_newsNext 5 = .ok (.getfield 31, 3) := by decide +kernel
theorem dX4_newsNext_8 : decode cX4_newsNext 8 = .ok (.iload_n 1, 1) := by decide +kernel
theorem dX4_newsNext_9 : decode cX4_newsNext 9 = .ok (.iaload, 1) := by decide +kernel
theorem dX4_newsNext_10 : decode cX4_newsNext 10 = .ok (.ifCond .ne 6, 3) := by decide +kernel
theorem dX4_newsNext_13 : decode cX4_newsNext 13 = .ok (.bipush (-9), 2) := by decide +kernel
theorem dX4_newsNext_15 : decode cX4_newsNext 15 = .ok (.ireturn, 1) := by decide +kernel
theorem dX4_newsNext_16 : decode cX4_newsNext 16 = .ok (.aload_n 0, 1) := by decide +kernel
theorem dX4_newsNext_17 : decode cX4_newsNext 17 = .ok (.getfield 31, 3) := by decide +kernel
theorem dX4_newsNext_20 : decode cX4_newsNext 20 = .ok (.iload_n 1, 1) := by decide +kernel
theorem dX4_newsNext_21 : decode cX4_newsNext 21 = .ok (.iaload, 1) := by decide +kernel
theorem dX4_newsNext_22 : decode cX4_newsNext 22 = .ok (.iconst 1, 1) := by decide +kernel
theorem dX4_newsNext_23 : decode cX4_newsNext 23 = .ok (.if_icmp .ne 6, 3) := by decide +kernel
theorem dX4_newsNext_26 : decode cX4_newsNext 26 = .ok (.bipush 7, 2) := by decide +kernel
theorem dX4_newsNext_28 : decode cX4_newsNext 28 = .ok (.ireturn, 1) := by decide +kernel
theorem dX4_newsNext_29 : decode cX4_newsNext 29 = .ok (.iconst 0, 1) := by decide +kernel
theorem dX4_newsNext_30 : decode cX4_newsNext 30 = .ok (.istore_n 2, 1) := by decide +kernel
theorem dX4_newsNext_31 : decode cX4_newsNext 31 = .ok (.iload_n 2, 1) := by decide +kernel
theorem dX4_newsNext_32 : decode cX4_newsNext 32 = .ok (.aload_n 0, 1) := by decide +kernel
theorem dX4_newsNext_33 : decode cX4_newsNext 33 = .ok (.getfield 18, 3) := by decide +kernel
theorem dX4_newsNext_36 : decode cX4_newsNext 36 = .ok (.getfield 114, 3) := by decide +kernel
theorem dX4_newsNext_39 : decode cX4_newsNext 39 = .ok (.if_icmp .ge 44, 3) := by decide +kernel
theorem dX4_newsNext_42 : decode cX4_newsNext 42 = .ok (.aload_n 0, 1) := by decide +kernel
theorem dX4_newsNext_43 : decode cX4_newsNext 43 = .ok (.getfield 24, 3) := by decide +kernel
theorem dX4_newsNext_46 : decode cX4_newsNext 46 = .ok (.getfield 90, 3) := by decide +kernel
theorem dX4_newsNext_49 : decode cX4_newsNext 49 = .ok (.iload_n 1, 1) := by decide +kernel
theorem dX4_newsNext_50 : decode cX4_newsNext 50 = .ok (.iaload, 1) := by decide +kernel
theorem dX4_newsNext_51 : decode cX4_newsNext 51 = .ok (.iload_n 2, 1) := by decide +kernel
theorem dX4_newsNext_52 : decode cX4_newsNext 52 = .ok (.invokestatic 80, 3) := by decide +kernel
theorem dX4_newsNext_55 : decode cX4_newsNext 55 = .ok (.ifCond .eq 22, 3) := by decide +kernel
theorem dX4_newsNext_58 : decode cX4_newsNext 58 = .ok (.aload_n 0, 1) := by decide +kernel
theorem dX4_newsNext_59 : decode cX4_newsNext 59 = .ok (.getfield 31, 3) := by decide +kernel
theorem dX4_newsNext_62 : decode cX4_newsNext 62 = .ok (.iload_n 2, 1) := by decide +kernel
theorem dX4_newsNext_63 : decode cX4_newsNext 63 = .ok (.iaload, 1) := by decide +kernel
theorem dX4_newsNext_64 : decode cX4_newsNext 64 = .ok (.aload_n 0, 1) := by decide +kernel
theorem dX4_newsNext_65 : decode cX4_newsNext 65 = .ok (.getfield 31, 3) := by decide +kernel
theorem dX4_newsNext_68 : decode cX4_newsNext 68 = .ok (.iload_n 1, 1) := by decide +kernel
theorem dX4_newsNext_69 : decode cX4_newsNext 69 = .ok (.iaload, 1) := by decide +kernel
theorem dX4_newsNext_70 : decode cX4_newsNext 70 = .ok (.iconst 1, 1) := by decide +kernel
theorem dX4_newsNext_71 : decode cX4_newsNext 71 = .ok (.isub, 1) := by decide +kernel
theorem dX4_newsNext_72 : decode cX4_newsNext 72 = .ok (.if_icmp .ne 5, 3) := by decide +kernel
theorem dX4_newsNext_75 : decode cX4_newsNext 75 = .ok (.iload_n 2, 1) := by decide +kernel
theorem dX4_newsNext_76 : decode cX4_newsNext 76 = .ok (.ireturn, 1) := by decide +kernel
theorem dX4_newsNext_77 : decode cX4_newsNext 77 = .ok (.iinc 2 1, 3) := by decide +kernel
theorem dX4_newsNext_80 : decode cX4_newsNext 80 = .ok (.goto (-49), 3) := by decide +kernel
theorem dX4_newsNext_83 : decode cX4_newsNext 83 = .ok (.bipush (-9), 2) := by decide +kernel
theorem dX4_newsNext_85 : decode cX4_newsNext 85 = .ok (.ireturn, 1) := by decide +kernel
theorem dX4_farthestHouse_0 : decode cX4_farthestHouse 0 = .ok (.aload_n 0, 1) := by decide +kernel
theorem dX4_farthestHouse_1 : decode cX4_farthestHouse 1 = .ok (.invokevirtual 155, 3) := by decide +kernel
theorem dX4_farthestHouse_4 : decode cX4_farthestHouse 4 = .ok (.bipush (-9), 2) := by decide +kernel
theorem dX4_farthestHouse_6 : decode cX4_farthestHouse 6 = .ok (.istore_n 1, 1) := by decide +kernel
theorem dX4_farthestHouse_7 : decode cX4_farthestHouse 7 = .ok (.iconst 0, 1) := by decide +kernel
theorem dX4_farthestHouse_8 : decode cX4_farthestHouse 8 = .ok (.istore_n 2, 1) := by decide +kernel
theorem dX4_farthestHouse_9 : decode cX4_farthestHouse 9 = .ok (.iconst 0, 1) := by decide +kernel
theorem dX4_farthestHouse_10 : decode cX4_farthestHouse 10 = .ok (.istore_n 3, 1) := by decide +kernel
theorem dX4_farthestHouse_11 : decode cX4_farthestHouse 11 = .ok (.iload_n 3, 1) := by decide +kernel
theorem dX4_farthestHouse_12 : decode cX4_farthestHouse 12 = .ok (.aload_n 0, 1) := by decide +kernel
theorem dX4_farthestHouse_13 : decode cX4_farthestHouse 13 = .ok (.getfield 18, 3) := by decide +kernel
theorem dX4_farthestHouse_16 : decode cX4_farthestHouse 16 = .ok (.getfield 114, 3) := by decide +kernel
theorem dX4_farthestHouse_19 : decode cX4_farthestHouse 19 = .ok (.if_icmp .ge 28, 3) := by decide +kernel
theorem dX4_farthestHouse_22 : decode cX4_farthestHouse 22 = .ok (.aload_n 0, 1) := by decide +kernel
theorem dX4_farthestHouse_23 : decode cX4_farthestHouse 23 = .ok (.getfield 31, 3) := by decide +kernel
theorem dX4_farthestHouse_26 : decode cX4_farthestHouse 26 = .ok (.iload_n 3, 1) := by decide +kernel
theorem dX4_farthestHouse_27 : decode cX4_farthestHouse 27 = .ok (.iaload, 1) := by decide +kernel
theorem dX4_farthestHouse_28 : decode cX4_farthestHouse 28 = .ok (.iload_n 2, 1) := by decide +kernel
theorem dX4_farthestHouse_29 : decode cX4_farthestHouse 29 = .ok (.if_icmp .le 12, 3) := by decide +kernel
theorem dX4_farthestHouse_32 : decode cX4_farthestHouse 32 = .ok (.iload_n 3, 1) := by decide +kernel
theorem dX4_farthestHouse_33 : decode cX4_farthestHouse 33 = .ok (.istore_n 1, 1) := by decide +kernel
theorem dX4_farthestHouse_34 : decode cX4_farthestHouse 34 = .ok (.aload_n 0, 1) := by decide +kernel
theorem dX4_farthestHouse_35 : decode cX4_farthestHouse 35 = .ok (.getfield 31, 3) := by decide +kernel
theorem dX4_farthestHouse_38 : decode cX4_farthestHouse 38 = .ok (.iload_n 3, 1) := by decide +kernel
theorem dX4_farthestHouse_39 : decode cX4_farthestHouse 39 = .ok (.iaload, 1) := by decide +kernel
theorem dX4_farthestHouse_40 : decode cX4_farthestHouse 40 = .ok (.istore_n 2, 1) := by decide +kernel
theorem dX4_farthestHouse_41 : decode cX4_farthestHouse 41 = .ok (.iinc 3 1, 3) := by decide +kernel
theorem dX4_farthestHouse_44 : decode cX4_farthestHouse 44 = .ok (.goto (-33), 3) := by decide +kernel
theorem dX4_farthestHouse_47 : decode cX4_farthestHouse 47 = .ok (.iload_n 1, 1) := by decide +kernel
theorem dX4_farthestHouse_48 : decode cX4_farthestHouse 48 = .ok (.ireturn, 1) := by decide +kernel
theorem dX4_burntIn_0 : decode cX4_burntIn 0 = .ok (.aload_n 0, 1) := by decide +kernel
theorem dX4_burntIn_1 : decode cX4_burntIn 1 = .ok (.getfield 18, 3) := by decide +kernel
theorem dX4_burntIn_4 : decode cX4_burntIn 4 = .ok (.aload_n 0, 1) := by decide +kernel
theorem dX4_burntIn_5 : decode cX4_burntIn 5 = .ok (.getfield 12, 3) := by decide +kernel
theorem dX4_burntIn_8 : decode cX4_burntIn 8 = .ok (.invokevirtual 41, 3) := by decide +kernel
theorem dX4_burntIn_11 : decode cX4_burntIn 11 = .ok (.aload_n 0, 1) := by decide +kernel
theorem dX4_burntIn_12 : decode cX4_burntIn 12 = .ok (.getfield 18, 3) := by decide +kernel
theorem dX4_burntIn_15 : decode cX4_burntIn 15 = .ok (.iload_n 1, 1) := by decide +kernel
theorem dX4_burntIn_16 : decode cX4_burntIn 16 = .ok (.invokevirtual 67, 3) := by decide +kernel
theorem dX4_burntIn_19 : decode cX4_burntIn 19 = .ok (.aload_n 0, 1) := by decide +kernel
theorem dX4_burntIn_20 : decode cX4_burntIn 20 = .ok (.getfield 12, 3) := by decide +kernel
theorem dX4_burntIn_23 : decode cX4_burntIn 23 = .ok (.invokevirtual 158, 3) := by decide +kernel
theorem dX4_burntIn_26 : decode cX4_burntIn 26 = .ok (.aload_n 0, 1) := by decide +kernel
theorem dX4_burntIn_27 : decode cX4_burntIn 27 = .ok (.getfield 18, 3) := by decide +kernel
theorem dX4_burntIn_30 : decode cX4_burntIn 30 = .ok (.invokevirtual 158, 3) := by decide +kernel
theorem dX4_burntIn_33 : decode cX4_burntIn 33 = .ok (.isub, 1) := by decide +kernel
theorem dX4_burntIn_34 : decode cX4_burntIn 34 = .ok (.ireturn, 1) := by decide +kernel
theorem dX4_bestForAWick_0 : decode cX4_bestForAWick 0 = .ok (.aload_n 0, 1) := by decide +kernel
theorem dX4_bestForAWick_1 : decode cX4_bestForAWick 1 = .ok (.invokevirtual 71, 3) := by decide +kernel
theorem dX4_bestForAWick_4 : decode cX4_bestForAWick 4 = .ok (.aload_n 0, 1) := by decide +kernel
theorem dX4_bestForAWick_5 : decode cX4_bestForAWick 5 = .ok (.iload_n 1, 1) := by decide +kernel
theorem dX4_bestForAWick_6 : decode cX4_bestForAWick 6 = .ok (.invokevirtual 143, 3) := by decide +kernel
theorem dX4_bestForAWick_9 : decode cX4_bestForAWick 9 = .ok (.istore_n 2, 1) := by decide +kernel
theorem dX4_bestForAWick_10 : decode cX4_bestForAWick 10 = .ok (.bipush (-9), 2) := by decide +kernel
theorem dX4_bestForAWick_12 : decode cX4_bestForAWick 12 = .ok (.istore_n 3, 1) := by decide +kernel
theorem dX4_bestForAWick_13 : decode cX4_bestForAWick 13 = .ok (.iconst 0, 1) := by decide +kernel
theorem dX4_bestForAWick_14 : decode cX4_bestForAWick 14 = .ok (.istore 4, 2) := by decide +kernel
theorem dX4_bestForAWick_16 : decode cX4_bestForAWick 16 = .ok (.iload 4, 2) := by decide +kernel
theorem dX4_bestForAWick_18 : decode cX4_bestForAWick 18 = .ok (.aload_n 0, 1) := by decide +kernel
theorem dX4_bestForAWick_19 : decode cX4_bestForAWick 19 = .ok (.getfield 12, 3) := by decide +kernel
theorem dX4_bestForAWick_22 : decode cX4_bestForAWick 22 = .ok (.getfield 114, 3) := by decide +kernel
theorem dX4_bestForAWick_25 : decode cX4_bestForAWick 25 = .ok (.if_icmp .ge 50, 3) := by decide +kernel
theorem dX4_bestForAWick_28 : decode cX4_bestForAWick 28 = .ok (.aload_n 0, 1) := by decide +kernel
theorem dX4_bestForAWick_29 : decode cX4_bestForAWick 29 = .ok (.getfield 18, 3) := by decide +kernel
theorem dX4_bestForAWick_32 : decode cX4_bestForAWick 32 = .ok (.aload_n 0, 1) := by decide +kernel
theorem dX4_bestForAWick_33 : decode cX4_bestForAWick 33 = .ok (.getfield 12, 3) := by decide +kernel
theorem dX4_bestForAWick_36 : decode cX4_bestForAWick 36 = .ok (.invokevirtual 41, 3) := by decide +kernel
theorem dX4_bestForAWick_39 : decode cX4_bestForAWick 39 = .ok (.aload_n 0, 1) := by decide +kernel
theorem dX4_bestForAWick_40 : decode cX4_bestForAWick 40 = .ok (.getfield 18, 3) := by decide +kernel
theorem dX4_bestForAWick_43 : decode cX4_bestForAWick 43 = .ok (.iload 4, 2) := by decide +kernel
theorem dX4_bestForAWick_45 : decode cX4_bestForAWick 45 = .ok (.iconst 1, 1) := by decide +kernel
theorem dX4_bestForAWick_46 : decode cX4_bestForAWick 46 = .ok (.invokevirtual 161, 3) := by decide +kernel
theorem dX4_bestForAWick_49 : decode cX4_bestForAWick 49 = .ok (.pop, 1) := by decide +kernel
theorem dX4_bestForAWick_50 : decode cX4_bestForAWick 50 = .ok (.aload_n 0, 1) := by decide +kernel
theorem dX4_bestForAWick_51 : decode cX4_bestForAWick 51 = .ok (.iload_n 1, 1) := by decide +kernel
theorem dX4_bestForAWick_52 : decode cX4_bestForAWick 52 = .ok (.invokevirtual 143, 3) := by decide +kernel
theorem dX4_bestForAWick_55 : decode cX4_bestForAWick 55 = .ok (.istore 5, 2) := by decide +kernel
theorem dX4_bestForAWick_57 : decode cX4_bestForAWick 57 = .ok (.iload 5, 2) := by decide +kernel
theorem dX4_bestForAWick_59 : decode cX4_bestForAWick 59 = .ok (.iload_n 2, 1) := by decide +kernel
theorem dX4_bestForAWick_60 : decode cX4_bestForAWick 60 = .ok (.if_icmp .le 9, 3) := by decide +kernel
theorem dX4_bestForAWick_63 : decode cX4_bestForAWick 63 = .ok (.iload 4, 2) := by decide +kernel
theorem dX4_bestForAWick_65 : decode cX4_bestForAWick 65 = .ok (.istore_n 3, 1) := by decide +kernel
theorem dX4_bestForAWick_66 : decode cX4_bestForAWick 66 = .ok (.iload 5, 2) := by decide +kernel
theorem dX4_bestForAWick_68 : decode cX4_bestForAWick 68 = .ok (.istore_n 2, 1) := by decide +kernel
theorem dX4_bestForAWick_69 : decode cX4_bestForAWick 69 = .ok (.iinc 4 1, 3) := by decide +kernel
theorem dX4_bestForAWick_72 : decode cX4_bestForAWick 72 = .ok (.goto (-56), 3) := by decide +kernel
theorem dX4_bestForAWick_75 : decode cX4_bestForAWick 75 = .ok (.iload_n 3, 1) := by decide +kernel
theorem dX4_bestForAWick_76 : decode cX4_bestForAWick 76 = .ok (.ireturn, 1) := by decide +kernel
theorem dX4_mostHanging_0 : decode cX4_mostHanging 0 = .ok (.aload_n 0, 1) := by decide +kernel
theorem dX4_mostHanging_1 : decode cX4_mostHanging 1 = .ok (.invokevirtual 71, 3) := by decide +kernel
theorem dX4_mostHanging_4 : decode cX4_mostHanging 4 = .ok (.iconst 0, 1) := by decide +kernel
theorem dX4_mostHanging_5 : decode cX4_mostHanging 5 = .ok (.istore_n 2, 1) := by decide +kernel
theorem dX4_mostHanging_6 : decode cX4_mostHanging 6 = .ok (.iconst 0, 1) := by decide +kernel
theorem dX4_mostHanging_7 : decode cX4_mostHanging 7 = .ok (.istore_n 3, 1) := by decide +kernel
theorem dX4_mostHanging_8 : decode cX4_mostHanging 8 = .ok (.iload_n 3, 1) := by decide +kernel
theorem dX4_mostHanging_9 : decode cX4_mostHanging 9 = .ok (.iload_n 1, 1) := by decide +kernel
theorem dX4_mostHanging_10 : decode cX4_mostHanging 10 = .ok (.if_icmp .gt 28, 3) := by decide +kernel
theorem dX4_mostHanging_13 : decode cX4_mostHanging 13 = .ok (.iload_n 2, 1) := by decide +kernel
theorem dX4_mostHanging_14 : decode cX4_mostHanging 14 = .ok (.aload_n 0, 1) := by decide +kernel
theorem dX4_mostHanging_15 : decode cX4_mostHanging 15 = .ok (.invokevirtual 74, 3) := by decide +kernel
theorem dX4_mostHanging_18 : decode cX4_mostHanging 18 = .ok (.invokestatic 59, 3) := by decide +kernel
theorem dX4_mostHanging_21 : decode cX4_mostHanging 21 = .ok (.invokestatic 164, 3) := by decide +kernel
theorem dX4_mostHanging_24 : decode cX4_mostHanging 24 = .ok (.istore_n 2, 1) := by decide +kernel
theorem dX4_mostHanging_25 : decode cX4_mostHanging 25 = .ok (.aload_n 0, 1) := by decide +kernel
theorem dX4_mostHanging_26 : decode cX4_mostHanging 26 = .ok (.getfield 18, 3) := by decide +kernel
theorem dX4_mostHanging_29 : decode cX4_mostHanging 29 = .ok (.invokevirtual 64, 3) := by decide +kernel
theorem dX4_mostHanging_32 : decode cX4_mostHanging 32 = .ok (.iinc 3 1, 3) := by decide +kernel
theorem dX4_mostHanging_35 : decode cX4_mostHanging 35 = .ok (.goto (-27), 3) := by decide +kernel
theorem dX4_mostHanging_38 : decode cX4_mostHanging 38 = .ok (.iload_n 2, 1) := by decide +kernel
theorem dX4_mostHanging_39 : decode cX4_mostHanging 39 = .ok (.ireturn, 1) := by decide +kernel
theorem dX4_leastFogOfNobody_0 : decode cX4_leastFogOfNobody 0 = .ok (.aload_n 0, 1) := by decide +kernel
theorem dX4_leastFogOfNobody_1 : decode cX4_leastFogOfNobody 1 = .ok (.getfield 18, 3) := by decide +kernel
theorem dX4_leastFogOfNobody_4 : decode cX4_leastFogOfNobody 4 = .ok (.aload_n 0, 1) := by decide +kernel
theorem dX4_leastFogOfNobody_5 : decode cX4_leastFogOfNobody 5 = .ok (.getfield 12, 3) := by decide +kernel
theorem dX4_leastFogOfNobody_8 : decode cX4_leastFogOfNobody 8 = .ok (.invokevirtual 41, 3) := by decide +kernel
theorem dX4_leastFogOfNobody_11 : decode cX4_leastFogOfNobody 11 = .ok (.iconst 0, 1) := by decide +kernel
theorem dX4_leastFogOfNobody_12 : decode cX4_leastFogOfNobody 12 = .ok (.istore_n 1, 1) := by decide +kernel
theorem dX4_leastFogOfNobody_13 : decode cX4_leastFogOfNobody 13 = .ok (.iload_n 1, 1) := by decide +kernel
theorem dX4_leastFogOfNobody_14 : decode cX4_leastFogOfNobody 14 = .ok (.bipush 9, 2) := by decide +kernel
theorem dX4_leastFogOfNobody_16 : decode cX4_leastFogOfNobody 16 = .ok (.if_icmp .gt 37, 3) := by decide +kernel
theorem dX4_leastFogOfNobody_19 : decode cX4_leastFogOfNobody 19 = .ok (.aload_n 0, 1) := by decide +kernel
theorem dX4_leastFogOfNobody_20 : decode cX4_leastFogOfNobody 20 = .ok (.getfield 18, 3) := by decide +kernel
theorem dX4_leastFogOfNobody_23 : decode cX4_leastFogOfNobody 23 = .ok (.iload_n 1, 1) := by decide +kernel
theorem dX4_leastFogOfNobody_24 : decode cX4_leastFogOfNobody 24 = .ok (.putfield 169, 3) := by decide +kernel
theorem dX4_leastFogOfNobody_27 : decode cX4_leastFogOfNobody 27 = .ok (.aload_n 0, 1) := by decide +kernel
theorem dX4_leastFogOfNobody_28 : decode cX4_leastFogOfNobody 28 = .ok (.getfield 24, 3) := by decide +kernel
theorem dX4_leastFogOfNobody_31 : decode cX4_leastFogOfNobody 31 = .ok (.aload_n 0, 1) := by decide +kernel
theorem dX4_leastFogOfNobody_32 : decode cX4_leastFogOfNobody 32 = .ok (.getfield 18, 3) := by decide +kernel
theorem dX4_leastFogOfNobody_35 : decode cX4_leastFogOfNobody 35 = .ok (.invokevirtual 131, 3) := by decide +kernel
theorem dX4_leastFogOfNobody_38 : decode cX4_leastFogOfNobody 38 = .ok (.aload_n 0, 1) := by decide +kernel
theorem dX4_leastFogOfNobody_39 : decode cX4_leastFogOfNobody 39 = .ok (.invokevirtual 74, 3) := by decide +kernel
theorem dX4_leastFogOfNobody_42 : decode cX4_leastFogOfNobody 42 = .ok (.ifCond .ne 5, 3) := by decide +kernel
theorem dX4_leastFogOfNobody_45 : decode cX4_leastFogOfNobody 45 = .ok (.iload_n 1, 1) := by decide +kernel
theorem dX4_leastFogOfNobody_46 : decode cX4_leastFogOfNobody 46 = .ok (.ireturn, 1) := by decide +kernel
theorem dX4_leastFogOfNobody_47 : decode cX4_leastFogOfNobody 47 = .ok (.iinc 1 1, 3) := by decide +kernel
theorem dX4_leastFogOfNobody_50 : decode cX4_leastFogOfNobody 50 = .ok (.goto (-37), 3) := by decide +kernel
theorem dX4_leastFogOfNobody_53 : decode cX4_leastFogOfNobody 53 = .ok (.bipush (-9), 2) := by decide +kernel
theorem dX4_leastFogOfNobody_55 : decode cX4_leastFogOfNobody 55 = .ok (.ireturn, 1) := by decide +kernel
theorem dX4_pairAtRest_0 : decode cX4_pairAtRest 0 = .ok (.aload_n 0, 1) := by decide +kernel
theorem dX4_pairAtRest_1 : decode cX4_pairAtRest 1 = .ok (.invokevirtual 71, 3) := by decide +kernel
theorem dX4_pairAtRest_4 : decode cX4_pairAtRest 4 = .ok (.iconst 0, 1) := by decide +kernel
theorem dX4_pairAtRest_5 : decode cX4_pairAtRest 5 = .ok (.istore_n 3, 1) := by decide +kernel
theorem dX4_pairAtRest_6 : decode cX4_pairAtRest 6 = .ok (.iload_n 3, 1) := by decide +kernel
theorem dX4_pairAtRest_7 : decode cX4_pairAtRest 7 = .ok (.iconst 4, 1) := by decide +kernel
theorem dX4_pairAtRest_8 : decode cX4_pairAtRest 8 = .ok (.if_icmp .ge 16, 3) := by decide +kernel
theorem dX4_pairAtRest_11 : decode cX4_pairAtRest 11 = .ok (.aload_n 0, 1) := by decide +kernel
theorem dX4_pairAtRest_12 : decode cX4_pairAtRest 12 = .ok (.iload_n 3, 1) := by decide +kernel
theorem dX4_pairAtRest_13 : decode cX4_pairAtRest 13 = .ok (.iload_n 1, 1) := by decide +kernel
theorem dX4_pairAtRest_14 : decode cX4_pairAtRest 14 = .ok (.iload_n 2, 1) := by decide +kernel
theorem dX4_pairAtRest_15 : decode cX4_pairAtRest 15 = .ok (.invokevirtual 172, 3) := by decide +kernel
theorem dX4_pairAtRest_18 : decode cX4_pairAtRest 18 = .ok (.iinc 3 1, 3) := by decide +kernel
theorem dX4_pairAtRest_21 : decode cX4_pairAtRest 21 = .ok (.goto (-15), 3) := by decide +kernel
theorem dX4_pairAtRest_24 : decode cX4_pairAtRest 24 = .ok (.iconst 0, 1) := by decide +kernel
theorem dX4_pairAtRest_25 : decode cX4_pairAtRest 25 = .ok (.istore_n 3, 1) := by decide +kernel
theorem dX4_pairAtRest_26 : decode cX4_pairAtRest 26 = .ok (.iload_n 3, 1) := by decide +kernel
theorem dX4_pairAtRest_27 : decode cX4_pairAtRest 27 = .ok (.iconst 4, 1) := by decide +kernel
theorem dX4_pairAtRest_28 : decode cX4_pairAtRest 28 = .ok (.if_icmp .ge 54, 3) := by decide +kernel
theorem dX4_pairAtRest_31 : decode cX4_pairAtRest 31 = .ok (.aload_n 0, 1) := by decide +kernel
theorem dX4_pairAtRest_32 : decode cX4_pairAtRest 32 = .ok (.getfield 35, 3) := by decide +kernel
theorem dX4_pairAtRest_35 : decode cX4_pairAtRest 35 = .ok (.iload_n 3, 1) := by decide +kernel
theorem dX4_pairAtRest_36 : decode cX4_pairAtRest 36 = .ok (.iaload, 1) := by decide +kernel
theorem dX4_pairAtRest_37 : decode cX4_pairAtRest 37 = .ok (.aload_n 0, 1) := by decide +kernel
theorem dX4_pairAtRest_38 : decode cX4_pairAtRest 38 = .ok (.getfield 35, 3) := by decide +kernel
theorem dX4_pairAtRest_41 : decode cX4_pairAtRest 41 = .ok (.iload_n 3, 1) := by decide +kernel
theorem dX4_pairAtRest_42 : decode cX4_pairAtRest 42 = .ok (.iconst 2, 1) := by decide +kernel
theorem dX4_pairAtRest_43 : decode cX4_pairAtRest 43 = .ok (.ixor, 1) := by decide +kernel
theorem dX4_pairAtRest_44 : decode cX4_pairAtRest 44 = .ok (.iaload, 1) := by decide +kernel
theorem dX4_pairAtRest_45 : decode cX4_pairAtRest 45 = .ok (.if_icmp .lt 31, 3) := by decide +kernel
theorem dX4_pairAtRest_48 : decode cX4_pairAtRest 48 = .ok (.aload_n 0, 1) := by decide +kernel
theorem dX4_pairAtRest_49 : decode cX4_pairAtRest 49 = .ok (.getfield 38, 3) := by decide +kernel
theorem dX4_pairAtRest_52 : decode cX4_pairAtRest 52 = .ok (.iload_n 3, 1) := by decide +kernel
theorem dX4_pairAtRest_53 : decode cX4_pairAtRest 53 = .ok (.iaload, 1) := by decide +kernel
theorem dX4_pairAtRest_54 : decode cX4_pairAtRest 54 = .ok (.aload_n 0, 1) := by decide +kernel
theorem dX4_pairAtRest_55 : decode cX4_pairAtRest 55 = .ok (.getfield 38, 3) := by decide +kernel
theorem dX4_pairAtRest_58 : decode cX4_pairAtRest 58 = .ok (.iload_n 3, 1) := by decide +kernel
theorem dX4_pairAtRest_59 : decode cX4_pairAtRest 59 = .ok (.iconst 1, 1) := by decide +kernel
theorem dX4_pairAtRest_60 : decode cX4_pairAtRest 60 = .ok (.ixor, 1) := by decide +kernel
theorem dX4_pairAtRest_61 : decode cX4_pairAtRest 61 = .ok (.iaload, 1) := by decide +kernel
theorem dX4_pairAtRest_62 : decode cX4_pairAtRest 62 = .ok (.if_icmp .lt 14, 3) := by decide +kernel
theorem dX4_pairAtRest_65 : decode cX4_pairAtRest 65 = .ok (.bipush 10, 2) := by decide +kernel
theorem dX4_pairAtRest_67 : decode cX4_pairAtRest 67 = .ok (.iload_n 3, 1) := by decide +kernel
theorem dX4_pairAtRest_68 : decode cX4_pairAtRest 68 = .ok (.iconst 2, 1) := by decide +kernel
theorem dX4_pairAtRest_69 : decode cX4_pairAtRest 69 = .ok (.idiv, 1) := by decide +kernel
theorem dX4_pairAtRest_70 : decode cX4_pairAtRest 70 = .ok (.imul, 1) := by decide +kernel
theorem dX4_pairAtRest_71 : decode cX4_pairAtRest 71 = .ok (.iload_n 3, 1) := by decide +kernel
theorem dX4_pairAtRest_72 : decode cX4_pairAtRest 72 = .ok (.iconst 2, 1) := by decide +kernel
theorem dX4_pairAtRest_73 : decode cX4_pairAtRest 73 = .ok (.irem, 1) := by decide +kernel
theorem dX4_pairAtRest_74 : decode cX4_pairAtRest 74 = .ok (.iadd, 1) := by decide +kernel
theorem dX4_pairAtRest_75 : decode cX4_pairAtRest 75 = .ok (.ireturn, 1) := by decide +kernel
theorem dX4_pairAtRest_76 : decode cX4_pairAtRest 76 = .ok (.iinc 3 1, 3) := by decide +kernel
theorem dX4_pairAtRest_79 : decode cX4_pairAtRest 79 = .ok (.goto (-53), 3) := by decide +kernel
theorem dX4_pairAtRest_82 : decode cX4_pairAtRest 82 = .ok (.bipush (-9), 2) := by decide +kernel
theorem dX4_pairAtRest_84 : decode cX4_pairAtRest 84 = .ok (.ireturn, 1) := by decide +kernel
theorem dX4_weighPair_0 : decode cX4_weighPair 0 = .ok (.iload_n 1, 1) := by decide +kernel
theorem dX4_weighPair_1 : decode cX4_weighPair 1 = .ok (.iconst 2, 1) := by decide +kernel
theorem dX4_weighPair_2 : decode cX4_weighPair 2 = .ok (.idiv, 1) := by decide +kernel
theorem dX4_weighPair_3 : decode cX4_weighPair 3 = .ok (.istore 4, 2) := by decide +kernel
theorem dX4_weighPair_5 : decode cX4_weighPair 5 = .ok (.iload_n 1, 1) := by decide +kernel
theorem dX4_weighPair_6 : decode cX4_weighPair 6 = .ok (.iconst 2, 1) := by decide +kernel
theorem dX4_weighPair_7 : decode cX4_weighPair 7 = .ok (.irem, 1) := by decide +kernel
theorem dX4_weighPair_8 : decode cX4_weighPair 8 = .ok (.istore 5, 2) := by decide +kernel
theorem dX4_weighPair_10 : decode cX4_weighPair 10 = .ok (.aload_n 0, 1) := by decide +kernel
theorem dX4_weighPair_11 : decode cX4_weighPair 11 = .ok (.getfield 18, 3) := by decide +kernel
theorem dX4_weighPair_14 : decode cX4_weighPair 14 = .ok (.aload_n 0, 1) := by decide +kernel
theorem dX4_weighPair_15 : decode cX4_weighPair 15 = .ok (.getfield 12, 3) := by decide +kernel
theorem dX4_weighPair_18 : decode cX4_weighPair 18 = .ok (.invokevirtual 41, 3) := by decide +kernel
theorem dX4_weighPair_21 : decode cX4_weighPair 21 = .ok (.aload_n 0, 1) := by decide +kernel
theorem dX4_weighPair_22 : decode cX4_weighPair 22 = .ok (.getfield 18, 3) := by decide +kernel
theorem dX4_weighPair_25 : decode cX4_weighPair 25 = .ok (.iload_n 2, 1) := by decide +kernel
theorem dX4_weighPair_26 : decode cX4_weighPair 26 = .ok (.iload 4, 2) := by decide +kernel
theorem dX4_weighPair_28 : decode cX4_weighPair 28 = .ok (.iconst 1, 1) := by decide +kernel
theorem dX4_weighPair_29 : decode cX4_weighPair 29 = .ok (.if_icmp .ne 7, 3) := by decide +kernel
