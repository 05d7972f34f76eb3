theorem dX0_init_0 : decode cX0_init 0 = .ok (.aload_n 0, 1) := by decide +kernel
theorem dX0_init_1 : decode cX0_init 1 = .ok (.invokespecial 3, 3) := by decide +kernel
theorem dX0_init_4 : decode cX0_init 4 = .ok (.aload_n 0, 1) := by decide +kernel
theorem dX0_init_5 : decode cX0_init 5 = .ok (.bipush 20, 2) := by decide +kernel
theorem dX0_init_7 : decode cX0_init 7 = .ok (.newarray .int, 2) := by decide +kernel
theorem dX0_init_9 : decode cX0_init 9 = .ok (.putfield 9, 3) := by decide +kernel
theorem dX0_init_12 : decode cX0_init 12 = .ok (.aload_n 0, 1) := by decide +kernel
theorem dX0_init_13 : decode cX0_init 13 = .ok (.bipush 20, 2) := by decide +kernel
theorem dX0_init_15 : decode cX0_init 15 = .ok (.newarray .int, 2) := by decide +kernel
theorem dX0_init_17 : decode cX0_init 17 = .ok (.putfield 15, 3) := by decide +kernel
theorem dX0_init_20 : decode cX0_init 20 = .ok (.aload_n 0, 1) := by decide +kernel
theorem dX0_init_21 : decode cX0_init 21 = .ok (.bipush 20, 2) := by decide +kernel
theorem dX0_init_23 : decode cX0_init 23 = .ok (.newarray .int, 2) := by decide +kernel
theorem dX0_init_25 : decode cX0_init 25 = .ok (.putfield 18, 3) := by decide +kernel
theorem dX0_init_28 : decode cX0_init 28 = .ok (.return_, 1) := by decide +kernel
theorem dX0_addEntry_0 : decode cX0_addEntry 0 = .ok (.aload_n 0, 1) := by decide +kernel
theorem dX0_addEntry_1 : decode cX0_addEntry 1 = .ok (.getfield 21, 3) := by decide +kernel
theorem dX0_addEntry_4 : decode cX0_addEntry 4 = .ok (.bipush 20, 2) := by decide +kernel
theorem dX0_addEntry_6 : decode cX0_addEntry 6 = .ok (.if_icmp .lt 4, 3) := by decide +kernel
theorem dX0_addEntry_9 : decode cX0_addEntry 9 = .ok (.return_, 1) := by decide +kernel
theorem dX0_addEntry_10 : decode cX0_addEntry 10 = .ok (.aload_n 0, 1) := by decide +kernel
theorem dX0_addEntry_11 : decode cX0_addEntry 11 = .ok (.getfield 9, 3) := by decide +kernel
theorem dX0_addEntry_14 : decode cX0_addEntry 14 = .ok (.aload_n 0, 1) := by decide +kernel
theorem dX0_addEntry_15 : decode cX0_addEntry 15 = .ok (.getfield 21, 3) := by decide +kernel
theorem dX0_addEntry_18 : decode cX0_addEntry 18 = .ok (.iload_n 1, 1) := by decide +kernel
theorem dX0_addEntry_19 : decode cX0_addEntry 19 = .ok (.iastore, 1) := by decide +kernel
theorem dX0_addEntry_20 : decode cX0_addEntry 20 = .ok (.aload_n 0, 1) := by decide +kernel
theorem dX0_addEntry_21 : decode cX0_addEntry 21 = .ok (.getfield 15, 3) := by decide +kernel
theorem dX0_addEntry_24 : decode cX0_addEntry 24 = .ok (.aload_n 0, 1) := by decide +kernel
theorem dX0_addEntry_25 : decode cX0_addEntry 25 = .ok (.getfield 21, 3) := by decide +kernel
theorem dX0_addEntry_28 : decode cX0_addEntry 28 = .ok (.iload_n 2, 1) := by decide +kernel
theorem dX0_addEntry_29 : decode cX0_addEntry 29 = .ok (.iastore, 1) := by decide +kernel
theorem dX0_addEntry_30 : decode cX0_addEntry 30 = .ok (.aload_n 0, 1) := by decide +kernel
theorem dX0_addEntry_31 : decode cX0_addEntry 31 = .ok (.getfield 18, 3) := by decide +kernel
theorem dX0_addEntry_34 : decode cX0_addEntry 34 = .ok (.aload_n 0, 1) := by decide +kernel
theorem dX0_addEntry_35 : decode cX0_addEntry 35 = .ok (.getfield 21, 3) := by decide +kernel
theorem dX0_addEntry_38 : decode cX0_addEntry 38 = .ok (.iload_n 3, 1) := by decide +kernel
theorem dX0_addEntry_39 : decode cX0_addEntry 39 = .ok (.iastore, 1) := by decide +kernel
theorem dX0_addEntry_40 : decode cX0_addEntry 40 = .ok (.aload_n 0, 1) := by decide +kernel
theorem dX0_addEntry_41 : decode cX0_addEntry 41 = .ok (.dup, 1) := by decide +kernel
theorem dX0_addEntry_42 : decode cX0_addEntry 42 = .ok (.getfield 21, 3) := by decide +kernel
theorem dX0_addEntry_45 : decode cX0_addEntry 45 = .ok (.iconst 1, 1) := by decide +kernel
theorem dX0_addEntry_46 : decode cX0_addEntry 46 = .ok (.iadd, 1) := by decide +kernel
theorem dX0_addEntry_47 : decode cX0_addEntry 47 = .ok (.putfield 21, 3) := by decide +kernel
theorem dX0_addEntry_50 : decode cX0_addEntry 50 = .ok (.return_, 1) := by decide +kernel
theorem dX1_init_0 : decode cX1_init 0 = .ok (.aload_n 0, 1) := by decide +kernel
theorem dX1_init_1 : decode cX1_init 1 = .ok (.invokespecial 3, 3) := by decide +kernel
theorem dX1_init_4 : decode cX1_init 4 = .ok (.aload_n 0, 1) := by decide +kernel
theorem dX1_init_5 : decode cX1_init 5 = .ok (.iconst 4, 1) := by decide +kernel
theorem dX1_init_6 : decode cX1_init 6 = .ok (.newarray .int, 2) := by decide +kernel
theorem dX1_init_8 : decode cX1_init 8 = .ok (.putfield 9, 3) := by decide +kernel
theorem dX1_init_11 : decode cX1_init 11 = .ok (.aload_n 0, 1) := by decide +kernel
theorem dX1_init_12 : decode cX1_init 12 = .ok (.iconst 4, 1) := by decide +kernel
theorem dX1_init_13 : decode cX1_init 13 = .ok (.newarray .long, 2) := by decide +kernel
theorem dX1_init_15 : decode cX1_init 15 = .ok (.putfield 15, 3) := by decide +kernel
theorem dX1_init_18 : decode cX1_init 18 = .ok (.aload_n 0, 1) := by decide +kernel
theorem dX1_init_19 : decode cX1_init 19 = .ok (.bipush 10, 2) := by decide +kernel
theorem dX1_init_21 : decode cX1_init 21 = .ok (.newarray .int, 2) := by decide +kernel
theorem dX1_init_23 : decode cX1_init 23 = .ok (.putfield 19, 3) := by decide +kernel
theorem dX1_init_26 : decode cX1_init 26 = .ok (.aload_n 0, 1) := by decide +kernel
theorem dX1_init_27 : decode cX1_init 27 = .ok (.iconst 4, 1) := by decide +kernel
theorem dX1_init_28 : decode cX1_init 28 = .ok (.newarray .int, 2) := by decide +kernel
theorem dX1_init_30 : decode cX1_init 30 = .ok (.putfield 22, 3) := by decide +kernel
theorem dX1_init_33 : decode cX1_init 33 = .ok (.aload_n 0, 1) := by decide +kernel
theorem dX1_init_34 : decode cX1_init 34 = .ok (.bipush 16, 2) := by decide +kernel
theorem dX1_init_36 : decode cX1_init 36 = .ok (.newarray .int, 2) := by decide +kernel
theorem dX1_init_38 : decode cX1_init 38 = .ok (.putfield 25, 3) := by decide +kernel
theorem dX1_init_41 : decode cX1_init 41 = .ok (.aload_n 0, 1) := by decide +kernel
theorem dX1_init_42 : decode cX1_init 42 = .ok (.iconst 4, 1) := by decide +kernel
theorem dX1_init_43 : decode cX1_init 43 = .ok (.newarray .int, 2) := by decide +kernel
theorem dX1_init_45 : decode cX1_init 45 = .ok (.putfield 28, 3) := by decide +kernel
theorem dX1_init_48 : decode cX1_init 48 = .ok (.aload_n 0, 1) := by decide +kernel
theorem dX1_init_49 : decode cX1_init 49 = .ok (.bipush 9, 2) := by decide +kernel
theorem dX1_init_51 : decode cX1_init 51 = .ok (.newarray .long, 2) := by decide +kernel
theorem dX1_init_53 : decode cX1_init 53 = .ok (.putfield 31, 3) := by decide +kernel
theorem dX1_init_56 : decode cX1_init 56 = .ok (.aload_n 0, 1) := by decide +kernel
theorem dX1_init_57 : decode cX1_init 57 = .ok (.iconst 3, 1) := by decide +kernel
theorem dX1_init_58 : decode cX1_init 58 = .ok (.newarray .long, 2) := by decide +kernel
theorem dX1_init_60 : decode cX1_init 60 = .ok (.putfield 34, 3) := by decide +kernel
theorem dX1_init_63 : decode cX1_init 63 = .ok (.aload_n 0, 1) := by decide +kernel
theorem dX1_init_64 : decode cX1_init 64 = .ok (.aload_n 1, 1) := by decide +kernel
theorem dX1_init_65 : decode cX1_init 65 = .ok (.putfield 37, 3) := by decide +kernel
theorem dX1_init_68 : decode cX1_init 68 = .ok (.return_, 1) := by decide +kernel
theorem dX1_weigh_0 : decode cX1_weigh 0 = .ok (.aload_n 0, 1) := by decide +kernel
theorem dX1_weigh_1 : decode cX1_weigh 1 = .ok (.iload_n 3, 1) := by decide +kernel
theorem dX1_weigh_2 : decode cX1_weigh 2 = .ok (.putfield 41, 3) := by decide +kernel
theorem dX1_weigh_5 : decode cX1_weigh 5 = .ok (.aload_n 0, 1) := by decide +kernel
theorem dX1_weigh_6 : decode cX1_weigh 6 = .ok (.iload_n 1, 1) := by decide +kernel
theorem dX1_weigh_7 : decode cX1_weigh 7 = .ok (.iload_n 2, 1) := by decide +kernel
theorem dX1_weigh_8 : decode cX1_weigh 8 = .ok (.iload 4, 2) := by decide +kernel
theorem dX1_weigh_10 : decode cX1_weigh 10 = .ok (.invokevirtual 45, 3) := by decide +kernel
theorem dX1_weigh_13 : decode cX1_weigh 13 = .ok (.aload_n 0, 1) := by decide +kernel
theorem dX1_weigh_14 : decode cX1_weigh 14 = .ok (.getfield 49, 3) := by decide +kernel
theorem dX1_weigh_17 : decode cX1_weigh 17 = .ok (.ifCond .ne 14, 3) := by decide +kernel
theorem dX1_weigh_20 : decode cX1_weigh 20 = .ok (.aload_n 0, 1) := by decide +kernel
theorem dX1_weigh_21 : decode cX1_weigh 21 = .ok (.lconst 0, 1) := by decide +kernel
theorem dX1_weigh_22 : decode cX1_weigh 22 = .ok (.putfield 52, 3) := by decide +kernel
theorem dX1_weigh_25 : decode cX1_weigh 25 = .ok (.aload_n 0, 1) := by decide +kernel
theorem dX1_weigh_26 : decode cX1_weigh 26 = .ok (.iconst 1, 1) := by decide +kernel
theorem dX1_weigh_27 : decode cX1_weigh 27 = .ok (.putfield 56, 3) := by decide +kernel
theorem dX1_weigh_30 : decode cX1_weigh 30 = .ok (.return_, 1) := by decide +kernel
theorem dX1_weigh_31 : decode cX1_weigh 31 = .ok (.aload_n 0, 1) := by decide +kernel
theorem dX1_weigh_32 : decode cX1_weigh 32 = .ok (.invokevirtual 60, 3) := by decide +kernel
theorem dX1_weigh_35 : decode cX1_weigh 35 = .ok (.aload_n 0, 1) := by decide +kernel
theorem dX1_weigh_36 : decode cX1_weigh 36 = .ok (.iload_n 1, 1) := by decide +kernel
theorem dX1_weigh_37 : decode cX1_weigh 37 = .ok (.iload_n 2, 1) := by decide +kernel
theorem dX1_weigh_38 : decode cX1_weigh 38 = .ok (.invokevirtual 63, 3) := by decide +kernel
theorem dX1_weigh_41 : decode cX1_weigh 41 = .ok (.aload_n 0, 1) := by decide +kernel
theorem dX1_weigh_42 : decode cX1_weigh 42 = .ok (.invokevirtual 67, 3) := by decide +kernel
theorem dX1_weigh_45 : decode cX1_weigh 45 = .ok (.aload_n 0, 1) := by decide +kernel
theorem dX1_weigh_46 : decode cX1_weigh 46 = .ok (.invokevirtual 70, 3) := by decide +kernel
theorem dX1_weigh_49 : decode cX1_weigh 49 = .ok (.aload_n 0, 1) := by decide +kernel
theorem dX1_weigh_50 : decode cX1_weigh 50 = .ok (.aload_n 0, 1) := by decide +kernel
theorem dX1_weigh_51 : decode cX1_weigh 51 = .ok (.getfield 31, 3) := by decide +kernel
theorem dX1_weigh_54 : decode cX1_weigh 54 = .ok (.iconst 0, 1) := by decide +kernel
theorem dX1_weigh_55 : decode cX1_weigh 55 = .ok (.laload, 1) := by decide +kernel
theorem dX1_weigh_56 : decode cX1_weigh 56 = .ok (.aload_n 0, 1) := by decide +kernel
theorem dX1_weigh_57 : decode cX1_weigh 57 = .ok (.iconst 0, 1) := by decide +kernel
theorem dX1_weigh_58 : decode cX1_weigh 58 = .ok (.iconst 0, 1) := by decide +kernel
theorem dX1_weigh_59 : decode cX1_weigh 59 = .ok (.invokevirtual 73, 3) := by decide +kernel
theorem dX1_weigh_62 : decode cX1_weigh 62 = .ok (.lmul, 1) := by decide +kernel
theorem dX1_weigh_63 : decode cX1_weigh 63 = .ok (.aload_n 0, 1) := by decide +kernel
theorem dX1_weigh_64 : decode cX1_weigh 64 = .ok (.getfield 31, 3) := by decide +kernel
theorem dX1_weigh_67 : decode cX1_weigh 67 = .ok (.iconst 1, 1) := by decide +kernel
theorem dX1_weigh_68 : decode cX1_weigh 68 = .ok (.laload, 1) := by decide +kernel
theorem dX1_weigh_69 : decode cX1_weigh 69 = .ok (.aload_n 0, 1) := by decide +kernel
theorem dX1_weigh_70 : decode cX1_weigh 70 = .ok (.iconst 0, 1) := by decide +kernel
theorem dX1_weigh_71 : decode cX1_weigh 71 = .ok (.iconst 1, 1) := by decide +kernel
theorem dX1_weigh_72 : decode cX1_weigh 72 = .ok (.invokevirtual 73, 3) := by decide +kernel
theorem dX1_weigh_75 : decode cX1_weigh 75 = .ok (.lmul, 1) := by decide +kernel
theorem dX1_weigh_76 : decode cX1_weigh 76 = .ok (.ladd, 1) := by decide +kernel
theorem dX1_weigh_77 : decode cX1_weigh 77 = .ok (.aload_n 0, 1) := by decide +kernel
theorem dX1_weigh_78 : decode cX1_weigh 78 = .ok (.getfield 31, 3) := by decide +kernel
theorem dX1_weigh_81 : decode cX1_weigh 81 = .ok (.iconst 2, 1) := by decide +kernel
theorem dX1_weigh_82 : decode cX1_weigh 82 = .ok (.laload, 1) := by decide +kernel
theorem dX1_weigh_83 : decode cX1_weigh 83 = .ok (.aload_n 0, 1) := by decide +kernel
theorem dX1_weigh_84 : decode cX1_weigh 84 = .ok (.iconst 0, 1) := by decide +kernel
theorem dX1_weigh_85 : decode cX1_weigh 85 = .ok (.iconst 2, 1) := by decide +kernel
theorem dX1_weigh_86 : decode cX1_weigh 86 = .ok (.invokevirtual 73, 3) := by decide +kernel
theorem dX1_weigh_89 : decode cX1_weigh 89 = .ok (.lmul, 1) := by decide +kernel
theorem dX1_weigh_90 : decode cX1_weigh 90 = .ok (.ladd, 1) := by decide +kernel
theorem dX1_weigh_91 : decode cX1_weigh 91 = .ok (.putfield 52, 3) := by decide +kernel
theorem dX1_weigh_94 : decode cX1_weigh 94 = .ok (.aload_n 0, 1) := by decide +kernel
theorem dX1_weigh_95 : decode cX1_weigh 95 = .ok (.aload_n 0, 1) := by decide +kernel
theorem dX1_weigh_96 : decode cX1_weigh 96 = .ok (.getfield 31, 3) := by decide +kernel
theorem dX1_weigh_99 : decode cX1_weigh 99 = .ok (.iconst 0, 1) := by decide +kernel
theorem dX1_weigh_100 : decode cX1_weigh 100 = .ok (.laload, 1) := by decide +kernel
theorem dX1_weigh_101 : decode cX1_weigh 101 = .ok (.lconst 0, 1) := by decide +kernel
theorem dX1_weigh_102 : decode cX1_weigh 102 = .ok (.lcmp, 1) := by decide +kernel
theorem dX1_weigh_103 : decode cX1_weigh 103 = .ok (.ifCond .le 27, 3) := by decide +kernel
theorem dX1_weigh_106 : decode cX1_weigh 106 = .ok (.aload_n 0, 1) := by decide +kernel
theorem dX1_weigh_107 : decode cX1_weigh 107 = .ok (.iconst 2, 1) := by decide +kernel
theorem dX1_weigh_108 : decode cX1_weigh 108 = .ok (.iconst 2, 1) := by decide +kernel
theorem dX1_weigh_109 : decode cX1_weigh 109 = .ok (.invokevirtual 73, 3) := by decide +kernel
theorem dX1_weigh_112 : decode cX1_weigh 112 = .ok (.lconst 0, 1) := by decide +kernel
theorem dX1_weigh_113 : decode cX1_weigh 113 = .ok (.lcmp, 1) := by decide +kernel
theorem dX1_weigh_114 : decode cX1_weigh 114 = .ok (.ifCond .le 16, 3) := by decide +kernel
theorem dX1_weigh_117 : decode cX1_weigh 117 = .ok (.aload_n 0, 1) := by decide +kernel
theorem dX1_weigh_118 : decode cX1_weigh 118 = .ok (.getfield 52, 3) := by decide +kernel
theorem dX1_weigh_121 : decode cX1_weigh 121 = .ok (.lconst 0, 1) := by decide +kernel
theorem dX1_weigh_122 : decode cX1_weigh 122 = .ok (.lcmp, 1) := by decide +kernel
theorem dX1_weigh_123 : decode cX1_weigh 123 = .ok (.ifCond .le 7, 3) := by decide +kernel
theorem dX1_weigh_126 : decode cX1_weigh 126 = .ok (.iconst 1, 1) := by decide +kernel
theorem dX1_weigh_127 : decode cX1_weigh 127 = .ok (.goto 4, 3) := by decide +kernel
theorem dX1_weigh_130 : decode cX1_weigh 130 = .ok (.iconst 0, 1) := by decide +kernel
theorem dX1_weigh_131 : decode cX1_weigh 131 = .ok (.putfield 56, 3) := by decide +kernel
theorem dX1_weigh_134 : decode cX1_weigh 134 = .ok (.aload_n 0, 1) := by decide +kernel
theorem dX1_weigh_135 : decode cX1_weigh 135 = .ok (.invokevirtual 77, 3) := by decide +kernel
theorem dX1_weigh_138 : decode cX1_weigh 138 = .ok (.aload_n 0, 1) := by decide +kernel
theorem dX1_weigh_139 : decode cX1_weigh 139 = .ok (.getfield 52, 3) := by decide +kernel
theorem dX1_weigh_142 : decode cX1_weigh 142 = .ok (.lconst 0, 1) := by decide +kernel
theorem dX1_weigh_143 : decode cX1_weigh 143 = .ok (.lcmp, 1) := by decide +kernel
theorem dX1_weigh_144 : decode cX1_weigh 144 = .ok (.ifCond .ge 7, 3) := by decide +kernel
theorem dX1_weigh_147 : decode cX1_weigh 147 = .ok (.aload_n 0, 1) := by decide +kernel
theorem dX1_weigh_148 : decode cX1_weigh 148 = .ok (.invokevirtual 80, 3) := by decide +kernel
theorem dX1_weigh_151 : decode cX1_weigh 151 = .ok (.return_, 1) := by decide +kernel
theorem dX1_exists_0 : decode cX1_exists 0 = .ok (.aload_n 0, 1) := by decide +kernel
theorem dX1_exists_1 : decode cX1_exists 1 = .ok (.getfield 52, 3) := by decide +kernel
theorem dX1_exists_4 : decode cX1_exists 4 = .ok (.lconst 0, 1) := by decide +kernel
theorem dX1_exists_5 : decode cX1_exists 5 = .ok (.lcmp, 1) := by decide +kernel
theorem dX1_exists_6 : decode cX1_exists 6 = .ok (.ifCond .eq 7, 3) := by decide +kernel
theorem dX1_exists_9 : decode cX1_exists 9 = .ok (.iconst 1, 1) := by decide +kernel
theorem dX1_exists_10 : decode cX1_exists 10 = .ok (.goto 4, 3) := by decide +kernel
theorem dX1_exists_13 : decode cX1_exists 13 = .ok (.iconst 0, 1) := by decide +kernel
theorem dX1_exists_14 : decode cX1_exists 14 = .ok (.ireturn, 1) := by decide +kernel
theorem dX1_lookFrom_0 : decode cX1_lookFrom 0 = .ok (.aload_n 0, 1) := by decide +kernel
theorem dX1_lookFrom_1 : decode cX1_lookFrom 1 = .ok (.iconst 0, 1) := by decide +kernel
theorem dX1_lookFrom_2 : decode cX1_lookFrom 2 = .ok (.putfield 49, 3) := by decide +kernel
theorem dX1_lookFrom_5 : decode cX1_lookFrom 5 = .ok (.iconst 0, 1) := by decide +kernel
theorem dX1_lookFrom_6 : decode cX1_lookFrom 6 = .ok (.istore 4, 2) := by decide +kernel
theorem dX1_lookFrom_8 : decode cX1_lookFrom 8 = .ok (.iload 4, 2) := by decide +kernel
theorem dX1_lookFrom_10 : decode cX1_lookFrom 10 = .ok (.iconst 4, 1) := by decide +kernel
theorem dX1_lookFrom_11 : decode cX1_lookFrom 11 = .ok (.if_icmp .ge 17, 3) := by decide +kernel
theorem dX1_lookFrom_14 : decode cX1_lookFrom 14 = .ok (.aload_n 0, 1) := by decide +kernel
theorem dX1_lookFrom_15 : decode cX1_lookFrom 15 = .ok (.getfield 22, 3) := by decide +kernel
theorem dX1_lookFrom_18 : decode cX1_lookFrom 18 = .ok (.iload 4, 2) := by decide +kernel
theorem dX1_lookFrom_20 : decode cX1_lookFrom 20 = .ok (.iconst 0, 1) := by decide +kernel
theorem dX1_lookFrom_21 : decode cX1_lookFrom 21 = .ok (.iastore, 1) := by decide +kernel
theorem dX1_lookFrom_22 : decode cX1_lookFrom 22 = .ok (.iinc 4 1, 3) := by decide +kernel
theorem dX1_lookFrom_25 : decode cX1_lookFrom 25 = .ok (.goto (-17), 3) := by decide +kernel
theorem dX1_lookFrom_28 : decode cX1_lookFrom 28 = .ok (.iconst 0, 1) := by decide +kernel
theorem dX1_lookFrom_29 : decode cX1_lookFrom 29 = .ok (.istore 4, 2) := by decide +kernel
theorem dX1_lookFrom_31 : decode cX1_lookFrom 31 = .ok (.iload 4, 2) := by decide +kernel
theorem dX1_lookFrom_33 : decode cX1_lookFrom 33 = .ok (.aload_n 0, 1) := by decide +kernel
theorem dX1_lookFrom_34 : decode cX1_lookFrom 34 = .ok (.getfield 37, 3) := by decide +kernel
theorem dX1_lookFrom_37 : decode cX1_lookFrom 37 = .ok (.getfield 83, 3) := by decide +kernel
theorem dX1_lookFrom_40 : decode cX1_lookFrom 40 = .ok (.if_icmp .ge 47, 3) := by decide +kernel
theorem dX1_lookFrom_43 : decode cX1_lookFrom 43 = .ok (.aload_n 0, 1) := by decide +kernel
theorem dX1_lookFrom_44 : decode cX1_lookFrom 44 = .ok (.getfield 19, 3) := by decide +kernel
theorem dX1_lookFrom_47 : decode cX1_lookFrom 47 = .ok (.iload 4, 2) := by decide +kernel
theorem dX1_lookFrom_49 : decode cX1_lookFrom 49 = .ok (.aload_n 0, 1) := by decide +kernel
theorem dX1_lookFrom_50 : decode cX1_lookFrom 50 = .ok (.getfield 37, 3) := by decide +kernel
theorem dX1_lookFrom_53 : decode cX1_lookFrom 53 = .ok (.aload_n 0, 1) := by decide +kernel
theorem dX1_lookFrom_54 : decode cX1_lookFrom 54 = .ok (.getfield 37, 3) := by decide +kernel
theorem dX1_lookFrom_57 : decode cX1_lookFrom 57 = .ok (.getfield 88, 3) := by decide +kernel
theorem dX1_lookFrom_60 : decode cX1_lookFrom 60 = .ok (.iload 4, 2) := by decide +kernel
theorem dX1_lookFrom_62 : decode cX1_lookFrom 62 = .ok (.iaload, 1) := by decide +kernel
theorem dX1_lookFrom_63 : decode cX1_lookFrom 63 = .ok (.iload_n 1, 1) := by decide +kernel
theorem dX1_lookFrom_64 : decode cX1_lookFrom 64 = .ok (.isub, 1) := by decide +kernel
theorem dX1_lookFrom_65 : decode cX1_lookFrom 65 = .ok (.aload_n 0, 1) := by decide +kernel
theorem dX1_lookFrom_66 : decode cX1_lookFrom 66 = .ok (.getfield 37, 3) := by decide +kernel
theorem dX1_lookFrom_69 : decode cX1_lookFrom 69 = .ok (.getfield 91, 3) := by decide +kernel
theorem dX1_lookFrom_72 : decode cX1_lookFrom 72 = .ok (.iload 4, 2) := by decide +kernel
theorem dX1_lookFrom_74 : decode cX1_lookFrom 74 = .ok (.iaload, 1) := by decide +kernel
theorem dX1_lookFrom_75 : decode cX1_lookFrom 75 = .ok (.iload_n 2, 1) := by decide +kernel
theorem dX1_lookFrom_76 : decode cX1_lookFrom 76 = .ok (.isub, 1) := by decide +kernel
theorem dX1_lookFrom_77 : decode cX1_lookFrom 77 = .ok (.invokevirtual 94, 3) := by decide +kernel
theorem dX1_lookFrom_80 : decode cX1_lookFrom 80 = .ok (.iastore, 1) := by decide +kernel
theorem dX1_lookFrom_81 : decode cX1_lookFrom 81 = .ok (.iinc 4 1, 3) := by decide +kernel
theorem dX1_lookFrom_84 : decode cX1_lookFrom 84 = .ok (.goto (-53), 3) := by decide +kernel
theorem dX1_lookFrom_87 : decode cX1_lookFrom 87 = .ok (.iload_n 3, 1) := by decide +kernel
theorem dX1_lookFrom_88 : decode cX1_lookFrom 88 = .ok (.iconst (-1), 1) := by decide +kernel
theorem dX1_lookFrom_89 : decode cX1_lookFrom 89 = .ok (.if_icmp .ne 7, 3) := by decide +kernel
theorem dX1_lookFrom_92 : decode cX1_lookFrom 92 = .ok (.iconst 0, 1) := by decide +kernel
theorem dX1_lookFrom_93 : decode cX1_lookFrom 93 = .ok (.goto 6, 3) := by decide +kernel
theorem dX1_lookFrom_96 : decode cX1_lookFrom 96 = .ok (.iconst 1, 1) := by decide +kernel
theorem dX1_lookFrom_97 : decode cX1_lookFrom 97 = .ok (.iload_n 3, 1) := by decide +kernel
theorem dX1_lookFrom_98 : decode cX1_lookFrom 98 = .ok (.ishl, 1) := by decide +kernel
theorem dX1_lookFrom_99 : decode cX1_lookFrom 99 = .ok (.istore 4, 2) := by decide +kernel
theorem dX1_lookFrom_101 : decode cX1_lookFrom 101 = .ok (.iconst 0, 1) := by decide +kernel
theorem dX1_lookFrom_102 : decode cX1_lookFrom 102 = .ok (.istore 5, 2) := by decide +kernel
theorem dX1_lookFrom_104 : decode cX1_lookFrom 104 = .ok (.iload 5, 2) := by decide +kernel
theorem dX1_lookFrom_106 : decode cX1_lookFrom 106 = .ok (.aload_n 0, 1) := by decide +kernel
theorem dX1_lookFrom_107 : decode cX1_lookFrom 107 = .ok (.getfield 37, 3) := by decide +kernel
theorem dX1_lookFrom_110 : decode cX1_lookFrom 110 = .ok (.getfield 83, 3) := by decide +kernel
theorem dX1_lookFrom_113 : decode cX1_lookFrom 113 = .ok (.if_icmp .ge 64, 3) := by decide +kernel
theorem dX1_lookFrom_116 : decode cX1_lookFrom 116 = .ok (.aload_n 0, 1) := by decide +kernel
theorem dX1_lookFrom_117 : decode cX1_lookFrom 117 = .ok (.getfield 49, 3) := by decide +kernel
theorem dX1_lookFrom_120 : decode cX1_lookFrom 120 = .ok (.aload_n 0, 1) := by decide +kernel
theorem dX1_lookFrom_121 : decode cX1_lookFrom 121 = .ok (.getfield 37, 3) := by decide +kernel
theorem dX1_lookFrom_124 : decode cX1_lookFrom 124 = .ok (.getfield 98, 3) := by decide +kernel
theorem dX1_lookFrom_127 : decode cX1_lookFrom 127 = .ok (.if_icmp .ge 50, 3) := by decide +kernel
theorem dX1_lookFrom_130 : decode cX1_lookFrom 130 = .ok (.aload_n 0, 1) := by decide +kernel
theorem dX1_lookFrom_131 : decode cX1_lookFrom 131 = .ok (.iload 4, 2) := by decide +kernel
theorem dX1_lookFrom_133 : decode cX1_lookFrom 133 = .ok (.invokevirtual 101, 3) := by decide +kernel
theorem dX1_lookFrom_136 : decode cX1_lookFrom 136 = .ok (.istore 6, 2) := by decide +kernel
theorem dX1_lookFrom_138 : decode cX1_lookFrom 138 = .ok (.iload 6, 2) := by decide +kernel
theorem dX1_lookFrom_140 : decode cX1_lookFrom 140 = .ok (.iconst (-1), 1) := by decide +kernel
theorem dX1_lookFrom_141 : decode cX1_lookFrom 141 = .ok (.if_icmp .ne 4, 3) := by decide +kernel
theorem dX1_lookFrom_144 : decode cX1_lookFrom 144 = .ok (.return_, 1) := by decide +kernel
theorem dX1_lookFrom_145 : decode cX1_lookFrom 145 = .ok (.iload 4, 2) := by decide +kernel
theorem dX1_lookFrom_147 : decode cX1_lookFrom 147 = .ok (.iconst 1, 1) := by decide +kernel
theorem dX1_lookFrom_148 : decode cX1_lookFrom 148 = .ok (.iload 6, 2) := by decide +kernel
theorem dX1_lookFrom_150 : decode cX1_lookFrom 150 = .ok (.ishl, 1) := by decide +kernel
theorem dX1_lookFrom_151 : decode cX1_lookFrom 151 = .ok (.ior, 1) := by decide +kernel
theorem dX1_lookFrom_152 : decode cX1_lookFrom 152 = .ok (.istore 4, 2) := by decide +kernel
theorem dX1_lookFrom_154 : decode cX1_lookFrom 154 = .ok (.aload_n 0, 1) := by decide +kernel
theorem dX1_lookFrom_155 : decode cX1_lookFrom 155 = .ok (.iload 6, 2) := by decide +kernel
theorem dX1_lookFrom_157 : decode cX1_lookFrom 157 = .ok (.aload_n 0, 1) := by decide +kernel
theorem dX1_lookFrom_158 : decode cX1_lookFrom 158 = .ok (.getfield 37, 3) := by decide +kernel
theorem dX1_lookFrom_161 : decode cX1_lookFrom 161 = .ok (.iload 6, 2) := by decide +kernel
theorem dX1_lookFrom_163 : decode cX1_lookFrom 163 = .ok (.iload_n 1, 1) := by decide +kernel
theorem dX1_lookFrom_164 : decode cX1_lookFrom 164 = .ok (.iload_n 2, 1) := by decide +kernel
theorem dX1_lookFrom_165 : decode cX1_lookFrom 165 = .ok (.invokevirtual 105, 3) := by decide +kernel
theorem dX1_lookFrom_168 : decode cX1_lookFrom 168 = .ok (.invokevirtual 109, 3) := by decide +kernel
theorem dX1_lookFrom_171 : decode cX1_lookFrom 171 = .ok (.iinc 5 1, 3) := by decide +kernel
theorem dX1_lookFrom_174 : decode cX1_lookFrom 174 = .ok (.goto (-70), 3) := by decide +kernel
theorem dX1_lookFrom_177 : decode cX1_lookFrom 177 = .ok (.return_, 1) := by decide +kernel
theorem dX1_nearestBut_0 : decode cX1_nearestBut 0 = .ok (.iconst (-1), 1) := by decide +kernel
theorem dX1_nearestBut_1 : decode cX1_nearestBut 1 = .ok (.istore_n 2, 1) := by decide +kernel
theorem dX1_nearestBut_2 : decode cX1_nearestBut 2 = .ok (.aload_n 0, 1) := by decide +kernel
theorem dX1_nearestBut_3 : decode cX1_nearestBut 3 = .ok (.getfield 37, 3) := by decide +kernel
theorem dX1_nearestBut_6 : decode cX1_nearestBut 6 = .ok (.getfield 112, 3) := by decide +kernel
theorem dX1_nearestBut_9 : decode cX1_nearestBut 9 = .ok (.iconst 1, 1) := by decide +kernel
theorem dX1_nearestBut_10 : decode cX1_nearestBut 10 = .ok (.iadd, 1) := by decide +kernel
theorem dX1_nearestBut_11 : decode cX1_nearestBut 11 = .ok (.istore_n 3, 1) := by decide +kernel
theorem dX1_nearestBut_12 : decode cX1_nearestBut 12 = .ok (.iconst 0, 1) := by decide +kernel
theorem dX1_nearestBut_13 : decode cX1_nearestBut 13 = .ok (.istore 4, 2) := by decide +kernel
theorem dX1_nearestBut_15 : decode cX1_nearestBut 15 = .ok (.iload 4, 2) := by decide +kernel
theorem dX1_nearestBut_17 : decode cX1_nearestBut 17 = .ok (.aload_n 0, 1) := by decide +kernel
theorem dX1_nearestBut_18 : decode cX1_nearestBut 18 = .ok (.getfield 37, 3) := by decide +kernel
theorem dX1_nearestBut_21 : decode cX1_nearestBut 21 = .ok (.getfield 83, 3) := by decide +kernel
theorem dX1_nearestBut_24 : decode cX1_nearestBut 24 = .ok (.if_icmp .ge 40, 3) := by decide +kernel
theorem dX1_nearestBut_27 : decode cX1_nearestBut 27 = .ok (.aload_n 0, 1) := by decide +kernel
theorem dX1_nearestBut_28 : decode cX1_nearestBut 28 = .ok (.getfield 19, 3) := by decide +kernel
theorem dX1_nearestBut_31 : decode cX1_nearestBut 31 = .ok (.iload 4, 2) := by decide +kernel
theorem dX1_nearestBut_33 : decode cX1_nearestBut 33 = .ok (.iaload, 1) := by decide +kernel
theorem dX1_nearestBut_34 : decode cX1_nearestBut 34 = .ok (.iload_n 3, 1) := by decide +kernel
theorem dX1_nearestBut_35 : decode cX1_nearestBut 35 = .ok (.if_icmp .ge 23, 3) := by decide +kernel
theorem dX1_nearestBut_38 : decode cX1_nearestBut 38 = .ok (.iload_n 1, 1) := by decide +kernel
theorem dX1_nearestBut_39 : decode cX1_nearestBut 39 = .ok (.iload 4, 2) := by decide +kernel
theorem dX1_nearestBut_41 : decode cX1_nearestBut 41 = .ok (.ishr, 1) := by decide +kernel
theorem dX1_nearestBut_42 : decode cX1_nearestBut 42 = .ok (.iconst 1, 1) := by decide +kernel
theorem dX1_nearestBut_43 : decode cX1_nearestBut 43 = .ok (.iand, 1) := by decide +kernel
theorem dX1_nearestBut_44 : decode cX1_nearestBut 44 = .ok (.ifCond .ne 14, 3) := by decide +kernel
theorem dX1_nearestBut_47 : decode cX1_nearestBut 47 = .ok (.iload 4, 2) := by decide +kernel
theorem dX1_nearestBut_49 : decode cX1_nearestBut 49 = .ok (.istore_n 2, 1) := by decide +kernel
theorem dX1_nearestBut_50 : decode cX1_nearestBut 50 = .ok (.aload_n 0, 1) := by decide +kernel
theorem dX1_nearestBut_51 : decode cX1_nearestBut 51 = .ok (.getfield 19, 3) := by decide +kernel
theorem dX1_nearestBut_54 : decode cX1_nearestBut 54 = .ok (.iload 4, 2) := by decide +kernel
theorem dX1_nearestBut_56 : decode cX1_nearestBut 56 = .ok (.iaload, 1) := by decide +kernel
theorem dX1_nearestBut_57 : decode cX1_nearestBut 57 = .ok (.istore_n 3, 1) := by decide +kernel
theorem dX1_nearestBut_58 : decode cX1_nearestBut 58 = .ok (.iinc 4 1, 3) := by decide +kernel
theorem dX1_nearestBut_61 : decode cX1_nearestBut 61 = .ok (.goto (-46), 3) := by decide +kernel
theorem dX1_nearestBut_64 : decode cX1_nearestBut 64 = .ok (.iload_n 2, 1) := by decide +kernel
theorem dX1_nearestBut_65 : decode cX1_nearestBut 65 = .ok (.ireturn, 1) := by decide +kernel
theorem dX1_lookAt_0 : decode cX1_lookAt 0 = .ok (.aload_n 0, 1) := by decide +kernel
theorem dX1_lookAt_1 : decode cX1_lookAt 1 = .ok (.getfield 22, 3) := by decide +kernel
theorem dX1_lookAt_4 : decode cX1_lookAt 4 = .ok (.iload_n 2, 1) := by decide +kernel
theorem dX1_lookAt_5 : decode cX1_lookAt 5 = .ok (.iaload, 1) := by decide +kernel
theorem dX1_lookAt_6 : decode cX1_lookAt 6 = .ok (.aload_n 0, 1) := by decide +kernel
theorem dX1_lookAt_7 : decode cX1_lookAt 7 = .ok (.getfield 37, 3) := by decide +kernel
theorem dX1_lookAt_10 : decode cX1_lookAt 10 = .ok (.getfield 115, 3) := by decide +kernel
theorem dX1_lookAt_13 : decode cX1_lookAt 13 = .ok (.if_icmp .ge 41, 3) := by decide +kernel
theorem dX1_lookAt_16 : decode cX1_lookAt 16 = .ok (.aload_n 0, 1) := by decide +kernel
theorem dX1_lookAt_17 : decode cX1_lookAt 17 = .ok (.getfield 49, 3) := by decide +kernel
theorem dX1_lookAt_20 : decode cX1_lookAt 20 = .ok (.iconst 4, 1) := by decide +kernel
theorem dX1_lookAt_21 : decode cX1_lookAt 21 = .ok (.if_icmp .ge 33, 3) := by decide +kernel
theorem dX1_lookAt_24 : decode cX1_lookAt 24 = .ok (.aload_n 0, 1) := by decide +kernel
theorem dX1_lookAt_25 : decode cX1_lookAt 25 = .ok (.getfield 22, 3) := by decide +kernel
theorem dX1_lookAt_28 : decode cX1_lookAt 28 = .ok (.iload_n 2, 1) := by decide +kernel
theorem dX1_lookAt_29 : decode cX1_lookAt 29 = .ok (.dup2, 1) := by decide +kernel
theorem dX1_lookAt_30 : decode cX1_lookAt 30 = .ok (.iaload, 1) := by decide +kernel
theorem dX1_lookAt_31 : decode cX1_lookAt 31 = .ok (.iconst 1, 1) := by decide +kernel
theorem dX1_lookAt_32 : decode cX1_lookAt 32 = .ok (.iadd, 1) := by decide +kernel
theorem dX1_lookAt_33 : decode cX1_lookAt 33 = .ok (.iastore, 1) := by decide +kernel
theorem dX1_lookAt_34 : decode cX1_lookAt 34 = .ok (.aload_n 0, 1) := by decide +kernel
theorem dX1_lookAt_35 : decode cX1_lookAt 35 = .ok (.getfield 9, 3) := by decide +kernel
theorem dX1_lookAt_38 : decode cX1_lookAt 38 = .ok (.aload_n 0, 1) := by decide +kernel
theorem dX1_lookAt_39 : decode cX1_lookAt 39 = .ok (.getfield 49, 3) := by decide +kernel
theorem dX1_lookAt_42 : decode cX1_lookAt 42 = .ok (.iload_n 1, 1) := by decide +kernel
theorem dX1_lookAt_43 : decode cX1_lookAt 43 = .ok (.iastore, 1) := by decide +kernel
theorem dX1_lookAt_44 : decode cX1_lookAt 44 = .ok (.aload_n 0, 1) := by decide +kernel
theorem dX1_lookAt_45 : decode cX1_lookAt 45 = .ok (.dup, 1) := by decide +kernel
theorem dX1_lookAt_46 : decode cX1_lookAt 46 = .ok (.getfield 49, 3) := by decide +kernel
theorem dX1_lookAt_49 : decode cX1_lookAt 49 = .ok (.iconst 1, 1) := by decide +kernel
theorem dX1_lookAt_50 : decode cX1_lookAt 50 = .ok (.iadd, 1) := by decide +kernel
theorem dX1_lookAt_51 : decode cX1_lookAt 51 = .ok (.putfield 49, 3) := by decide +kernel
theorem dX1_lookAt_54 : decode cX1_lookAt 54 = .ok (.return_, 1) := by decide +kernel
theorem dX1_setOfLooked_0 : decode cX1_setOfLooked 0 = .ok (.iconst 0, 1) := by decide +kernel
theorem dX1_setOfLooked_1 : decode cX1_setOfLooked 1 = .ok (.istore_n 1, 1) := by decide +kernel
theorem dX1_setOfLooked_2 : decode cX1_setOfLooked 2 = .ok (.iconst 0, 1) := by decide +kernel
theorem dX1_setOfLooked_3 : decode cX1_setOfLooked 3 = .ok (.istore_n 2, 1) := by decide +kernel
theorem dX1_setOfLooked_4 : decode cX1_setOfLooked 4 = .ok (.iload_n 2, 1) := by decide +kernel
theorem dX1_setOfLooked_5 : decode cX1_setOfLooked 5 = .ok (.aload_n 0, 1) := by decide +kernel
theorem dX1_setOfLooked_6 : decode cX1_setOfLooked 6 = .ok (.getfield 49, 3) := by decide +kernel
theorem dX1_setOfLooked_9 : decode cX1_setOfLooked 9 = .ok (.if_icmp .ge 20, 3) := by decide +kernel
theorem dX1_setOfLooked_12 : decode cX1_setOfLooked 12 = .ok (.iload_n 1, 1) := by decide +kernel
theorem dX1_setOfLooked_13 : decode cX1_setOfLooked 13 = .ok (.iconst 1, 1) := by decide +kernel
theorem dX1_setOfLooked_14 : decode cX1_setOfLooked 14 = .ok (.aload_n 0, 1) := by decide +kernel
theorem dX1_setOfLooked_15 : decode cX1_setOfLooked 15 = .ok (.getfield 9, 3) := by decide +kernel
theorem dX1_setOfLooked_18 : decode cX1_setOfLooked 18 = .ok (.iload_n 2, 1) := by decide +kernel
theorem dX1_setOfLooked_19 : decode cX1_setOfLooked 19 = .ok (.iaload, 1) := by decide +kernel
theorem dX1_setOfLooked_20 : decode cX1_setOfLooked 20 = .ok (.ishl, 1) := by decide +kernel
theorem dX1_setOfLooked_21 : decode cX1_setOfLooked 21 = .ok (.ior, 1) := by decide +kernel
theorem dX1_setOfLooked_22 : decode cX1_setOfLooked 22 = .ok (.istore_n 1, 1) := by decide +kernel
theorem dX1_setOfLooked_23 : decode cX1_setOfLooked 23 = .ok (.iinc 2 1, 3) := by decide +kernel
theorem dX1_setOfLooked_26 : decode cX1_setOfLooked 26 = .ok (.goto (-22), 3) := by decide +kernel
theorem dX1_setOfLooked_29 : decode cX1_setOfLooked 29 = .ok (.iload_n 1, 1) := by decide +kernel
theorem dX1_setOfLooked_30 : decode cX1_setOfLooked 30 = .ok (.ireturn, 1) := by decide +kernel
theorem dX1_fillBetween_0 : decode cX1_fillBetween 0 = .ok (.iconst 0, 1) := by decide +kernel
theorem dX1_fillBetween_1 : decode cX1_fillBetween 1 = .ok (.istore_n 1, 1) := by decide +kernel
theorem dX1_fillBetween_2 : decode cX1_fillBetween 2 = .ok (.iload_n 1, 1) := by decide +kernel
theorem dX1_fillBetween_3 : decode cX1_fillBetween 3 = .ok (.aload_n 0, 1) := by decide +kernel
theorem dX1_fillBetween_4 : decode cX1_fillBetween 4 = .ok (.getfield 49, 3) := by decide +kernel
theorem dX1_fillBetween_7 : decode cX1_fillBetween 7 = .ok (.if_icmp .ge 97, 3) := by decide +kernel
theorem dX1_fillBetween_10 : decode cX1_fillBetween 10 = .ok (.aload_n 0, 1) := by decide +kernel
theorem dX1_fillBetween_11 : decode cX1_fillBetween 11 = .ok (.getfield 9, 3) := by decide +kernel
theorem dX1_fillBetween_14 : decode cX1_fillBetween 14 = .ok (.iload_n 1, 1) := by decide +kernel
theorem dX1_fillBetween_15 : decode cX1_fillBetween 15 = .ok (.iaload, 1) := by decide +kernel
theorem dX1_fillBetween_16 : decode cX1_fillBetween 16 = .ok (.istore_n 2, 1) := by decide +kernel
theorem dX1_fillBetween_17 : decode cX1_fillBetween 17 = .ok (.iconst 0, 1) := by decide +kernel
theorem dX1_fillBetween_18 : decode cX1_fillBetween 18 = .ok (.istore_n 3, 1) := by decide +kernel
theorem dX1_fillBetween_19 : decode cX1_fillBetween 19 = .ok (.iload_n 3, 1) := by decide +kernel
theorem dX1_fillBetween_20 : decode cX1_fillBetween 20 = .ok (.aload_n 0, 1) := by decide +kernel
theorem dX1_fillBetween_21 : decode cX1_fillBetween 21 = .ok (.getfield 49, 3) := by decide +kernel
theorem dX1_fillBetween_24 : decode cX1_fillBetween 24 = .ok (.if_icmp .ge 74, 3) := by decide +kernel
theorem dX1_fillBetween_27 : decode cX1_fillBetween 27 = .ok (.aload_n 0, 1) := by decide +kernel
theorem dX1_fillBetween_28 : decode cX1_fillBetween 28 = .ok (.getfield 9, 3) := by decide +kernel
theorem dX1_fillBetween_31 : decode cX1_fillBetween 31 = .ok (.iload_n 3, 1) := by decide +kernel
theorem dX1_fillBetween_32 : decode cX1_fillBetween 32 = .ok (.iaload, 1) := by decide +kernel
theorem dX1_fillBetween_33 : decode cX1_fillBetween 33 = .ok (.istore 4, 2) := by decide +kernel
theorem dX1_fillBetween_35 : decode cX1_fillBetween 35 = .ok (.aload_n 0, 1) := by decide +kernel
theorem dX1_fillBetween_36 : decode cX1_fillBetween 36 = .ok (.getfield 25, 3) := by decide +kernel
theorem dX1_fillBetween_39 : decode cX1_fillBetween 39 = .ok (.iload_n 1, 1) := by decide +kernel
theorem dX1_fillBetween_40 : decode cX1_fillBetween 40 = .ok (.iconst 4, 1) := by decide +kernel
theorem dX1_fillBetween_41 : decode cX1_fillBetween 41 = .ok (.imul, 1) := by decide +kernel
theorem dX1_fillBetween_42 : decode cX1_fillBetween 42 = .ok (.iload_n 3, 1) := by decide +kernel
theorem dX1_fillBetween_43 : decode cX1_fillBetween 43 = .ok (.iadd, 1) := by decide +kernel
theorem dX1_fillBetween_44 : decode cX1_fillBetween 44 = .ok (.aload_n 0, 1) := by decide +kernel
theorem dX1_fillBetween_45 : decode cX1_fillBetween 45 = .ok (.getfield 37, 3) := by decide +kernel
theorem dX1_fillBetween_48 : decode cX1_fillBetween 48 = .ok (.aload_n 0, 1) := by decide +kernel
theorem dX1_fillBetween_49 : decode cX1_fillBetween 49 = .ok (.getfield 37, 3) := by decide +kernel
theorem dX1_fillBetween_52 : decode cX1_fillBetween 52 = .ok (.getfield 88, 3) := by decide +kernel
theorem dX1_fillBetween_55 : decode cX1_fillBetween 55 = .ok (.iload_n 2, 1) := by decide +kernel
theorem dX1_fillBetween_56 : decode cX1_fillBetween 56 = .ok (.iaload, 1) := by decide +kernel
theorem dX1_fillBetween_57 : decode cX1_fillBetween 57 = .ok (.aload_n 0, 1) := by decide +kernel
theorem dX1_fillBetween_58 : decode cX1_fillBetween 58 = .ok (.getfield 37, 3) := by decide +kernel
theorem dX1_fillBetween_61 : decode cX1_fillBetween 61 = .ok (.getfield 88, 3) := by decide +kernel
theorem dX1_fillBetween_64 : decode cX1_fillBetween 64 = .ok (.iload 4, 2) := by decide +kernel
theorem dX1_fillBetween_66 : decode cX1_fillBetween 66 = .ok (.iaload, 1) := by decide +kernel
theorem dX1_fillBetween_67 : decode cX1_fillBetween 67 = .ok (.isub, 1) := by decide +kernel
theorem dX1_fillBetween_68 : decode cX1_fillBetween 68 = .ok (.aload_n 0, 1) := by decide +kernel
theorem dX1_fillBetween_69 : decode cX1_fillBetween 69 = .ok (.getfield 37, 3) := by decide +kernel
theorem dX1_fillBetween_72 : decode cX1_fillBetween 72 = .ok (.getfield 91, 3) := by decide +kernel
theorem dX1_fillBetween_75 : decode cX1_fillBetween 75 = .ok (.iload_n 2, 1) := by decide +kernel
theorem dX1_fillBetween_76 : decode cX1_fillBetween 76 = .ok (.iaload, 1) := by decide +kernel
theorem dX1_fillBetween_77 : decode cX1_fillBetween 77 = .ok (.aload_n 0, 1) := by decide +kernel
theorem dX1_fillBetween_78 : decode cX1_fillBetween 78 = .ok (.getfield 37, 3) := by decide +kernel
theorem dX1_fillBetween_81 : decode cX1_fillBetween 81 = .ok (.getfield 91, 3) := by decide +kernel
theorem dX1_fillBetween_84 : decode cX1_fillBetween 84 = .ok (.iload 4, 2) := by decide +kernel
theorem dX1_fillBetween_86 : decode cX1_fillBetween 86 = .ok (.iaload, 1) := by decide +kernel
theorem dX1_fillBetween_87 : decode cX1_fillBetween 87 = .ok (.isub, 1) := by decide +kernel
theorem dX1_fillBetween_88 : decode cX1_fillBetween 88 = .ok (.invokevirtual 118, 3) := by decide +kernel
theorem dX1_fillBetween_91 : decode cX1_fillBetween 91 = .ok (.iastore, 1) := by decide +kernel
theorem dX1_fillBetween_92 : decode cX1_fillBetween 92 = .ok (.iinc 3 1, 3) := by decide +kernel
theorem dX1_fillBetween_95 : decode cX1_fillBetween 95 = .ok (.goto (-76), 3) := by decide +kernel
theorem dX1_fillBetween_98 : decode cX1_fillBetween 98 = .ok (.iinc 1 1, 3) := by decide +kernel
theorem dX1_fillBetween_101 : decode cX1_fillBetween 101 = .ok (.goto (-99), 3) := by decide +kernel
theorem dX1_fillBetween_104 : decode cX1_fillBetween 104 = .ok (.return_, 1) := by decide +kernel
theorem dX1_sumToPlaces_0 : decode cX1_sumToPlaces 0 = .ok (.iconst 0, 1) := by decide +kernel
theorem dX1_sumToPlaces_1 : decode cX1_sumToPlaces 1 = .ok (.istore_n 3, 1) := by decide +kernel
theorem dX1_sumToPlaces_2 : decode cX1_sumToPlaces 2 = .ok (.iload_n 3, 1) := by decide +kernel
theorem dX1_sumToPlaces_3 : decode cX1_sumToPlaces 3 = .ok (.aload_n 0, 1) := by decide +kernel
theorem dX1_sumToPlaces_4 : decode cX1_sumToPlaces 4 = .ok (.getfield 49, 3) := by decide +kernel
theorem dX1_sumToPlaces_7 : decode cX1_sumToPlaces 7 = .ok (.if_icmp .ge 94, 3) := by decide +kernel
theorem dX1_sumToPlaces_10 : decode cX1_sumToPlaces 10 = .ok (.aload_n 0, 1) := by decide +kernel
theorem dX1_sumToPlaces_11 : decode cX1_sumToPlaces 11 = .ok (.getfield 9, 3) := by decide +kernel
theorem dX1_sumToPlaces_14 : decode cX1_sumToPlaces 14 = .ok (.iload_n 3, 1) := by decide +kernel
theorem dX1_sumToPlaces_15 : decode cX1_sumToPlaces 15 = .ok (.iaload, 1) := by decide +kernel
theorem dX1_sumToPlaces_16 : decode cX1_sumToPlaces 16 = .ok (.istore 4, 2) := by decide +kernel
theorem dX1_sumToPlaces_18 : decode cX1_sumToPlaces 18 = .ok (.iconst 0, 1) := by decide +kernel
theorem dX1_sumToPlaces_19 : decode cX1_sumToPlaces 19 = .ok (.istore 5, 2) := by decide +kernel
theorem dX1_sumToPlaces_21 : decode cX1_sumToPlaces 21 = .ok (.iconst 0, 1) := by decide +kernel
theorem dX1_sumToPlaces_22 : decode cX1_sumToPlaces 22 = .ok (.istore 6, 2) := by decide +kernel
theorem dX1_sumToPlaces_24 : decode cX1_sumToPlaces 24 = .ok (.iload 6, 2) := by decide +kernel
theorem dX1_sumToPlaces_26 : decode cX1_sumToPlaces 26 = .ok (.aload_n 0, 1) := by decide +kernel
theorem dX1_sumToPlaces_27 : decode cX1_sumToPlaces 27 = .ok (.getfield 41, 3) := by decide +kernel
theorem dX1_sumToPlaces_30 : decode cX1_sumToPlaces 30 = .ok (.if_icmp .ge 57, 3) := by decide +kernel
theorem dX1_sumToPlaces_33 : decode cX1_sumToPlaces 33 = .ok (.iload 5, 2) := by decide +kernel
theorem dX1_sumToPlaces_35 : decode cX1_sumToPlaces 35 = .ok (.aload_n 0, 1) := by decide +kernel
theorem dX1_sumToPlaces_36 : decode cX1_sumToPlaces 36 = .ok (.getfield 37, 3) := by decide +kernel
theorem dX1_sumToPlaces_39 : decode cX1_sumToPlaces 39 = .ok (.aload_n 0, 1) := by decide +kernel
theorem dX1_sumToPlaces_40 : decode cX1_sumToPlaces 40 = .ok (.getfield 37, 3) := by decide +kernel
theorem dX1_sumToPlaces_43 : decode cX1_sumToPlaces 43 = .ok (.getfield 88, 3) := by decide +kernel
theorem dX1_sumToPlaces_46 : decode cX1_sumToPlaces 46 = .ok (.iload 4, 2) := by decide +kernel
theorem dX1_sumToPlaces_48 : decode cX1_sumToPlaces 48 = .ok (.iaload, 1) := by decide +kernel
theorem dX1_sumToPlaces_49 : decode cX1_sumToPlaces 49 = .ok (.iload_n 1, 1) := by decide +kernel
theorem dX1_sumToPlaces_50 : decode cX1_sumToPlaces 50 = .ok (.isub, 1) := by decide +kernel
theorem dX1_sumToPlaces_51 : decode cX1_sumToPlaces 51 = .ok (.iload 6, 2) := by decide +kernel
theorem dX1_sumToPlaces_53 : decode cX1_sumToPlaces 53 = .ok (.invokestatic 121, 3) := by decide +kernel
theorem dX1_sumToPlaces_56 : decode cX1_sumToPlaces 56 = .ok (.isub, 1) := by decide +kernel
theorem dX1_sumToPlaces_57 : decode cX1_sumToPlaces 57 = .ok (.aload_n 0, 1) := by decide +kernel
theorem dX1_sumToPlaces_58 : decode cX1_sumToPlaces 58 = .ok (.getfield 37, 3) := by decide +kernel
theorem dX1_sumToPlaces_61 : decode cX1_sumToPlaces 61 = .ok (.getfield 91, 3) := by decide +kernel
theorem dX1_sumToPlaces_64 : decode cX1_sumToPlaces 64 = .ok (.iload 4, 2) := by decide +kernel
theorem dX1_sumToPlaces_66 : decode cX1_sumToPlaces 66 = .ok (.iaload, 1) := by decide +kernel
theorem dX1_sumToPlaces_67 : decode cX1_sumToPlaces 67 = .ok (.iload_n 2, 1) := by decide +kernel
theorem dX1_sumToPlaces_68 : decode cX1_sumToPlaces 68 = .ok (.isub, 1) := by decide +kernel
theorem dX1_sumToPlaces_69 : decode cX1_sumToPlaces 69 = .ok (.iload 6, 2) := by decide +kernel
theorem dX1_sumToPlaces_71 : decode cX1_sumToPlaces 71 = .ok (.invokestatic 124, 3) := by decide +kernel
theorem dX1_sumToPlaces_74 : decode cX1_sumToPlaces 74 = .ok (.isub, 1) := by decide +kernel
theorem dX1_sumToPlaces_75 : decode cX1_sumToPlaces 75 = .ok (.invokevirtual 118, 3) := by decide +kernel
theorem dX1_sumToPlaces_78 : decode cX1_sumToPlaces 78 = .ok (.iadd, 1) := by decide +kernel
theorem dX1_sumToPlaces_79 : decode cX1_sumToPlaces 79 = .ok (.istore 5, 2) := by decide +kernel
theorem dX1_sumToPlaces_81 : decode cX1_sumToPlaces 81 = .ok (.iinc 6 1, 3) := by decide +kernel
theorem dX1_sumToPlaces_84 : decode cX1_sumToPlaces 84 = .ok (.goto (-60), 3) := by decide +kernel
theorem dX1_sumToPlaces_87 : decode cX1_sumToPlaces 87 = .ok (.aload_n 0, 1) := by decide +kernel
theorem dX1_sumToPlaces_88 : decode cX1_sumToPlaces 88 = .ok (.getfield 28, 3) := by decide +kernel
theorem dX1_sumToPlaces_91 : decode cX1_sumToPlaces 91 = .ok (.iload_n 3, 1) := by decide +kernel
theorem dX1_sumToPlaces_92 : decode cX1_sumToPlaces 92 = .ok (.iload 5, 2) := by decide +kernel
theorem dX1_sumToPlaces_94 : decode cX1_sumToPlaces 94 = .ok (.iastore, 1) := by decide +kernel
theorem dX1_sumToPlaces_95 : decode cX1_sumToPlaces 95 = .ok (.iinc 3 1, 3) := by decide +kernel
theorem dX1_sumToPlaces_98 : decode cX1_sumToPlaces 98 = .ok (.goto (-96), 3) := by decide +kernel
theorem dX1_sumToPlaces_101 : decode cX1_sumToPlaces 101 = .ok (.return_, 1) := by decide +kernel
theorem dX1_sumWithinPlaces_0 : decode cX1_sumWithinPlaces 0 = .ok (.aload_n 0, 1) := by decide +kernel
theorem dX1_sumWithinPlaces_1 : decode cX1_sumWithinPlaces 1 = .ok (.iconst 0, 1) := by decide +kernel
theorem dX1_sumWithinPlaces_2 : decode cX1_sumWithinPlaces 2 = .ok (.putfield 127, 3) := by decide +kernel
theorem dX1_sumWithinPlaces_5 : decode cX1_sumWithinPlaces 5 = .ok (.iconst 0, 1) := by decide +kernel
theorem dX1_sumWithinPlaces_6 : decode cX1_sumWithinPlaces 6 = .ok (.istore_n 1, 1) := by decide +kernel
theorem dX1_sumWithinPlaces_7 : decode cX1_sumWithinPlaces 7 = .ok (.iload_n 1, 1) := by decide +kernel
theorem dX1_sumWithinPlaces_8 : decode cX1_sumWithinPlaces 8 = .ok (.aload_n 0, 1) := by decide +kernel
theorem dX1_sumWithinPlaces_9 : decode cX1_sumWithinPlaces 9 = .ok (.getfield 41, 3) := by decide +kernel
theorem dX1_sumWithinPlaces_12 : decode cX1_sumWithinPlaces 12 = .ok (.if_icmp .ge 59, 3) := by decide +kernel
theorem dX1_sumWithinPlaces_15 : decode cX1_sumWithinPlaces 15 = .ok (.iconst 0, 1) := by decide +kernel
theorem dX1_sumWithinPlaces_16 : decode cX1_sumWithinPlaces 16 = .ok (.istore_n 2, 1) := by decide +kernel
theorem dX1_sumWithinPlaces_17 : decode cX1_sumWithinPlaces 17 = .ok (.iload_n 2, 1) := by decide +kernel
theorem dX1_sumWithinPlaces_18 : decode cX1_sumWithinPlaces 18 = .ok (.aload_n 0, 1) := by decide +kernel
theorem dX1_sumWithinPlaces_19 : decode cX1_sumWithinPlaces 19 = .ok (.getfield 41, 3) := by decide +kernel
theorem dX1_sumWithinPlaces_22 : decode cX1_sumWithinPlaces 22 = .ok (.if_icmp .ge 43, 3) := by decide +kernel
theorem dX1_sumWithinPlaces_25 : decode cX1_sumWithinPlaces 25 = .ok (.aload_n 0, 1) := by decide +kernel
theorem dX1_sumWithinPlaces_26 : decode cX1_sumWithinPlaces 26 = .ok (.dup, 1) := by decide +kernel
theorem dX1_sumWithinPlaces_27 : decode cX1_sumWithinPlaces 27 = .ok (.getfield 127, 3) := by decide +kernel
theorem dX1_sumWithinPlaces_30 : decode cX1_sumWithinPlaces 30 = .ok (.aload_n 0, 1) := by decide +kernel
theorem dX1_sumWithinPlaces_31 : decode cX1_sumWithinPlaces 31 = .ok (.getfield 37, 3) := by decide +kernel
theorem dX1_sumWithinPlaces_34 : decode cX1_sumWithinPlaces 34 = .ok (.iload_n 1, 1) := by decide +kernel
theorem dX1_sumWithinPlaces_35 : decode cX1_sumWithinPlaces 35 = .ok (.invokestatic 121, 3) := by decide +kernel
theorem dX1_sumWithinPlaces_38 : decode cX1_sumWithinPlaces 38 = .ok (.iload_n 2, 1) := by decide +kernel
theorem dX1_sumWithinPlaces_39 : decode cX1_sumWithinPlaces 39 = .ok (.invokestatic 121, 3) := by decide +kernel
theorem dX1_sumWithinPlaces_42 : decode cX1_sumWithinPlaces 42 = .ok (.isub, 1) := by decide +kernel
theorem dX1_sumWithinPlaces_43 : decode cX1_sumWithinPlaces 43 = .ok (.iload_n 1, 1) := by decide +kernel
theorem dX1_sumWithinPlaces_44 : decode cX1_sumWithinPlaces 44 = .ok (.invokestatic 124, 3) := by decide +kernel
theorem dX1_sumWithinPlaces_47 : decode cX1_sumWithinPlaces 47 = .ok (.iload_n 2, 1) := by decide +kernel
theorem dX1_sumWithinPlaces_48 : decode cX1_sumWithinPlaces 48 = .ok (.invokestatic 124, 3) := by decide +kernel
theorem dX1_sumWithinPlaces_51 : decode cX1_sumWithinPlaces 51 = .ok (.isub, 1) := by decide +kernel
theorem dX1_sumWithinPlaces_52 : decode cX1_sumWithinPlaces 52 = .ok (.invokevirtual 118, 3) := by decide +kernel
theorem dX1_sumWithinPlaces_55 : decode cX1_sumWithinPlaces 55 = .ok (.iadd, 1) := by decide +kernel
theorem dX1_sumWithinPlaces_56 : decode cX1_sumWithinPlaces 56 = .ok (.putfield 127, 3) := by decide +kernel
theorem dX1_sumWithinPlaces_59 : decode cX1_sumWithinPlaces 59 = .ok (.iinc 2 1, 3) := by decide +kernel
theorem dX1_sumWithinPlaces_62 : decode cX1_sumWithinPlaces 62 = .ok (.goto (-45), 3) := by decide +kernel
theorem dX1_sumWithinPlaces_65 : decode cX1_sumWithinPlaces 65 = .ok (.iinc 1 1, 3) := by decide +kernel
theorem dX1_sumWithinPlaces_68 : decode cX1_sumWithinPlaces 68 = .ok (.goto (-61), 3) := by decide +kernel
theorem dX1_sumWithinPlaces_71 : decode cX1_sumWithinPlaces 71 = .ok (.return_, 1) := by decide +kernel
theorem dX1_alongX_0 : decode cX1_alongX 0 = .ok (.iload_n 0, 1) := by decide +kernel
theorem dX1_alongX_1 : decode cX1_alongX 1 = .ok (.iconst 1, 1) := by decide +kernel
theorem dX1_alongX_2 : decode cX1_alongX 2 = .ok (.iand, 1) := by decide +kernel
theorem dX1_alongX_3 : decode cX1_alongX 3 = .ok (.ireturn, 1) := by decide +kernel
theorem dX1_alongY_0 : decode cX1_alongY 0 = .ok (.iload_n 0, 1) := by decide +kernel
theorem dX1_alongY_1 : decode cX1_alongY 1 = .ok (.iconst 1, 1) := by decide +kernel
theorem dX1_alongY_2 : decode cX1_alongY 2 = .ok (.ishr, 1) := by decide +kernel
theorem dX1_alongY_3 : decode cX1_alongY 3 = .ok (.ireturn, 1) := by decide +kernel
theorem dX1_fillTable_0 : decode cX1_fillTable 0 = .ok (.iconst 0, 1) := by decide +kernel
theorem dX1_fillTable_1 : decode cX1_fillTable 1 = .ok (.istore_n 1, 1) := by decide +kernel
theorem dX1_fillTable_2 : decode cX1_fillTable 2 = .ok (.iload_n 1, 1) := by decide +kernel
theorem dX1_fillTable_3 : decode cX1_fillTable 3 = .ok (.iconst 3, 1) := by decide +kernel
theorem dX1_fillTable_4 : decode cX1_fillTable 4 = .ok (.if_icmp .ge 162, 3) := by decide +kernel
theorem dX1_fillTable_7 : decode cX1_fillTable 7 = .ok (.iload_n 1, 1) := by decide +kernel
theorem dX1_fillTable_8 : decode cX1_fillTable 8 = .ok (.iconst 1, 1) := by decide +kernel
theorem dX1_fillTable_9 : decode cX1_fillTable 9 = .ok (.iadd, 1) := by decide +kernel
theorem dX1_fillTable_10 : decode cX1_fillTable 10 = .ok (.aload_n 0, 1) := by decide +kernel
theorem dX1_fillTable_11 : decode cX1_fillTable 11 = .ok (.getfield 49, 3) := by decide +kernel
theorem dX1_fillTable_14 : decode cX1_fillTable 14 = .ok (.if_icmp .ge 7, 3) := by decide +kernel
theorem dX1_fillTable_17 : decode cX1_fillTable 17 = .ok (.iconst 1, 1) := by decide +kernel
theorem dX1_fillTable_18 : decode cX1_fillTable 18 = .ok (.goto 4, 3) := by decide +kernel
theorem dX1_fillTable_21 : decode cX1_fillTable 21 = .ok (.iconst 0, 1) := by decide +kernel
theorem dX1_fillTable_22 : decode cX1_fillTable 22 = .ok (.istore_n 2, 1) := by decide +kernel
theorem dX1_fillTable_23 : decode cX1_fillTable 23 = .ok (.aload_n 0, 1) := by decide +kernel
theorem dX1_fillTable_24 : decode cX1_fillTable 24 = .ok (.getfield 34, 3) := by decide +kernel
theorem dX1_fillTable_27 : decode cX1_fillTable 27 = .ok (.iload_n 1, 1) := by decide +kernel
theorem dX1_fillTable_28 : decode cX1_fillTable 28 = .ok (.iload_n 2, 1) := by decide +kernel
theorem dX1_fillTable_29 : decode cX1_fillTable 29 = .ok (.ifCond .eq 36, 3) := by decide +kernel
theorem dX1_fillTable_32 : decode cX1_fillTable 32 = .ok (.aload_n 0, 1) := by decide +kernel
theorem dX1_fillTable_33 : decode cX1_fillTable 33 = .ok (.getfield 28, 3) := by decide +kernel
theorem dX1_fillTable_36 : decode cX1_fillTable 36 = .ok (.iconst 0, 1) := by decide +kernel
theorem dX1_fillTable_37 : decode cX1_fillTable 37 = .ok (.iaload, 1) := by decide +kernel
theorem dX1_fillTable_38 : decode cX1_fillTable 38 = .ok (.aload_n 0, 1) := by decide +kernel
theorem dX1_fillTable_39 : decode cX1_fillTable 39 = .ok (.getfield 41, 3) := by decide +kernel
theorem dX1_fillTable_42 : decode cX1_fillTable 42 = .ok (.aload_n 0, 1) := by decide +kernel
theorem dX1_fillTable_43 : decode cX1_fillTable 43 = .ok (.getfield 25, 3) := by decide +kernel
theorem dX1_fillTable_46 : decode cX1_fillTable 46 = .ok (.iload_n 1, 1) := by decide +kernel
theorem dX1_fillTable_47 : decode cX1_fillTable 47 = .ok (.iconst 1, 1) := by decide +kernel
theorem dX1_fillTable_48 : decode cX1_fillTable 48 = .ok (.iadd, 1) := by decide +kernel
theorem dX1_fillTable_49 : decode cX1_fillTable 49 = .ok (.iaload, 1) := by decide +kernel
theorem dX1_fillTable_50 : decode cX1_fillTable 50 = .ok (.imul, 1) := by decide +kernel
theorem dX1_fillTable_51 : decode cX1_fillTable 51 = .ok (.iadd, 1) := by decide +kernel
theorem dX1_fillTable_52 : decode cX1_fillTable 52 = .ok (.aload_n 0, 1) := by decide +kernel
theorem dX1_fillTable_53 : decode cX1_fillTable 53 = .ok (.getfield 28, 3) := by decide +kernel
theorem dX1_fillTable_56 : decode cX1_fillTable 56 = .ok (.iload_n 1, 1) := by decide +kernel
theorem dX1_fillTable_57 : decode cX1_fillTable 57 = .ok (.iconst 1, 1) := by decide +kernel
theorem dX1_fillTable_58 : decode cX1_fillTable 58 = .ok (.iadd, 1) := by decide +kernel
theorem dX1_fillTable_59 : decode cX1_fillTable 59 = .ok (.iaload, 1) := by decide +kernel
theorem dX1_fillTable_60 : decode cX1_fillTable 60 = .ok (.isub, 1) := by decide +kernel
theorem dX1_fillTable_61 : decode cX1_fillTable 61 = .ok (.i2l, 1) := by decide +kernel
theorem dX1_fillTable_62 : decode cX1_fillTable 62 = .ok (.goto 4, 3) := by decide +kernel
theorem dX1_fillTable_65 : decode cX1_fillTable 65 = .ok (.lconst 0, 1) := by decide +kernel
theorem dX1_fillTable_66 : decode cX1_fillTable 66 = .ok (.lastore, 1) := by decide +kernel
theorem dX1_fillTable_67 : decode cX1_fillTable 67 = .ok (.iconst 0, 1) := by decide +kernel
theorem dX1_fillTable_68 : decode cX1_fillTable 68 = .ok (.istore_n 3, 1) := by decide +kernel
theorem dX1_fillTable_69 : decode cX1_fillTable 69 = .ok (.iload_n 3, 1) := by decide +kernel
theorem dX1_fillTable_70 : decode cX1_fillTable 70 = .ok (.iconst 3, 1) := by decide +kernel
theorem dX1_fillTable_71 : decode cX1_fillTable 71 = .ok (.if_icmp .ge 89, 3) := by decide +kernel
theorem dX1_fillTable_74 : decode cX1_fillTable 74 = .ok (.iload_n 2, 1) := by decide +kernel
theorem dX1_fillTable_75 : decode cX1_fillTable 75 = .ok (.ifCond .eq 59, 3) := by decide +kernel
theorem dX1_fillTable_78 : decode cX1_fillTable 78 = .ok (.iload_n 3, 1) := by decide +kernel
theorem dX1_fillTable_79 : decode cX1_fillTable 79 = .ok (.iconst 1, 1) := by decide +kernel
theorem dX1_fillTable_80 : decode cX1_fillTable 80 = .ok (.iadd, 1) := by decide +kernel
theorem dX1_fillTable_81 : decode cX1_fillTable 81 = .ok (.aload_n 0, 1) := by decide +kernel
theorem dX1_fillTable_82 : decode cX1_fillTable 82 = .ok (.getfield 49, 3) := by decide +kernel
theorem dX1_fillTable_85 : decode cX1_fillTable 85 = .ok (.if_icmp .ge 49, 3) := by decide +kernel
theorem dX1_fillTable_88 : decode cX1_fillTable 88 = .ok (.aload_n 0, 1) := by decide +kernel
theorem dX1_fillTable_89 : decode cX1_fillTable 89 = .ok (.getfield 31, 3) := by decide +kernel
theorem dX1_fillTable_92 : decode cX1_fillTable 92 = .ok (.iload_n 1, 1) := by decide +kernel
theorem dX1_fillTable_93 : decode cX1_fillTable 93 = .ok (.iconst 3, 1) := by decide +kernel
theorem dX1_fillTable_94 : decode cX1_fillTable 94 = .ok (.imul, 1) := by decide +kernel
theorem dX1_fillTable_95 : decode cX1_fillTable 95 = .ok (.iload_n 3, 1) := by decide +kernel
theorem dX1_fillTable_96 : decode cX1_fillTable 96 = .ok (.iadd, 1) := by decide +kernel
theorem dX1_fillTable_97 : decode cX1_fillTable 97 = .ok (.aload_n 0, 1) := by decide +kernel
theorem dX1_fillTable_98 : decode cX1_fillTable 98 = .ok (.getfield 25, 3) := by decide +kernel
theorem dX1_fillTable_101 : decode cX1_fillTable 101 = .ok (.iload_n 1, 1) := by decide +kernel
theorem dX1_fillTable_102 : decode cX1_fillTable 102 = .ok (.iconst 1, 1) := by decide +kernel
theorem dX1_fillTable_103 : decode cX1_fillTable 103 = .ok (.iadd, 1) := by decide +kernel
theorem dX1_fillTable_104 : decode cX1_fillTable 104 = .ok (.iaload, 1) := by decide +kernel
theorem dX1_fillTable_105 : decode cX1_fillTable 105 = .ok (.aload_n 0, 1) := by decide +kernel
theorem dX1_fillTable_106 : decode cX1_fillTable 106 = .ok (.getfield 25, 3) := by decide +kernel
theorem dX1_fillTable_109 : decode cX1_fillTable 109 = .ok (.iload_n 3, 1) := by decide +kernel
theorem dX1_fillTable_110 : decode cX1_fillTable 110 = .ok (.iconst 1, 1) := by decide +kernel
theorem dX1_fillTable_111 : decode cX1_fillTable 111 = .ok (.iadd, 1) := by decide +kernel
theorem dX1_fillTable_112 : decode cX1_fillTable 112 = .ok (.iaload, 1) := by decide +kernel
theorem dX1_fillTable_113 : decode cX1_fillTable 113 = .ok (.iadd, 1) := by decide +kernel
theorem dX1_fillTable_114 : decode cX1_fillTable 114 = .ok (.aload_n 0, 1) := by decide +kernel
theorem dX1_fillTable_115 : decode cX1_fillTable 115 = .ok (.getfield 25, 3) := by decide +kernel
theorem dX1_fillTable_118 : decode cX1_fillTable 118 = .ok (.iload_n 1, 1) := by decide +kernel
theorem dX1_fillTable_119 : decode cX1_fillTable 119 = .ok (.iconst 1, 1) := by decide +kernel
theorem dX1_fillTable_120 : decode cX1_fillTable 120 = .ok (.iadd, 1) := by decide +kernel
theorem dX1_fillTable_121 : decode cX1_fillTable 121 = .ok (.iconst 4, 1) := by decide +kernel
theorem dX1_fillTable_122 : decode cX1_fillTable 122 = .ok (.imul, 1) := by decide +kernel
theorem dX1_fillTable_123 : decode cX1_fillTable 123 = .ok (.iload_n 3, 1) := by decide +kernel
theorem dX1_fillTable_124 : decode cX1_fillTable 124 = .ok (.iadd, 1) := by decide +kernel
theorem dX1_fillTable_125 : decode cX1_fillTable 125 = .ok (.iconst 1, 1) := by decide +kernel
theorem dX1_fillTable_126 : decode cX1_fillTable 126 = .ok (.iadd, 1) := by decide +kernel
theorem dX1_fillTable_127 : decode cX1_fillTable 127 = .ok (.iaload, 1) := by decide +kernel
theorem dX1_fillTable_128 : decode cX1_fillTable 128 = .ok (.isub, 1) := by decide +kernel
theorem dX1_fillTable_129 : decode cX1_fillTable 129 = .ok (.i2l, 1) := by decide +kernel
theorem dX1_fillTable_130 : decode cX1_fillTable 130 = .ok (.lastore, 1) := by decide +kernel
theorem dX1_fillTable_131 : decode cX1_fillTable 131 = .ok (.goto 23, 3) := by decide +kernel
theorem dX1_fillTable_134 : decode cX1_fillTable 134 = .ok (.aload_n 0, 1) := by decide +kernel
theorem dX1_fillTable_135 : decode cX1_fillTable 135 = .ok (.getfield 31, 3) := by decide +kernel
theorem dX1_fillTable_138 : decode cX1_fillTable 138 = .ok (.iload_n 1, 1) := by decide +kernel
theorem dX1_fillTable_139 : decode cX1_fillTable 139 = .ok (.iconst 3, 1) := by decide +kernel
theorem dX1_fillTable_140 : decode cX1_fillTable 140 = .ok (.imul, 1) := by decide +kernel
theorem dX1_fillTable_141 : decode cX1_fillTable 141 = .ok (.iload_n 3, 1) := by decide +kernel
theorem dX1_fillTable_142 : decode cX1_fillTable 142 = .ok (.iadd, 1) := by decide +kernel
theorem dX1_fillTable_143 : decode cX1_fillTable 143 = .ok (.iload_n 1, 1) := by decide +kernel
theorem dX1_fillTable_144 : decode cX1_fillTable 144 = .ok (.iload_n 3, 1) := by decide +kernel
theorem dX1_fillTable_145 : decode cX1_fillTable 145 = .ok (.if_icmp .ne 7, 3) := by decide +kernel
theorem dX1_fillTable_148 : decode cX1_fillTable 148 = .ok (.lconst 1, 1) := by decide +kernel
theorem dX1_fillTable_149 : decode cX1_fillTable 149 = .ok (.goto 4, 3) := by decide +kernel
theorem dX1_fillTable_152 : decode cX1_fillTable 152 = .ok (.lconst 0, 1) := by decide +kernel
theorem dX1_fillTable_153 : decode cX1_fillTable 153 = .ok (.lastore, 1) := by decide +kernel
theorem dX1_fillTable_154 : decode cX1_fillTable 154 = .ok (.iinc 3 1, 3) := by decide +kernel
theorem dX1_fillTable_157 : decode cX1_fillTable 157 = .ok (.goto (-88), 3) := by decide +kernel
theorem dX1_fillTable_160 : decode cX1_fillTable 160 = .ok (.iinc 1 1, 3) := by decide +kernel
theorem dX1_fillTable_163 : decode cX1_fillTable 163 = .ok (.goto (-161), 3) := by decide +kernel
theorem dX1_fillTable_166 : decode cX1_fillTable 166 = .ok (.return_, 1) := by decide +kernel
theorem dX1_cofactor_0 : decode cX1_cofactor 0 = .ok (.iload_n 1, 1) := by decide +kernel
theorem dX1_cofactor_1 : decode cX1_cofactor 1 = .ok (.ifCond .ne 7, 3) := by decide +kernel
theorem dX1_cofactor_4 : decode cX1_cofactor 4 = .ok (.iconst 1, 1) := by decide +kernel
theorem dX1_cofactor_5 : decode cX1_cofactor 5 = .ok (.goto 4, 3) := by decide +kernel
theorem dX1_cofactor_8 : decode cX1_cofactor 8 = .ok (.iconst 0, 1) := by decide +kernel
theorem dX1_cofactor_9 : decode cX1_cofactor 9 = .ok (.iconst 3, 1) := by decide +kernel
theorem dX1_cofactor_10 : decode cX1_cofactor 10 = .ok (.imul, 1) := by decide +kernel
theorem dX1_cofactor_11 : decode cX1_cofactor 11 = .ok (.istore_n 3, 1) := by decide +kernel
theorem dX1_cofactor_12 : decode cX1_cofactor 12 = .ok (.iload_n 1, 1) := by decide +kernel
theorem dX1_cofactor_13 : decode cX1_cofactor 13 = .ok (.iconst 2, 1) := by decide +kernel
theorem dX1_cofactor_14 : decode cX1_cofactor 14 = .ok (.if_icmp .ne 7, 3) := by decide +kernel
theorem dX1_cofactor_17 : decode cX1_cofactor 17 = .ok (.iconst 1, 1) := by decide +kernel
theorem dX1_cofactor_18 : decode cX1_cofactor 18 = .ok (.goto 4, 3) := by decide +kernel
theorem dX1_cofactor_21 : decode cX1_cofactor 21 = .ok (.iconst 2, 1) := by decide +kernel
theorem dX1_cofactor_22 : decode cX1_cofactor 22 = .ok (.iconst 3, 1) := by decide +kernel
theorem dX1_cofactor_23 : decode cX1_cofactor 23 = .ok (.imul, 1) := by decide +kernel
theorem dX1_cofactor_24 : decode cX1_cofactor 24 = .ok (.istore 4, 2) := by decide +kernel
theorem dX1_cofactor_26 : decode cX1_cofactor 26 = .ok (.iload_n 2, 1) := by decide +kernel
theorem dX1_cofactor_27 : decode cX1_cofactor 27 = .ok (.ifCond .ne 7, 3) := by decide +kernel
theorem dX1_cofactor_30 : decode cX1_cofactor 30 = .ok (.iconst 1, 1) := by decide +kernel
theorem dX1_cofactor_31 : decode cX1_cofactor 31 = .ok (.goto 4, 3) := by decide +kernel
theorem dX1_cofactor_34 : decode cX1_cofactor 34 = .ok (.iconst 0, 1) := by decide +kernel
theorem dX1_cofactor_35 : decode cX1_cofactor 35 = .ok (.istore 5, 2) := by decide +kernel
theorem dX1_cofactor_37 : decode cX1_cofactor 37 = .ok (.iload_n 2, 1) := by decide +kernel
theorem dX1_cofactor_38 : decode cX1_cofactor 38 = .ok (.iconst 2, 1) := by decide +kernel
theorem dX1_cofactor_39 : decode cX1_cofactor 39 = .ok (.if_icmp .ne 7, 3) := by decide +kernel
theorem dX1_cofactor_42 : decode cX1_cofactor 42 = .ok (.iconst 1, 1) := by decide +kernel
theorem dX1_cofactor_43 : decode cX1_cofactor 43 = .ok (.goto 4, 3) := by decide +kernel
theorem dX1_cofactor_46 : decode cX1_cofactor 46 = .ok (.iconst 2, 1) := by decide +kernel
theorem dX1_cofactor_47 : decode cX1_cofactor 47 = .ok (.istore 6, 2) := by decide +kernel
theorem dX1_cofactor_49 : decode cX1_cofactor 49 = .ok (.aload_n 0, 1) := by decide +kernel
theorem dX1_cofactor_50 : decode cX1_cofactor 50 = .ok (.getfield 31, 3) := by decide +kernel
theorem dX1_cofactor_53 : decode cX1_cofactor 53 = .ok (.iload_n 3, 1) := by decide +kernel
theorem dX1_cofactor_54 : decode cX1_cofactor 54 = .ok (.iload 5, 2) := by decide +kernel
theorem dX1_cofactor_56 : decode cX1_cofactor 56 = .ok (.iadd, 1) := by decide +kernel
theorem dX1_cofactor_57 : decode cX1_cofactor 57 = .ok (.laload, 1) := by decide +kernel
theorem dX1_cofactor_58 : decode cX1_cofactor 58 = .ok (.aload_n 0, 1) := by decide +kernel
theorem dX1_cofactor_59 : decode cX1_cofactor 59 = .ok (.getfield 31, 3) := by decide +kernel
theorem dX1_cofactor_62 : decode cX1_cofactor 62 = .ok (.iload 4, 2) := by decide +kernel
theorem dX1_cofactor_64 : decode cX1_cofactor 64 = .ok (.iload 6, 2) := by decide +kernel
theorem dX1_cofactor_66 : decode cX1_cofactor 66 = .ok (.iadd, 1) := by decide +kernel
theorem dX1_cofactor_67 : decode cX1_cofactor 67 = .ok (.laload, 1) := by decide +kernel
theorem dX1_cofactor_68 : decode cX1_cofactor 68 = .ok (.lmul, 1) := by decide +kernel
theorem dX1_cofactor_69 : decode cX1_cofactor 69 = .ok (.aload_n 0, 1) := by decide +kernel
theorem dX1_cofactor_70 : decode cX1_cofactor 70 = .ok (.getfield 31, 3) := by decide +kernel
theorem dX1_cofactor_73 : decode cX1_cofactor 73 = .ok (.iload_n 3, 1) := by decide +kernel
theorem dX1_cofactor_74 : decode cX1_cofactor 74 = .ok (.iload 6, 2) := by decide +kernel
theorem dX1_cofactor_76 : decode cX1_cofactor 76 = .ok (.iadd, 1) := by decide +kernel
theorem dX1_cofactor_77 : decode cX1_cofactor 77 = .ok (.laload, 1) := by decide +kernel
theorem dX1_cofactor_78 : decode cX1_cofactor 78 = .ok (.aload_n 0, 1) := by decide +kernel
theorem dX1_cofactor_79 : decode cX1_cofactor 79 = .ok (.getfield 31, 3) := by decide +kernel
theorem dX1_cofactor_82 : decode cX1_cofactor 82 = .ok (.iload 4, 2) := by decide +kernel
theorem dX1_cofactor_84 : decode cX1_cofactor 84 = .ok (.iload 5, 2) := by decide +kernel
theorem dX1_cofactor_86 : decode cX1_cofactor 86 = .ok (.iadd, 1) := by decide +kernel
theorem dX1_cofactor_87 : decode cX1_cofactor 87 = .ok (.laload, 1) := by decide +kernel
theorem dX1_cofactor_88 : decode cX1_cofactor 88 = .ok (.lmul, 1) := by decide +kernel
theorem dX1_cofactor_89 : decode cX1_cofactor 89 = .ok (.lsub, 1) := by decide +kernel
theorem dX1_cofactor_90 : decode cX1_cofactor 90 = .ok (.lstore 7, 2) := by decide +kernel
theorem dX1_cofactor_92 : decode cX1_cofactor 92 = .ok (.iload_n 1, 1) := by decide +kernel
theorem dX1_cofactor_93 : decode cX1_cofactor 93 = .ok (.iload_n 2, 1) := by decide +kernel
theorem dX1_cofactor_94 : decode cX1_cofactor 94 = .ok (.iadd, 1) := by decide +kernel
theorem dX1_cofactor_95 : decode cX1_cofactor 95 = .ok (.iconst 1, 1) := by decide +kernel
theorem dX1_cofactor_96 : decode cX1_cofactor 96 = .ok (.iand, 1) := by decide +kernel
theorem dX1_cofactor_97 : decode cX1_cofactor 97 = .ok (.ifCond .ne 8, 3) := by decide +kernel
theorem dX1_cofactor_100 : decode cX1_cofactor 100 = .ok (.lload 7, 2) := by decide +kernel
theorem dX1_cofactor_102 : decode cX1_cofactor 102 = .ok (.goto 6, 3) := by decide +kernel
theorem dX1_cofactor_105 : decode cX1_cofactor 105 = .ok (.lload 7, 2) := by decide +kernel
theorem dX1_cofactor_107 : decode cX1_cofactor 107 = .ok (.lneg, 1) := by decide +kernel
theorem dX1_cofactor_108 : decode cX1_cofactor 108 = .ok (.lreturn, 1) := by decide +kernel
theorem dX1_share_0 : decode cX1_share 0 = .ok (.aload_n 0, 1) := by decide +kernel
theorem dX1_share_1 : decode cX1_share 1 = .ok (.getfield 15, 3) := by decide +kernel
theorem dX1_share_4 : decode cX1_share 4 = .ok (.iconst 0, 1) := by decide +kernel
theorem dX1_share_5 : decode cX1_share 5 = .ok (.aload_n 0, 1) := by decide +kernel
theorem dX1_share_6 : decode cX1_share 6 = .ok (.getfield 41, 3) := by decide +kernel
theorem dX1_share_9 : decode cX1_share 9 = .ok (.i2l, 1) := by decide +kernel
theorem dX1_share_10 : decode cX1_share 10 = .ok (.aload_n 0, 1) := by decide +kernel
theorem dX1_share_11 : decode cX1_share 11 = .ok (.getfield 52, 3) := by decide +kernel
theorem dX1_share_14 : decode cX1_share 14 = .ok (.lmul, 1) := by decide +kernel
theorem dX1_share_15 : decode cX1_share 15 = .ok (.lastore, 1) := by decide +kernel
theorem dX1_share_16 : decode cX1_share 16 = .ok (.iconst 0, 1) := by decide +kernel
theorem dX1_share_17 : decode cX1_share 17 = .ok (.istore_n 1, 1) := by decide +kernel
theorem dX1_share_18 : decode cX1_share 18 = .ok (.iload_n 1, 1) := by decide +kernel
theorem dX1_share_19 : decode cX1_share 19 = .ok (.iconst 3, 1) := by decide +kernel
theorem dX1_share_20 : decode cX1_share 20 = .ok (.if_icmp .ge 70, 3) := by decide +kernel
theorem dX1_share_23 : decode cX1_share 23 = .ok (.aload_n 0, 1) := by decide +kernel
theorem dX1_share_24 : decode cX1_share 24 = .ok (.getfield 34, 3) := by decide +kernel
theorem dX1_share_27 : decode cX1_share 27 = .ok (.iconst 0, 1) := by decide +kernel
theorem dX1_share_28 : decode cX1_share 28 = .ok (.laload, 1) := by decide +kernel
theorem dX1_share_29 : decode cX1_share 29 = .ok (.aload_n 0, 1) := by decide +kernel
theorem dX1_share_30 : decode cX1_share 30 = .ok (.iconst 0, 1) := by decide +kernel
theorem dX1_share_31 : decode cX1_share 31 = .ok (.iload_n 1, 1) := by decide +kernel
theorem dX1_share_32 : decode cX1_share 32 = .ok (.invokevirtual 73, 3) := by decide +kernel
theorem dX1_share_35 : decode cX1_share 35 = .ok (.lmul, 1) := by decide +kernel
theorem dX1_share_36 : decode cX1_share 36 = .ok (.aload_n 0, 1) := by decide +kernel
theorem dX1_share_37 : decode cX1_share 37 = .ok (.getfield 34, 3) := by decide +kernel
theorem dX1_share_40 : decode cX1_share 40 = .ok (.iconst 1, 1) := by decide +kernel
theorem dX1_share_41 : decode cX1_share 41 = .ok (.laload, 1) := by decide +kernel
theorem dX1_share_42 : decode cX1_share 42 = .ok (.aload_n 0, 1) := by decide +kernel
theorem dX1_share_43 : decode cX1_share 43 = .ok (.iconst 1, 1) := by decide +kernel
theorem dX1_share_44 : decode cX1_share 44 = .ok (.iload_n 1, 1) := by decide +kernel
theorem dX1_share_45 : decode cX1_share 45 = .ok (.invokevirtual 73, 3) := by decide +kernel
theorem dX1_share_48 : decode cX1_share 48 = .ok (.lmul, 1) := by decide +kernel
theorem dX1_share_49 : decode cX1_share 49 = .ok (.ladd, 1) := by decide +kernel
theorem dX1_share_50 : decode cX1_share 50 = .ok (.aload_n 0, 1) := by decide +kernel
theorem dX1_share_51 : decode cX1_share 51 = .ok (.getfield 34, 3) := by decide +kernel
theorem dX1_share_54 : decode cX1_share 54 = .ok (.iconst 2, 1) := by decide +kernel
theorem dX1_share_55 : decode cX1_share 55 = .ok (.laload, 1) := by decide +kernel
theorem dX1_share_56 : decode cX1_share 56 = .ok (.aload_n 0, 1) := by decide +kernel
theorem dX1_share_57 : decode cX1_share 57 = .ok (.iconst 2, 1) := by decide +kernel
theorem dX1_share_58 : decode cX1_share 58 = .ok (.iload_n 1, 1) := by decide +kernel
theorem dX1_share_59 : decode cX1_share 59 = .ok (.invokevirtual 73, 3) := by decide +kernel
theorem dX1_share_62 : decode cX1_share 62 = .ok (.lmul, 1) := by decide +kernel
theorem dX1_share_63 : decode cX1_share 63 = .ok (.ladd, 1) := by decide +kernel
theorem dX1_share_64 : decode cX1_share 64 = .ok (.lstore_n 2, 1) := by decide +kernel
theorem dX1_share_65 : decode cX1_share 65 = .ok (.aload_n 0, 1) := by decide +kernel
theorem dX1_share_66 : decode cX1_share 66 = .ok (.getfield 15, 3) := by decide +kernel
theorem dX1_share_69 : decode cX1_share 69 = .ok (.iload_n 1, 1) := by decide +kernel
theorem dX1_share_70 : decode cX1_share 70 = .ok (.iconst 1, 1) := by decide +kernel
theorem dX1_share_71 : decode cX1_share 71 = .ok (.iadd, 1) := by decide +kernel
theorem dX1_share_72 : decode cX1_share 72 = .ok (.lload_n 2, 1) := by decide +kernel
theorem dX1_share_73 : decode cX1_share 73 = .ok (.lastore, 1) := by decide +kernel
theorem dX1_share_74 : decode cX1_share 74 = .ok (.aload_n 0, 1) := by decide +kernel
theorem dX1_share_75 : decode cX1_share 75 = .ok (.getfield 15, 3) := by decide +kernel
theorem dX1_share_78 : decode cX1_share 78 = .ok (.iconst 0, 1) := by decide +kernel
theorem dX1_share_79 : decode cX1_share 79 = .ok (.dup2, 1) := by decide +kernel
theorem dX1_share_80 : decode cX1_share 80 = .ok (.laload, 1) := by decide +kernel
theorem dX1_share_81 : decode cX1_share 81 = .ok (.lload_n 2, 1) := by decide +kernel
theorem dX1_share_82 : decode cX1_share 82 = .ok (.lsub, 1) := by decide +kernel
theorem dX1_share_83 : decode cX1_share 83 = .ok (.lastore, 1) := by decide +kernel
theorem dX1_share_84 : decode cX1_share 84 = .ok (.iinc 1 1, 3) := by decide +kernel
theorem dX1_share_87 : decode cX1_share 87 = .ok (.goto (-69), 3) := by decide +kernel
theorem dX1_share_90 : decode cX1_share 90 = .ok (.return_, 1) := by decide +kernel
theorem dX1_turnSigns_0 : decode cX1_turnSigns 0 = .ok (.aload_n 0, 1) := by decide +kernel
theorem dX1_turnSigns_1 : decode cX1_turnSigns 1 = .ok (.aload_n 0, 1) := by decide +kernel
theorem dX1_turnSigns_2 : decode cX1_turnSigns 2 = .ok (.getfield 52, 3) := by decide +kernel
theorem dX1_turnSigns_5 : decode cX1_turnSigns 5 = .ok (.lneg, 1) := by decide +kernel
theorem dX1_turnSigns_6 : decode cX1_turnSigns 6 = .ok (.putfield 52, 3) := by decide +kernel
theorem dX1_turnSigns_9 : decode cX1_turnSigns 9 = .ok (.iconst 0, 1) := by decide +kernel
theorem dX1_turnSigns_10 : decode cX1_turnSigns 10 = .ok (.istore_n 1, 1) := by decide +kernel
theorem dX1_turnSigns_11 : decode cX1_turnSigns 11 = .ok (.iload_n 1, 1) := by decide +kernel
theorem dX1_turnSigns_12 : decode cX1_turnSigns 12 = .ok (.iconst 4, 1) := by decide +kernel
theorem dX1_turnSigns_13 : decode cX1_turnSigns 13 = .ok (.if_icmp .ge 22, 3) := by decide +kernel
theorem dX1_turnSigns_16 : decode cX1_turnSigns 16 = .ok (.aload_n 0, 1) := by decide +kernel
theorem dX1_turnSigns_17 : decode cX1_turnSigns 17 = .ok (.getfield 15, 3) := by decide +kernel
theorem dX1_turnSigns_20 : decode cX1_turnSigns 20 = .ok (.iload_n 1, 1) := by decide +kernel
theorem dX1_turnSigns_21 : decode cX1_turnSigns 21 = .ok (.aload_n 0, 1) := by decide +kernel
theorem dX1_turnSigns_22 : decode cX1_turnSigns 22 = .ok (.getfield 15, 3) := by decide +kernel
theorem dX1_turnSigns_25 : decode cX1_turnSigns 25 = .ok (.iload_n 1, 1) := by decide +kernel
theorem dX1_turnSigns_26 : decode cX1_turnSigns 26 = .ok (.laload, 1) := by decide +kernel
theorem dX1_turnSigns_27 : decode cX1_turnSigns 27 = .ok (.lneg, 1) := by decide +kernel
theorem dX1_turnSigns_28 : decode cX1_turnSigns 28 = .ok (.lastore, 1) := by decide +kernel
theorem dX1_turnSigns_29 : decode cX1_turnSigns 29 = .ok (.iinc 1 1, 3) := by decide +kernel
theorem dX1_turnSigns_32 : decode cX1_turnSigns 32 = .ok (.goto (-21), 3) := by decide +kernel
theorem dX1_turnSigns_35 : decode cX1_turnSigns 35 = .ok (.return_, 1) := by decide +kernel
theorem dX1_setBelowNothing_0 : decode cX1_setBelowNothing 0 = .ok (.iconst 0, 1) := by decide +kernel
theorem dX1_setBelowNothing_1 : decode cX1_setBelowNothing 1 = .ok (.istore_n 1, 1) := by decide +kernel
theorem dX1_setBelowNothing_2 : decode cX1_setBelowNothing 2 = .ok (.iconst 0, 1) := by decide +kernel
theorem dX1_setBelowNothing_3 : decode cX1_setBelowNothing 3 = .ok (.istore_n 2, 1) := by decide +kernel
theorem dX1_setBelowNothing_4 : decode cX1_setBelowNothing 4 = .ok (.iload_n 2, 1) := by decide +kernel
theorem dX1_setBelowNothing_5 : decode cX1_setBelowNothing 5 = .ok (.aload_n 0, 1) := by decide +kernel
theorem dX1_setBelowNothing_6 : decode cX1_setBelowNothing 6 = .ok (.getfield 49, 3) := by decide +kernel
theorem dX1_setBelowNothing_9 : decode cX1_setBelowNothing 9 = .ok (.if_icmp .ge 38, 3) := by decide +kernel
theorem dX1_setBelowNothing_12 : decode cX1_setBelowNothing 12 = .ok (.aload_n 0, 1) := by decide +kernel
theorem dX1_setBelowNothing_13 : decode cX1_setBelowNothing 13 = .ok (.invokevirtual 130, 3) := by decide +kernel
theorem dX1_setBelowNothing_16 : decode cX1_setBelowNothing 16 = .ok (.ifCond .eq 31, 3) := by decide +kernel
theorem dX1_setBelowNothing_19 : decode cX1_setBelowNothing 19 = .ok (.aload_n 0, 1) := by decide +kernel
theorem dX1_setBelowNothing_20 : decode cX1_setBelowNothing 20 = .ok (.getfield 15, 3) := by decide +kernel
theorem dX1_setBelowNothing_23 : decode cX1_setBelowNothing 23 = .ok (.iload_n 2, 1) := by decide +kernel
theorem dX1_setBelowNothing_24 : decode cX1_setBelowNothing 24 = .ok (.laload, 1) := by decide +kernel
theorem dX1_setBelowNothing_25 : decode cX1_setBelowNothing 25 = .ok (.lconst 0, 1) := by decide +kernel
theorem dX1_setBelowNothing_26 : decode cX1_setBelowNothing 26 = .ok (.lcmp, 1) := by decide +kernel
theorem dX1_setBelowNothing_27 : decode cX1_setBelowNothing 27 = .ok (.ifCond .ge 14, 3) := by decide +kernel
theorem dX1_setBelowNothing_30 : decode cX1_setBelowNothing 30 = .ok (.iload_n 1, 1) := by decide +kernel
theorem dX1_setBelowNothing_31 : decode cX1_setBelowNothing 31 = .ok (.iconst 1, 1) := by decide +kernel
theorem dX1_setBelowNothing_32 : decode cX1_setBelowNothing 32 = .ok (.aload_n 0, 1) := by decide +kernel
theorem dX1_setBelowNothing_33 : decode cX1_setBelowNothing 33 = .ok (.getfield 9, 3) := by decide +kernel
theorem dX1_setBelowNothing_36 : decode cX1_setBelowNothing 36 = .ok (.iload_n 2, 1) := by decide +kernel
theorem dX1_setBelowNothing_37 : decode cX1_setBelowNothing 37 = .ok (.iaload, 1) := by decide +kernel
theorem dX1_setBelowNothing_38 : decode cX1_setBelowNothing 38 = .ok (.ishl, 1) := by decide +kernel
theorem dX1_setBelowNothing_39 : decode cX1_setBelowNothing 39 = .ok (.ior, 1) := by decide +kernel
theorem dX1_setBelowNothing_40 : decode cX1_setBelowNothing 40 = .ok (.istore_n 1, 1) := by decide +kernel
theorem dX1_setBelowNothing_41 : decode cX1_setBelowNothing 41 = .ok (.iinc 2 1, 3) := by decide +kernel
theorem dX1_setBelowNothing_44 : decode cX1_setBelowNothing 44 = .ok (.goto (-40), 3) := by decide +kernel
theorem dX1_setBelowNothing_47 : decode cX1_setBelowNothing 47 = .ok (.iload_n 1, 1) := by decide +kernel
theorem dX1_setBelowNothing_48 : decode cX1_setBelowNothing 48 = .ok (.ireturn, 1) := by decide +kernel
theorem dX1_tellPart_0 : decode cX1_tellPart 0 = .ok (.iload_n 1, 1) := by decide +kernel
theorem dX1_tellPart_1 : decode cX1_tellPart 1 = .ok (.iconst 1, 1) := by decide +kernel
theorem dX1_tellPart_2 : decode cX1_tellPart 2 = .ok (.iand, 1) := by decide +kernel
theorem dX1_tellPart_3 : decode cX1_tellPart 3 = .ok (.istore_n 2, 1) := by decide +kernel
theorem dX1_tellPart_4 : decode cX1_tellPart 4 = .ok (.iload_n 1, 1) := by decide +kernel
theorem dX1_tellPart_5 : decode cX1_tellPart 5 = .ok (.iconst 1, 1) := by decide +kernel
theorem dX1_tellPart_6 : decode cX1_tellPart 6 = .ok (.ishr, 1) := by decide +kernel
theorem dX1_tellPart_7 : decode cX1_tellPart 7 = .ok (.lookupswitch 51 #[(0, 25), (1, 38)], 25) := by decide +kernel
theorem dX1_tellPart_32 : decode cX1_tellPart 32 = .ok (.aload_n 0, 1) := by decide +kernel
theorem dX1_tellPart_33 : decode cX1_tellPart 33 = .ok (.invokevirtual 134, 3) := by decide +kernel
theorem dX1_tellPart_36 : decode cX1_tellPart 36 = .ok (.aload_n 0, 1) := by decide +kernel
theorem dX1_tellPart_37 : decode cX1_tellPart 37 = .ok (.invokevirtual 138, 3) := by decide +kernel
theorem dX1_tellPart_40 : decode cX1_tellPart 40 = .ok (.iload_n 2, 1) := by decide +kernel
theorem dX1_tellPart_41 : decode cX1_tellPart 41 = .ok (.invokestatic 141, 3) := by decide +kernel
theorem dX1_tellPart_44 : decode cX1_tellPart 44 = .ok (.lreturn, 1) := by decide +kernel
theorem dX1_tellPart_45 : decode cX1_tellPart 45 = .ok (.aload_n 0, 1) := by decide +kernel
theorem dX1_tellPart_46 : decode cX1_tellPart 46 = .ok (.invokevirtual 145, 3) := by decide +kernel
theorem dX1_tellPart_49 : decode cX1_tellPart 49 = .ok (.aload_n 0, 1) := by decide +kernel
theorem dX1_tellPart_50 : decode cX1_tellPart 50 = .ok (.invokevirtual 148, 3) := by decide +kernel
theorem dX1_tellPart_53 : decode cX1_tellPart 53 = .ok (.iload_n 2, 1) := by decide +kernel
theorem dX1_tellPart_54 : decode cX1_tellPart 54 = .ok (.invokestatic 141, 3) := by decide +kernel
theorem dX1_tellPart_57 : decode cX1_tellPart 57 = .ok (.lreturn, 1) := by decide +kernel
theorem dX1_tellPart_58 : decode cX1_tellPart 58 = .ok (.aload_n 0, 1) := by decide +kernel
theorem dX1_tellPart_59 : decode cX1_tellPart 59 = .ok (.invokevirtual 151, 3) := by decide +kernel
theorem dX1_tellPart_62 : decode cX1_tellPart 62 = .ok (.aload_n 0, 1) := by decide +kernel
theorem dX1_tellPart_63 : decode cX1_tellPart 63 = .ok (.invokevirtual 138, 3) := by decide +kernel
theorem dX1_tellPart_66 : decode cX1_tellPart 66 = .ok (.iload_n 2, 1) := by decide +kernel
theorem dX1_tellPart_67 : decode cX1_tellPart 67 = .ok (.invokestatic 141, 3) := by decide +kernel
theorem dX1_tellPart_70 : decode cX1_tellPart 70 = .ok (.lreturn, 1) := by decide +kernel
theorem dX1_below_0 : decode cX1_below 0 = .ok (.aload_n 0, 1) := by decide +kernel
theorem dX1_below_1 : decode cX1_below 1 = .ok (.getfield 41, 3) := by decide +kernel
theorem dX1_below_4 : decode cX1_below 4 = .ok (.i2l, 1) := by decide +kernel
theorem dX1_below_5 : decode cX1_below 5 = .ok (.aload_n 0, 1) := by decide +kernel
theorem dX1_below_6 : decode cX1_below 6 = .ok (.getfield 52, 3) := by decide +kernel
theorem dX1_below_9 : decode cX1_below 9 = .ok (.lmul, 1) := by decide +kernel
theorem dX1_below_10 : decode cX1_below 10 = .ok (.lreturn, 1) := by decide +kernel
theorem dX1_gradeAbove_0 : decode cX1_gradeAbove 0 = .ok (.lconst 0, 1) := by decide +kernel
theorem dX1_gradeAbove_1 : decode cX1_gradeAbove 1 = .ok (.lstore_n 1, 1) := by decide +kernel
theorem dX1_gradeAbove_2 : decode cX1_gradeAbove 2 = .ok (.iconst 0, 1) := by decide +kernel
theorem dX1_gradeAbove_3 : decode cX1_gradeAbove 3 = .ok (.istore_n 3, 1) := by decide +kernel
theorem dX1_gradeAbove_4 : decode cX1_gradeAbove 4 = .ok (.iload_n 3, 1) := by decide +kernel
theorem dX1_gradeAbove_5 : decode cX1_gradeAbove 5 = .ok (.aload_n 0, 1) := by decide +kernel
theorem dX1_gradeAbove_6 : decode cX1_gradeAbove 6 = .ok (.getfield 49, 3) := by decide +kernel
theorem dX1_gradeAbove_9 : decode cX1_gradeAbove 9 = .ok (.if_icmp .ge 34, 3) := by decide +kernel
theorem dX1_gradeAbove_12 : decode cX1_gradeAbove 12 = .ok (.lload_n 1, 1) := by decide +kernel
theorem dX1_gradeAbove_13 : decode cX1_gradeAbove 13 = .ok (.aload_n 0, 1) := by decide +kernel
theorem dX1_gradeAbove_14 : decode cX1_gradeAbove 14 = .ok (.getfield 15, 3) := by decide +kernel
theorem dX1_gradeAbove_17 : decode cX1_gradeAbove 17 = .ok (.iload_n 3, 1) := by decide +kernel
theorem dX1_gradeAbove_18 : decode cX1_gradeAbove 18 = .ok (.laload, 1) := by decide +kernel
theorem dX1_gradeAbove_19 : decode cX1_gradeAbove 19 = .ok (.aload_n 0, 1) := by decide +kernel
theorem dX1_gradeAbove_20 : decode cX1_gradeAbove 20 = .ok (.getfield 37, 3) := by decide +kernel
theorem dX1_gradeAbove_23 : decode cX1_gradeAbove 23 = .ok (.getfield 154, 3) := by decide +kernel
theorem dX1_gradeAbove_26 : decode cX1_gradeAbove 26 = .ok (.aload_n 0, 1) := by decide +kernel
theorem dX1_gradeAbove_27 : decode cX1_gradeAbove 27 = .ok (.getfield 9, 3) := by decide +kernel
theorem dX1_gradeAbove_30 : decode cX1_gradeAbove 30 = .ok (.iload_n 3, 1) := by decide +kernel
theorem dX1_gradeAbove_31 : decode cX1_gradeAbove 31 = .ok (.iaload, 1) := by decide +kernel
theorem dX1_gradeAbove_32 : decode cX1_gradeAbove 32 = .ok (.iaload, 1) := by decide +kernel
theorem dX1_gradeAbove_33 : decode cX1_gradeAbove 33 = .ok (.i2l, 1) := by decide +kernel
theorem dX1_gradeAbove_34 : decode cX1_gradeAbove 34 = .ok (.lmul, 1) := by decide +kernel
theorem dX1_gradeAbove_35 : decode cX1_gradeAbove 35 = .ok (.ladd, 1) := by decide +kernel
theorem dX1_gradeAbove_36 : decode cX1_gradeAbove 36 = .ok (.lstore_n 1, 1) := by decide +kernel
theorem dX1_gradeAbove_37 : decode cX1_gradeAbove 37 = .ok (.iinc 3 1, 3) := by decide +kernel
theorem dX1_gradeAbove_40 : decode cX1_gradeAbove 40 = .ok (.goto (-36), 3) := by decide +kernel
theorem dX1_gradeAbove_43 : decode cX1_gradeAbove 43 = .ok (.lload_n 1, 1) := by decide +kernel
theorem dX1_gradeAbove_44 : decode cX1_gradeAbove 44 = .ok (.lreturn, 1) := by decide +kernel
theorem dX1_gradeCut_0 : decode cX1_gradeCut 0 = .ok (.aload_n 0, 1) := by decide +kernel
theorem dX1_gradeCut_1 : decode cX1_gradeCut 1 = .ok (.invokevirtual 138, 3) := by decide +kernel
theorem dX1_gradeCut_4 : decode cX1_gradeCut 4 = .ok (.lstore_n 1, 1) := by decide +kernel
theorem dX1_gradeCut_5 : decode cX1_gradeCut 5 = .ok (.lload_n 1, 1) := by decide +kernel
theorem dX1_gradeCut_6 : decode cX1_gradeCut 6 = .ok (.lconst 0, 1) := by decide +kernel
theorem dX1_gradeCut_7 : decode cX1_gradeCut 7 = .ok (.lcmp, 1) := by decide +kernel
theorem dX1_gradeCut_8 : decode cX1_gradeCut 8 = .ok (.ifCond .ne 9, 3) := by decide +kernel
theorem dX1_gradeCut_11 : decode cX1_gradeCut 11 = .ok (.ldc2_w 157, 3) := by decide +kernel
theorem dX1_gradeCut_14 : decode cX1_gradeCut 14 = .ok (.goto 9, 3) := by decide +kernel
theorem dX1_gradeCut_17 : decode cX1_gradeCut 17 = .ok (.aload_n 0, 1) := by decide +kernel
theorem dX1_gradeCut_18 : decode cX1_gradeCut 18 = .ok (.invokevirtual 134, 3) := by decide +kernel
theorem dX1_gradeCut_21 : decode cX1_gradeCut 21 = .ok (.lload_n 1, 1) := by decide +kernel
theorem dX1_gradeCut_22 : decode cX1_gradeCut 22 = .ok (.ldiv, 1) := by decide +kernel
theorem dX1_gradeCut_23 : decode cX1_gradeCut 23 = .ok (.lreturn, 1) := by decide +kernel
theorem dX1_floorAbove_0 : decode cX1_floorAbove 0 = .ok (.aload_n 0, 1) := by decide +kernel
theorem dX1_floorAbove_1 : decode cX1_floorAbove 1 = .ok (.getfield 28, 3) := by decide +kernel
theorem dX1_floorAbove_4 : decode cX1_floorAbove 4 = .ok (.iconst 0, 1) := by decide +kernel
theorem dX1_floorAbove_5 : decode cX1_floorAbove 5 = .ok (.iaload, 1) := by decide +kernel
theorem dX1_floorAbove_6 : decode cX1_floorAbove 6 = .ok (.i2l, 1) := by decide +kernel
theorem dX1_floorAbove_7 : decode cX1_floorAbove 7 = .ok (.aload_n 0, 1) := by decide +kernel
theorem dX1_floorAbove_8 : decode cX1_floorAbove 8 = .ok (.getfield 52, 3) := by decide +kernel
theorem dX1_floorAbove_11 : decode cX1_floorAbove 11 = .ok (.lmul, 1) := by decide +kernel
theorem dX1_floorAbove_12 : decode cX1_floorAbove 12 = .ok (.lstore_n 1, 1) := by decide +kernel
theorem dX1_floorAbove_13 : decode cX1_floorAbove 13 = .ok (.iconst 1, 1) := by decide +kernel
theorem dX1_floorAbove_14 : decode cX1_floorAbove 14 = .ok (.istore_n 3, 1) := by decide +kernel
theorem dX1_floorAbove_15 : decode cX1_floorAbove 15 = .ok (.iload_n 3, 1) := by decide +kernel
theorem dX1_floorAbove_16 : decode cX1_floorAbove 16 = .ok (.aload_n 0, 1) := by decide +kernel
theorem dX1_floorAbove_17 : decode cX1_floorAbove 17 = .ok (.getfield 49, 3) := by decide +kernel
theorem dX1_floorAbove_20 : decode cX1_floorAbove 20 = .ok (.if_icmp .ge 26, 3) := by decide +kernel
theorem dX1_floorAbove_23 : decode cX1_floorAbove 23 = .ok (.lload_n 1, 1) := by decide +kernel
theorem dX1_floorAbove_24 : decode cX1_floorAbove 24 = .ok (.aload_n 0, 1) := by decide +kernel
theorem dX1_floorAbove_25 : decode cX1_floorAbove 25 = .ok (.getfield 15, 3) := by decide +kernel
theorem dX1_floorAbove_28 : decode cX1_floorAbove 28 = .ok (.iload_n 3, 1) := by decide +kernel
theorem dX1_floorAbove_29 : decode cX1_floorAbove 29 = .ok (.laload, 1) := by decide +kernel
theorem dX1_floorAbove_30 : decode cX1_floorAbove 30 = .ok (.aload_n 0, 1) := by decide +kernel
theorem dX1_floorAbove_31 : decode cX1_floorAbove 31 = .ok (.getfield 25, 3) := by decide +kernel
theorem dX1_floorAbove_34 : decode cX1_floorAbove 34 = .ok (.iload_n 3, 1) := by decide +kernel
theorem dX1_floorAbove_35 : decode cX1_floorAbove 35 = .ok (.iaload, 1) := by decide +kernel
theorem dX1_floorAbove_36 : decode cX1_floorAbove 36 = .ok (.i2l, 1) := by decide +kernel
theorem dX1_floorAbove_37 : decode cX1_floorAbove 37 = .ok (.lmul, 1) := by decide +kernel
theorem dX1_floorAbove_38 : decode cX1_floorAbove 38 = .ok (.lsub, 1) := by decide +kernel
theorem dX1_floorAbove_39 : decode cX1_floorAbove 39 = .ok (.lstore_n 1, 1) := by decide +kernel
theorem dX1_floorAbove_40 : decode cX1_floorAbove 40 = .ok (.iinc 3 1, 3) := by decide +kernel
theorem dX1_floorAbove_43 : decode cX1_floorAbove 43 = .ok (.goto (-28), 3) := by decide +kernel
theorem dX1_floorAbove_46 : decode cX1_floorAbove 46 = .ok (.lload_n 1, 1) := by decide +kernel
theorem dX1_floorAbove_47 : decode cX1_floorAbove 47 = .ok (.lreturn, 1) := by decide +kernel
theorem dX1_spreadAbove_0 : decode cX1_spreadAbove 0 = .ok (.aload_n 0, 1) := by decide +kernel
theorem dX1_spreadAbove_1 : decode cX1_spreadAbove 1 = .ok (.getfield 41, 3) := by decide +kernel
theorem dX1_spreadAbove_4 : decode cX1_spreadAbove 4 = .ok (.i2l, 1) := by decide +kernel
theorem dX1_spreadAbove_5 : decode cX1_spreadAbove 5 = .ok (.aload_n 0, 1) := by decide +kernel
theorem dX1_spreadAbove_6 : decode cX1_spreadAbove 6 = .ok (.invokevirtual 151, 3) := by decide +kernel
theorem dX1_spreadAbove_9 : decode cX1_spreadAbove 9 = .ok (.lmul, 1) := by decide +kernel
theorem dX1_spreadAbove_10 : decode cX1_spreadAbove 10 = .ok (.aload_n 0, 1) := by decide +kernel
theorem dX1_spreadAbove_11 : decode cX1_spreadAbove 11 = .ok (.getfield 127, 3) := by decide +kernel
theorem dX1_spreadAbove_14 : decode cX1_spreadAbove 14 = .ok (.i2l, 1) := by decide +kernel
theorem dX1_spreadAbove_15 : decode cX1_spreadAbove 15 = .ok (.aload_n 0, 1) := by decide +kernel
theorem dX1_spreadAbove_16 : decode cX1_spreadAbove 16 = .ok (.getfield 52, 3) := by decide +kernel
theorem dX1_spreadAbove_19 : decode cX1_spreadAbove 19 = .ok (.lmul, 1) := by decide +kernel
theorem dX1_spreadAbove_20 : decode cX1_spreadAbove 20 = .ok (.lsub, 1) := by decide +kernel
theorem dX1_spreadAbove_21 : decode cX1_spreadAbove 21 = .ok (.lstore_n 1, 1) := by decide +kernel
theorem dX1_spreadAbove_22 : decode cX1_spreadAbove 22 = .ok (.iconst 0, 1) := by decide +kernel
theorem dX1_spreadAbove_23 : decode cX1_spreadAbove 23 = .ok (.istore_n 3, 1) := by decide +kernel
theorem dX1_spreadAbove_24 : decode cX1_spreadAbove 24 = .ok (.iload_n 3, 1) := by decide +kernel
theorem dX1_spreadAbove_25 : decode cX1_spreadAbove 25 = .ok (.aload_n 0, 1) := by decide +kernel
theorem dX1_spreadAbove_26 : decode cX1_spreadAbove 26 = .ok (.getfield 49, 3) := by decide +kernel
theorem dX1_spreadAbove_29 : decode cX1_spreadAbove 29 = .ok (.if_icmp .ge 26, 3) := by decide +kernel
theorem dX1_spreadAbove_32 : decode cX1_spreadAbove 32 = .ok (.lload_n 1, 1) := by decide +kernel
theorem dX1_spreadAbove_33 : decode cX1_spreadAbove 33 = .ok (.aload_n 0, 1) := by decide +kernel
theorem dX1_spreadAbove_34 : decode cX1_spreadAbove 34 = .ok (.getfield 15, 3) := by decide +kernel
theorem dX1_spreadAbove_37 : decode cX1_spreadAbove 37 = .ok (.iload_n 3, 1) := by decide +kernel
theorem dX1_spreadAbove_38 : decode cX1_spreadAbove 38 = .ok (.laload, 1) := by decide +kernel
theorem dX1_spreadAbove_39 : decode cX1_spreadAbove 39 = .ok (.aload_n 0, 1) := by decide +kernel
theorem dX1_spreadAbove_40 : decode cX1_spreadAbove 40 = .ok (.getfield 28, 3) := by decide +kernel
theorem dX1_spreadAbove_43 : decode cX1_spreadAbove 43 = .ok (.iload_n 3, 1) := by decide +kernel
theorem dX1_spreadAbove_44 : decode cX1_spreadAbove 44 = .ok (.iaload, 1) := by decide +kernel
theorem dX1_spreadAbove_45 : decode cX1_spreadAbove 45 = .ok (.i2l, 1) := by decide +kernel
theorem dX1_spreadAbove_46 : decode cX1_spreadAbove 46 = .ok (.lmul, 1) := by decide +kernel
theorem dX1_spreadAbove_47 : decode cX1_spreadAbove 47 = .ok (.ladd, 1) := by decide +kernel
theorem dX1_spreadAbove_48 : decode cX1_spreadAbove 48 = .ok (.lstore_n 1, 1) := by decide +kernel
theorem dX1_spreadAbove_49 : decode cX1_spreadAbove 49 = .ok (.iinc 3 1, 3) := by decide +kernel
theorem dX1_spreadAbove_52 : decode cX1_spreadAbove 52 = .ok (.goto (-28), 3) := by decide +kernel
theorem dX1_spreadAbove_55 : decode cX1_spreadAbove 55 = .ok (.lload_n 1, 1) := by decide +kernel
theorem dX1_spreadAbove_56 : decode cX1_spreadAbove 56 = .ok (.lreturn, 1) := by decide +kernel
theorem dX1_spreadBelow_0 : decode cX1_spreadBelow 0 = .ok (.aload_n 0, 1) := by decide +kernel
theorem dX1_spreadBelow_1 : decode cX1_spreadBelow 1 = .ok (.getfield 41, 3) := by decide +kernel
theorem dX1_spreadBelow_4 : decode cX1_spreadBelow 4 = .ok (.i2l, 1) := by decide +kernel
theorem dX1_spreadBelow_5 : decode cX1_spreadBelow 5 = .ok (.aload_n 0, 1) := by decide +kernel
theorem dX1_spreadBelow_6 : decode cX1_spreadBelow 6 = .ok (.invokevirtual 138, 3) := by decide +kernel
theorem dX1_spreadBelow_9 : decode cX1_spreadBelow 9 = .ok (.lmul, 1) := by decide +kernel
theorem dX1_spreadBelow_10 : decode cX1_spreadBelow 10 = .ok (.lreturn, 1) := by decide +kernel
theorem dX2_init_0 : decode cX2_init 0 = .ok (.aload_n 0, 1) := by decide +kernel
theorem dX2_init_1 : decode cX2_init 1 = .ok (.invokespecial 3, 3) := by decide +kernel
theorem dX2_init_4 : decode cX2_init 4 = .ok (.aload_n 0, 1) := by decide +kernel
theorem dX2_init_5 : decode cX2_init 5 = .ok (.bipush 10, 2) := by decide +kernel
theorem dX2_init_7 : decode cX2_init 7 = .ok (.newarray .int, 2) := by decide +kernel
theorem dX2_init_9 : decode cX2_init 9 = .ok (.putfield 9, 3) := by decide +kernel
theorem dX2_init_12 : decode cX2_init 12 = .ok (.aload_n 0, 1) := by decide +kernel
theorem dX2_init_13 : decode cX2_init 13 = .ok (.bipush 10, 2) := by decide +kernel
theorem dX2_init_15 : decode cX2_init 15 = .ok (.newarray .int, 2) := by decide +kernel
theorem dX2_init_17 : decode cX2_init 17 = .ok (.putfield 15, 3) := by decide +kernel
theorem dX2_init_20 : decode cX2_init 20 = .ok (.aload_n 0, 1) := by decide +kernel
theorem dX2_init_21 : decode cX2_init 21 = .ok (.bipush 10, 2) := by decide +kernel
theorem dX2_init_23 : decode cX2_init 23 = .ok (.newarray .int, 2) := by decide +kernel
theorem dX2_init_25 : decode cX2_init 25 = .ok (.putfield 18, 3) := by decide +kernel
theorem dX2_init_28 : decode cX2_init 28 = .ok (.aload_n 0, 1) := by decide +kernel
theorem dX2_init_29 : decode cX2_init 29 = .ok (.iconst 0, 1) := by decide +kernel
theorem dX2_init_30 : decode cX2_init 30 = .ok (.putfield 21, 3) := by decide +kernel
theorem dX2_init_33 : decode cX2_init 33 = .ok (.aload_n 0, 1) := by decide +kernel
theorem dX2_init_34 : decode cX2_init 34 = .ok (.iconst 2, 1) := by decide +kernel
theorem dX2_init_35 : decode cX2_init 35 = .ok (.putfield 25, 3) := by decide +kernel
theorem dX2_init_38 : decode cX2_init 38 = .ok (.aload_n 0, 1) := by decide +kernel
theorem dX2_init_39 : decode cX2_init 39 = .ok (.iconst 5, 1) := by decide +kernel
theorem dX2_init_40 : decode cX2_init 40 = .ok (.putfield 28, 3) := by decide +kernel
theorem dX2_init_43 : decode cX2_init 43 = .ok (.aload_n 0, 1) := by decide +kernel
theorem dX2_init_44 : decode cX2_init 44 = .ok (.iconst 1, 1) := by decide +kernel
theorem dX2_init_45 : decode cX2_init 45 = .ok (.putfield 31, 3) := by decide +kernel
theorem dX2_init_48 : decode cX2_init 48 = .ok (.aload_n 0, 1) := by decide +kernel
theorem dX2_init_49 : decode cX2_init 49 = .ok (.bipush 12, 2) := by decide +kernel
theorem dX2_init_51 : decode cX2_init 51 = .ok (.putfield 34, 3) := by decide +kernel
theorem dX2_init_54 : decode cX2_init 54 = .ok (.aload_n 0, 1) := by decide +kernel
theorem dX2_init_55 : decode cX2_init 55 = .ok (.iconst 4, 1) := by decide +kernel
theorem dX2_init_56 : decode cX2_init 56 = .ok (.putfield 37, 3) := by decide +kernel
theorem dX2_init_59 : decode cX2_init 59 = .ok (.aload_n 0, 1) := by decide +kernel
theorem dX2_init_60 : decode cX2_init 60 = .ok (.iconst 4, 1) := by decide +kernel
theorem dX2_init_61 : decode cX2_init 61 = .ok (.putfield 40, 3) := by decide +kernel
theorem dX2_init_64 : decode cX2_init 64 = .ok (.aload_n 0, 1) := by decide +kernel
theorem dX2_init_65 : decode cX2_init 65 = .ok (.bipush 62, 2) := by decide +kernel
theorem dX2_init_67 : decode cX2_init 67 = .ok (.putfield 43, 3) := by decide +kernel
theorem dX2_init_70 : decode cX2_init 70 = .ok (.return_, 1) := by decide +kernel
theorem dX2_become_0 : decode cX2_become 0 = .ok (.aload_n 0, 1) := by decide +kernel
theorem dX2_become_1 : decode cX2_become 1 = .ok (.aload_n 1, 1) := by decide +kernel
theorem dX2_become_2 : decode cX2_become 2 = .ok (.getfield 46, 3) := by decide +kernel
theorem dX2_become_5 : decode cX2_become 5 = .ok (.putfield 46, 3) := by decide +kernel
theorem dX2_become_8 : decode cX2_become 8 = .ok (.aload_n 1, 1) := by decide +kernel
theorem dX2_become_9 : decode cX2_become 9 = .ok (.getfield 9, 3) := by decide +kernel
theorem dX2_become_12 : decode cX2_become 12 = .ok (.iconst 0, 1) := by decide +kernel
theorem dX2_become_13 : decode cX2_become 13 = .ok (.aload_n 0, 1) := by decide +kernel
theorem dX2_become_14 : decode cX2_become 14 = .ok (.getfield 9, 3) := by decide +kernel
theorem dX2_become_17 : decode cX2_become 17 = .ok (.iconst 0, 1) := by decide +kernel
theorem dX2_become_18 : decode cX2_become 18 = .ok (.bipush 10, 2) := by decide +kernel
theorem dX2_become_20 : decode cX2_become 20 = .ok (.invokestatic 49, 3) := by decide +kernel
theorem dX2_become_23 : decode cX2_become 23 = .ok (.aload_n 1, 1) := by decide +kernel
theorem dX2_become_24 : decode cX2_become 24 = .ok (.getfield 15, 3) := by decide +kernel
theorem dX2_become_27 : decode cX2_become 27 = .ok (.iconst 0, 1) := by decide +kernel
theorem dX2_become_28 : decode cX2_become 28 = .ok (.aload_n 0, 1) := by decide +kernel
theorem dX2_become_29 : decode cX2_become 29 = .ok (.getfield 15, 3) := by decide +kernel
theorem dX2_become_32 : decode cX2_become 32 = .ok (.iconst 0, 1) := by decide +kernel
theorem dX2_become_33 : decode cX2_become 33 = .ok (.bipush 10, 2) := by decide +kernel
theorem dX2_become_35 : decode cX2_become 35 = .ok (.invokestatic 49, 3) := by decide +kernel
theorem dX2_become_38 : decode cX2_become 38 = .ok (.aload_n 1, 1) := by decide +kernel
theorem dX2_become_39 : decode cX2_become 39 = .ok (.getfield 18, 3) := by decide +kernel
theorem dX2_become_42 : decode cX2_become 42 = .ok (.iconst 0, 1) := by decide +kernel
theorem dX2_become_43 : decode cX2_become 43 = .ok (.aload_n 0, 1) := by decide +kernel
theorem dX2_become_44 : decode cX2_become 44 = .ok (.getfield 18, 3) := by decide +kernel
theorem dX2_become_47 : decode cX2_become 47 = .ok (.iconst 0, 1) := by decide +kernel
theorem dX2_become_48 : decode cX2_become 48 = .ok (.bipush 10, 2) := by decide +kernel
theorem dX2_become_50 : decode cX2_become 50 = .ok (.invokestatic 49, 3) := by decide +kernel
theorem dX2_become_53 : decode cX2_become 53 = .ok (.aload_n 0, 1) := by decide +kernel
theorem dX2_become_54 : decode cX2_become 54 = .ok (.aload_n 1, 1) := by decide +kernel
theorem dX2_become_55 : decode cX2_become 55 = .ok (.getfield 55, 3) := by decide +kernel
theorem dX2_become_58 : decode cX2_become 58 = .ok (.putfield 55, 3) := by decide +kernel
theorem dX2_become_61 : decode cX2_become 61 = .ok (.aload_n 0, 1) := by decide +kernel
theorem dX2_become_62 : decode cX2_become 62 = .ok (.aload_n 1, 1) := by decide +kernel
theorem dX2_become_63 : decode cX2_become 63 = .ok (.getfield 21, 3) := by decide +kernel
theorem dX2_become_66 : decode cX2_become 66 = .ok (.putfield 21, 3) := by decide +kernel
theorem dX2_become_69 : decode cX2_become 69 = .ok (.aload_n 0, 1) := by decide +kernel
theorem dX2_become_70 : decode cX2_become 70 = .ok (.aload_n 1, 1) := by decide +kernel
theorem dX2_become_71 : decode cX2_become 71 = .ok (.getfield 25, 3) := by decide +kernel
theorem dX2_become_74 : decode cX2_become 74 = .ok (.putfield 25, 3) := by decide +kernel
theorem dX2_become_77 : decode cX2_become 77 = .ok (.aload_n 0, 1) := by decide +kernel
theorem dX2_become_78 : decode cX2_become 78 = .ok (.aload_n 1, 1) := by decide +kernel
theorem dX2_become_79 : decode cX2_become 79 = .ok (.getfield 28, 3) := by decide +kernel
theorem dX2_become_82 : decode cX2_become 82 = .ok (.putfield 28, 3) := by decide +kernel
theorem dX2_become_85 : decode cX2_become 85 = .ok (.aload_n 0, 1) := by decide +kernel
theorem dX2_become_86 : decode cX2_become 86 = .ok (.aload_n 1, 1) := by decide +kernel
theorem dX2_become_87 : decode cX2_become 87 = .ok (.getfield 31, 3) := by decide +kernel
theorem dX2_become_90 : decode cX2_become 90 = .ok (.putfield 31, 3) := by decide +kernel
theorem dX2_become_93 : decode cX2_become 93 = .ok (.aload_n 0, 1) := by decide +kernel
theorem dX2_become_94 : decode cX2_become 94 = .ok (.aload_n 1, 1) := by decide +kernel
theorem dX2_become_95 : decode cX2_become 95 = .ok (.getfield 34, 3) := by decide +kernel
theorem dX2_become_98 : decode cX2_become 98 = .ok (.putfield 34, 3) := by decide +kernel
theorem dX2_become_101 : decode cX2_become 101 = .ok (.aload_n 0, 1) := by decide +kernel
theorem dX2_become_102 : decode cX2_become 102 = .ok (.aload_n 1, 1) := by decide +kernel
theorem dX2_become_103 : decode cX2_become 103 = .ok (.getfield 37, 3) := by decide +kernel
theorem dX2_become_106 : decode cX2_become 106 = .ok (.putfield 37, 3) := by decide +kernel
theorem dX2_become_109 : decode cX2_become 109 = .ok (.aload_n 0, 1) := by decide +kernel
theorem dX2_become_110 : decode cX2_become 110 = .ok (.aload_n 1, 1) := by decide +kernel
theorem dX2_become_111 : decode cX2_become 111 = .ok (.getfield 40, 3) := by decide +kernel
theorem dX2_become_114 : decode cX2_become 114 = .ok (.putfield 40, 3) := by decide +kernel
theorem dX2_become_117 : decode cX2_become 117 = .ok (.aload_n 0, 1) := by decide +kernel
theorem dX2_become_118 : decode cX2_become 118 = .ok (.aload_n 1, 1) := by decide +kernel
theorem dX2_become_119 : decode cX2_become 119 = .ok (.getfield 43, 3) := by decide +kernel
theorem dX2_become_122 : decode cX2_become 122 = .ok (.putfield 43, 3) := by decide +kernel
theorem dX2_become_125 : decode cX2_become 125 = .ok (.return_, 1) := by decide +kernel
theorem dX2_sampleAt_0 : decode cX2_sampleAt 0 = .ok (.iconst 0, 1) := by decide +kernel
theorem dX2_sampleAt_1 : decode cX2_sampleAt 1 = .ok (.istore_n 3, 1) := by decide +kernel
theorem dX2_sampleAt_2 : decode cX2_sampleAt 2 = .ok (.iload_n 3, 1) := by decide +kernel
theorem dX2_sampleAt_3 : decode cX2_sampleAt 3 = .ok (.aload_n 0, 1) := by decide +kernel
theorem dX2_sampleAt_4 : decode cX2_sampleAt 4 = .ok (.getfield 46, 3) := by decide +kernel
theorem dX2_sampleAt_7 : decode cX2_sampleAt 7 = .ok (.if_icmp .ge 31, 3) := by decide +kernel
theorem dX2_sampleAt_10 : decode cX2_sampleAt 10 = .ok (.aload_n 0, 1) := by decide +kernel
theorem dX2_sampleAt_11 : decode cX2_sampleAt 11 = .ok (.getfield 9, 3) := by decide +kernel
theorem dX2_sampleAt_14 : decode cX2_sampleAt 14 = .ok (.iload_n 3, 1) := by decide +kernel
theorem dX2_sampleAt_15 : decode cX2_sampleAt 15 = .ok (.iaload, 1) := by decide +kernel
theorem dX2_sampleAt_16 : decode cX2_sampleAt 16 = .ok (.iload_n 1, 1) := by decide +kernel
theorem dX2_sampleAt_17 : decode cX2_sampleAt 17 = .ok (.if_icmp .ne 15, 3) := by decide +kernel
theorem dX2_sampleAt_20 : decode cX2_sampleAt 20 = .ok (.aload_n 0, 1) := by decide +kernel
theorem dX2_sampleAt_21 : decode cX2_sampleAt 21 = .ok (.getfield 15, 3) := by decide +kernel
theorem dX2_sampleAt_24 : decode cX2_sampleAt 24 = .ok (.iload_n 3, 1) := by decide +kernel
theorem dX2_sampleAt_25 : decode cX2_sampleAt 25 = .ok (.iaload, 1) := by decide +kernel
theorem dX2_sampleAt_26 : decode cX2_sampleAt 26 = .ok (.iload_n 2, 1) := by decide +kernel
theorem dX2_sampleAt_27 : decode cX2_sampleAt 27 = .ok (.if_icmp .ne 5, 3) := by decide +kernel
theorem dX2_sampleAt_30 : decode cX2_sampleAt 30 = .ok (.iload_n 3, 1) := by decide +kernel
theorem dX2_sampleAt_31 : decode cX2_sampleAt 31 = .ok (.ireturn, 1) := by decide +kernel
theorem dX2_sampleAt_32 : decode cX2_sampleAt 32 = .ok (.iinc 3 1, 3) := by decide +kernel
theorem dX2_sampleAt_35 : decode cX2_sampleAt 35 = .ok (.goto (-33), 3) := by decide +kernel
theorem dX2_sampleAt_38 : decode cX2_sampleAt 38 = .ok (.iconst (-1), 1) := by decide +kernel
theorem dX2_sampleAt_39 : decode cX2_sampleAt 39 = .ok (.ireturn, 1) := by decide +kernel
theorem dX2_addSample_0 : decode cX2_addSample 0 = .ok (.aload_n 0, 1) := by decide +kernel
theorem dX2_addSample_1 : decode cX2_addSample 1 = .ok (.getfield 46, 3) := by decide +kernel
theorem dX2_addSample_4 : decode cX2_addSample 4 = .ok (.bipush 10, 2) := by decide +kernel
theorem dX2_addSample_6 : decode cX2_addSample 6 = .ok (.if_icmp .lt 4, 3) := by decide +kernel
theorem dX2_addSample_9 : decode cX2_addSample 9 = .ok (.return_, 1) := by decide +kernel
theorem dX2_addSample_10 : decode cX2_addSample 10 = .ok (.aload_n 0, 1) := by decide +kernel
theorem dX2_addSample_11 : decode cX2_addSample 11 = .ok (.getfield 9, 3) := by decide +kernel
theorem dX2_addSample_14 : decode cX2_addSample 14 = .ok (.aload_n 0, 1) := by decide +kernel
theorem dX2_addSample_15 : decode cX2_addSample 15 = .ok (.getfield 46, 3) := by decide +kernel
theorem dX2_addSample_18 : decode cX2_addSample 18 = .ok (.iload_n 1, 1) := by decide +kernel
theorem dX2_addSample_19 : decode cX2_addSample 19 = .ok (.iastore, 1) := by decide +kernel
theorem dX2_addSample_20 : decode cX2_addSample 20 = .ok (.aload_n 0, 1) := by decide +kernel
theorem dX2_addSample_21 : decode cX2_addSample 21 = .ok (.getfield 15, 3) := by decide +kernel
theorem dX2_addSample_24 : decode cX2_addSample 24 = .ok (.aload_n 0, 1) := by decide +kernel
theorem dX2_addSample_25 : decode cX2_addSample 25 = .ok (.getfield 46, 3) := by decide +kernel
theorem dX2_addSample_28 : decode cX2_addSample 28 = .ok (.iload_n 2, 1) := by decide +kernel
theorem dX2_addSample_29 : decode cX2_addSample 29 = .ok (.iastore, 1) := by decide +kernel
theorem dX2_addSample_30 : decode cX2_addSample 30 = .ok (.aload_n 0, 1) := by decide +kernel
theorem dX2_addSample_31 : decode cX2_addSample 31 = .ok (.getfield 18, 3) := by decide +kernel
theorem dX2_addSample_34 : decode cX2_addSample 34 = .ok (.aload_n 0, 1) := by decide +kernel
theorem dX2_addSample_35 : decode cX2_addSample 35 = .ok (.getfield 46, 3) := by decide +kernel
theorem dX2_addSample_38 : decode cX2_addSample 38 = .ok (.iload_n 3, 1) := by decide +kernel
theorem dX2_addSample_39 : decode cX2_addSample 39 = .ok (.iastore, 1) := by decide +kernel
theorem dX2_addSample_40 : decode cX2_addSample 40 = .ok (.aload_n 0, 1) := by decide +kernel
theorem dX2_addSample_41 : decode cX2_addSample 41 = .ok (.dup, 1) := by decide +kernel
theorem dX2_addSample_42 : decode cX2_addSample 42 = .ok (.getfield 46, 3) := by decide +kernel
theorem dX2_addSample_45 : decode cX2_addSample 45 = .ok (.iconst 1, 1) := by decide +kernel
theorem dX2_addSample_46 : decode cX2_addSample 46 = .ok (.iadd, 1) := by decide +kernel
theorem dX2_addSample_47 : decode cX2_addSample 47 = .ok (.putfield 46, 3) := by decide +kernel
theorem dX2_addSample_50 : decode cX2_addSample 50 = .ok (.return_, 1) := by decide +kernel
theorem dX2_removeSample_0 : decode cX2_removeSample 0 = .ok (.iload_n 1, 1) := by decide +kernel
theorem dX2_removeSample_1 : decode cX2_removeSample 1 = .ok (.iconst 1, 1) := by decide +kernel
theorem dX2_removeSample_2 : decode cX2_removeSample 2 = .ok (.iadd, 1) := by decide +kernel
theorem dX2_removeSample_3 : decode cX2_removeSample 3 = .ok (.istore_n 2, 1) := by decide +kernel
theorem dX2_removeSample_4 : decode cX2_removeSample 4 = .ok (.iload_n 2, 1) := by decide +kernel
theorem dX2_removeSample_5 : decode cX2_removeSample 5 = .ok (.aload_n 0, 1) := by decide +kernel
theorem dX2_removeSample_6 : decode cX2_removeSample 6 = .ok (.getfield 46, 3) := by decide +kernel
theorem dX2_removeSample_9 : decode cX2_removeSample 9 = .ok (.if_icmp .ge 51, 3) := by decide +kernel
theorem dX2_removeSample_12 : decode cX2_removeSample 12 = .ok (.aload_n 0, 1) := by decide +kernel
theorem dX2_removeSample_13 : decode cX2_removeSample 13 = .ok (.getfield 9, 3) := by decide +kernel
theorem dX2_removeSample_16 : decode cX2_removeSample 16 = .ok (.iload_n 2, 1) := by decide +kernel
theorem dX2_removeSample_17 : decode cX2_removeSample 17 = .ok (.iconst 1, 1) := by decide +kernel
theorem dX2_removeSample_18 : decode cX2_removeSample 18 = .ok (.isub, 1) := by decide +kernel
theorem dX2_removeSample_19 : decode cX2_removeSample 19 = .ok (.aload_n 0, 1) := by decide +kernel
theorem dX2_removeSample_20 : decode cX2_removeSample 20 = .ok (.getfield 9, 3) := by decide +kernel
theorem dX2_removeSample_23 : decode cX2_removeSample 23 = .ok (.iload_n 2, 1) := by decide +kernel
theorem dX2_removeSample_24 : decode cX2_removeSample 24 = .ok (.iaload, 1) := by decide +kernel
theorem dX2_removeSample_25 : decode cX2_removeSample 25 = .ok (.iastore, 1) := by decide +kernel
theorem dX2_removeSample_26 : decode cX2_removeSample 26 = .ok (.aload_n 0, 1) := by decide +kernel
theorem dX2_removeSample_27 : decode cX2_removeSample 27 = .ok (.getfield 15, 3) := by decide +kernel
theorem dX2_removeSample_30 : decode cX2_removeSample 30 = .ok (.iload_n 2, 1) := by decide +kernel
theorem dX2_removeSample_31 : decode cX2_removeSample 31 = .ok (.iconst 1, 1) := by decide +kernel
theorem dX2_removeSample_32 : decode cX2_removeSample 32 = .ok (.isub, 1) := by decide +kernel
theorem dX2_removeSample_33 : decode cX2_removeSample 33 = .ok (.aload_n 0, 1) := by decide +kernel
theorem dX2_removeSample_34 : decode cX2_removeSample 34 = .ok (.getfield 15, 3) := by decide +kernel
theorem dX2_removeSample_37 : decode cX2_removeSample 37 = .ok (.iload_n 2, 1) := by decide +kernel
theorem dX2_removeSample_38 : decode cX2_removeSample 38 = .ok (.iaload, 1) := by decide +kernel
theorem dX2_removeSample_39 : decode cX2_removeSample 39 = .ok (.iastore, 1) := by decide +kernel
theorem dX2_removeSample_40 : decode cX2_removeSample 40 = .ok (.aload_n 0, 1) := by decide +kernel
theorem dX2_removeSample_41 : decode cX2_removeSample 41 = .ok (.getfield 18, 3) := by decide +kernel
theorem dX2_removeSample_44 : decode cX2_removeSample 44 = .ok (.iload_n 2, 1) := by decide +kernel
theorem dX2_removeSample_45 : decode cX2_removeSample 45 = .ok (.iconst 1, 1) := by decide +kernel
theorem dX2_removeSample_46 : decode cX2_removeSample 46 = .ok (.isub, 1) := by decide +kernel
theorem dX2_removeSample_47 : decode cX2_removeSample 47 = .ok (.aload_n 0, 1) := by decide +kernel
theorem dX2_removeSample_48 : decode cX2_removeSample 48 = .ok (.getfield 18, 3) := by decide +kernel
theorem dX2_removeSample_51 : decode cX2_removeSample 51 = .ok (.iload_n 2, 1) := by decide +kernel
theorem dX2_removeSample_52 : decode cX2_removeSample 52 = .ok (.iaload, 1) := by decide +kernel
theorem dX2_removeSample_53 : decode cX2_removeSample 53 = .ok (.iastore, 1) := by decide +kernel
theorem dX2_removeSample_54 : decode cX2_removeSample 54 = .ok (.iinc 2 1, 3) := by decide +kernel
theorem dX2_removeSample_57 : decode cX2_removeSample 57 = .ok (.goto (-53), 3) := by decide +kernel
theorem dX2_removeSample_60 : decode cX2_removeSample 60 = .ok (.aload_n 0, 1) := by decide +kernel
theorem dX2_removeSample_61 : decode cX2_removeSample 61 = .ok (.dup, 1) := by decide +kernel
theorem dX2_removeSample_62 : decode cX2_removeSample 62 = .ok (.getfield 46, 3) := by decide +kernel
theorem dX2_removeSample_65 : decode cX2_removeSample 65 = .ok (.iconst 1, 1) := by decide +kernel
theorem dX2_removeSample_66 : decode cX2_removeSample 66 = .ok (.isub, 1) := by decide +kernel
theorem dX2_removeSample_67 : decode cX2_removeSample 67 = .ok (.putfield 46, 3) := by decide +kernel
theorem dX2_removeSample_70 : decode cX2_removeSample 70 = .ok (.return_, 1) := by decide +kernel
theorem dX2_far_0 : decode cX2_far 0 = .ok (.iload_n 1, 1) := by decide +kernel
theorem dX2_far_1 : decode cX2_far 1 = .ok (.invokestatic 58, 3) := by decide +kernel
theorem dX2_far_4 : decode cX2_far 4 = .ok (.istore_n 3, 1) := by decide +kernel
theorem dX2_far_5 : decode cX2_far 5 = .ok (.iload_n 2, 1) := by decide +kernel
theorem dX2_far_6 : decode cX2_far 6 = .ok (.invokestatic 58, 3) := by decide +kernel
theorem dX2_far_9 : decode cX2_far 9 = .ok (.istore 4, 2) := by decide +kernel
theorem dX2_far_11 : decode cX2_far 11 = .ok (.aload_n 0, 1) := by decide +kernel
theorem dX2_far_12 : decode cX2_far 12 = .ok (.getfield 55, 3) := by decide +kernel
theorem dX2_far_15 : decode cX2_far 15 = .ok (.ifCond .ne 10, 3) := by decide +kernel
theorem dX2_far_18 : decode cX2_far 18 = .ok (.iload_n 3, 1) := by decide +kernel
theorem dX2_far_19 : decode cX2_far 19 = .ok (.iload 4, 2) := by decide +kernel
theorem dX2_far_21 : decode cX2_far 21 = .ok (.iadd, 1) := by decide +kernel
theorem dX2_far_22 : decode cX2_far 22 = .ok (.goto 9, 3) := by decide +kernel
theorem dX2_far_25 : decode cX2_far 25 = .ok (.iload_n 3, 1) := by decide +kernel
theorem dX2_far_26 : decode cX2_far 26 = .ok (.iload 4, 2) := by decide +kernel
theorem dX2_far_28 : decode cX2_far 28 = .ok (.invokestatic 64, 3) := by decide +kernel
theorem dX2_far_31 : decode cX2_far 31 = .ok (.ireturn, 1) := by decide +kernel
theorem dX2_unlikeOf_0 : decode cX2_unlikeOf 0 = .ok (.iload_n 1, 1) := by decide +kernel
theorem dX2_unlikeOf_1 : decode cX2_unlikeOf 1 = .ok (.ifCond .ne 5, 3) := by decide +kernel
theorem dX2_unlikeOf_4 : decode cX2_unlikeOf 4 = .ok (.iconst 0, 1) := by decide +kernel
theorem dX2_unlikeOf_5 : decode cX2_unlikeOf 5 = .ok (.ireturn, 1) := by decide +kernel
theorem dX2_unlikeOf_6 : decode cX2_unlikeOf 6 = .ok (.aload_n 0, 1) := by decide +kernel
theorem dX2_unlikeOf_7 : decode cX2_unlikeOf 7 = .ok (.getfield 25, 3) := by decide +kernel
theorem dX2_unlikeOf_10 : decode cX2_unlikeOf 10 = .ok (.iload_n 1, 1) := by decide +kernel
theorem dX2_unlikeOf_11 : decode cX2_unlikeOf 11 = .ok (.aload_n 0, 1) := by decide +kernel
theorem dX2_unlikeOf_12 : decode cX2_unlikeOf 12 = .ok (.getfield 28, 3) := by decide +kernel
theorem dX2_unlikeOf_15 : decode cX2_unlikeOf 15 = .ok (.invokestatic 68, 3) := by decide +kernel
theorem dX2_unlikeOf_18 : decode cX2_unlikeOf 18 = .ok (.imul, 1) := by decide +kernel
theorem dX2_unlikeOf_19 : decode cX2_unlikeOf 19 = .ok (.istore_n 2, 1) := by decide +kernel
theorem dX2_unlikeOf_20 : decode cX2_unlikeOf 20 = .ok (.iload_n 1, 1) := by decide +kernel
theorem dX2_unlikeOf_21 : decode cX2_unlikeOf 21 = .ok (.aload_n 0, 1) := by decide +kernel
theorem dX2_unlikeOf_22 : decode cX2_unlikeOf 22 = .ok (.getfield 28, 3) := by decide +kernel
theorem dX2_unlikeOf_25 : decode cX2_unlikeOf 25 = .ok (.if_icmp .le 24, 3) := by decide +kernel
theorem dX2_unlikeOf_28 : decode cX2_unlikeOf 28 = .ok (.aload_n 0, 1) := by decide +kernel
theorem dX2_unlikeOf_29 : decode cX2_unlikeOf 29 = .ok (.getfield 31, 3) := by decide +kernel
theorem dX2_unlikeOf_32 : decode cX2_unlikeOf 32 = .ok (.iload_n 1, 1) := by decide +kernel
theorem dX2_unlikeOf_33 : decode cX2_unlikeOf 33 = .ok (.aload_n 0, 1) := by decide +kernel
theorem dX2_unlikeOf_34 : decode cX2_unlikeOf 34 = .ok (.getfield 34, 3) := by decide +kernel
theorem dX2_unlikeOf_37 : decode cX2_unlikeOf 37 = .ok (.invokestatic 68, 3) := by decide +kernel
theorem dX2_unlikeOf_40 : decode cX2_unlikeOf 40 = .ok (.aload_n 0, 1) := by decide +kernel
theorem dX2_unlikeOf_41 : decode cX2_unlikeOf 41 = .ok (.getfield 28, 3) := by decide +kernel
theorem dX2_unlikeOf_44 : decode cX2_unlikeOf 44 = .ok (.isub, 1) := by decide +kernel
theorem dX2_unlikeOf_45 : decode cX2_unlikeOf 45 = .ok (.imul, 1) := by decide +kernel
theorem dX2_unlikeOf_46 : decode cX2_unlikeOf 46 = .ok (.goto 4, 3) := by decide +kernel
theorem dX2_unlikeOf_49 : decode cX2_unlikeOf 49 = .ok (.iconst 0, 1) := by decide +kernel
theorem dX2_unlikeOf_50 : decode cX2_unlikeOf 50 = .ok (.istore_n 3, 1) := by decide +kernel
theorem dX2_unlikeOf_51 : decode cX2_unlikeOf 51 = .ok (.aload_n 0, 1) := by decide +kernel
theorem dX2_unlikeOf_52 : decode cX2_unlikeOf 52 = .ok (.getfield 21, 3) := by decide +kernel
theorem dX2_unlikeOf_55 : decode cX2_unlikeOf 55 = .ok (.iload_n 2, 1) := by decide +kernel
theorem dX2_unlikeOf_56 : decode cX2_unlikeOf 56 = .ok (.iadd, 1) := by decide +kernel
theorem dX2_unlikeOf_57 : decode cX2_unlikeOf 57 = .ok (.iload_n 3, 1) := by decide +kernel
theorem dX2_unlikeOf_58 : decode cX2_unlikeOf 58 = .ok (.iadd, 1) := by decide +kernel
theorem dX2_unlikeOf_59 : decode cX2_unlikeOf 59 = .ok (.ireturn, 1) := by decide +kernel
theorem dX2_unlikeApart_0 : decode cX2_unlikeApart 0 = .ok (.aload_n 0, 1) := by decide +kernel
theorem dX2_unlikeApart_1 : decode cX2_unlikeApart 1 = .ok (.aload_n 0, 1) := by decide +kernel
theorem dX2_unlikeApart_2 : decode cX2_unlikeApart 2 = .ok (.iload_n 1, 1) := by decide +kernel
theorem dX2_unlikeApart_3 : decode cX2_unlikeApart 3 = .ok (.iload_n 2, 1) := by decide +kernel
theorem dX2_unlikeApart_4 : decode cX2_unlikeApart 4 = .ok (.invokevirtual 71, 3) := by decide +kernel
theorem dX2_unlikeApart_7 : decode cX2_unlikeApart 7 = .ok (.invokevirtual 74, 3) := by decide +kernel
theorem dX2_unlikeApart_10 : decode cX2_unlikeApart 10 = .ok (.ireturn, 1) := by decide +kernel
theorem dX2_quarterOf_0 : decode cX2_quarterOf 0 = .ok (.aload_n 0, 1) := by decide +kernel
theorem dX2_quarterOf_1 : decode cX2_quarterOf 1 = .ok (.getfield 15, 3) := by decide +kernel
theorem dX2_quarterOf_4 : decode cX2_quarterOf 4 = .ok (.iload_n 1, 1) := by decide +kernel
theorem dX2_quarterOf_5 : decode cX2_quarterOf 5 = .ok (.iaload, 1) := by decide +kernel
theorem dX2_quarterOf_6 : decode cX2_quarterOf 6 = .ok (.iload_n 3, 1) := by decide +kernel
theorem dX2_quarterOf_7 : decode cX2_quarterOf 7 = .ok (.if_icmp .lt 19, 3) := by decide +kernel
theorem dX2_quarterOf_10 : decode cX2_quarterOf 10 = .ok (.aload_n 0, 1) := by decide +kernel
theorem dX2_quarterOf_11 : decode cX2_quarterOf 11 = .ok (.getfield 9, 3) := by decide +kernel
theorem dX2_quarterOf_14 : decode cX2_quarterOf 14 = .ok (.iload_n 1, 1) := by decide +kernel
theorem dX2_quarterOf_15 : decode cX2_quarterOf 15 = .ok (.iaload, 1) := by decide +kernel
theorem dX2_quarterOf_16 : decode cX2_quarterOf 16 = .ok (.iload_n 2, 1) := by decide +kernel
theorem dX2_quarterOf_17 : decode cX2_quarterOf 17 = .ok (.if_icmp .lt 7, 3) := by decide +kernel
theorem dX2_quarterOf_20 : decode cX2_quarterOf 20 = .ok (.iconst 0, 1) := by decide +kernel
theorem dX2_quarterOf_21 : decode cX2_quarterOf 21 = .ok (.goto 4, 3) := by decide +kernel
theorem dX2_quarterOf_24 : decode cX2_quarterOf 24 = .ok (.iconst 1, 1) := by decide +kernel
theorem dX2_quarterOf_25 : decode cX2_quarterOf 25 = .ok (.ireturn, 1) := by decide +kernel
theorem dX2_quarterOf_26 : decode cX2_quarterOf 26 = .ok (.aload_n 0, 1) := by decide +kernel
theorem dX2_quarterOf_27 : decode cX2_quarterOf 27 = .ok (.getfield 9, 3) := by decide +kernel
theorem dX2_quarterOf_30 : decode cX2_quarterOf 30 = .ok (.iload_n 1, 1) := by decide +kernel
theorem dX2_quarterOf_31 : decode cX2_quarterOf 31 = .ok (.iaload, 1) := by decide +kernel
theorem dX2_quarterOf_32 : decode cX2_quarterOf 32 = .ok (.iload_n 2, 1) := by decide +kernel
theorem dX2_quarterOf_33 : decode cX2_quarterOf 33 = .ok (.if_icmp .lt 7, 3) := by decide +kernel
theorem dX2_quarterOf_36 : decode cX2_quarterOf 36 = .ok (.iconst 3, 1) := by decide +kernel
theorem dX2_quarterOf_37 : decode cX2_quarterOf 37 = .ok (.goto 4, 3) := by decide +kernel
theorem dX2_quarterOf_40 : decode cX2_quarterOf 40 = .ok (.iconst 2, 1) := by decide +kernel
theorem dX2_quarterOf_41 : decode cX2_quarterOf 41 = .ok (.ireturn, 1) := by decide +kernel
theorem dX3_init_0 : decode cX3_init 0 = .ok (.aload_n 0, 1) := by decide +kernel
theorem dX3_init_1 : decode cX3_init 1 = .ok (.invokespecial 3, 3) := by decide +kernel
theorem dX3_init_4 : decode cX3_init 4 = .ok (.aload_n 0, 1) := by decide +kernel
theorem dX3_init_5 : decode cX3_init 5 = .ok (.bipush 16, 2) := by decide +kernel
theorem dX3_init_7 : decode cX3_init 7 = .ok (.anewarray 9, 3) := by decide +kernel
theorem dX3_init_10 : decode cX3_init 10 = .ok (.putfield 11, 3) := by decide +kernel
theorem dX3_init_13 : decode cX3_init 13 = .ok (.iconst 0, 1) := by decide +kernel
theorem dX3_init_14 : decode cX3_init 14 = .ok (.istore_n 1, 1) := by decide +kernel
theorem dX3_init_15 : decode cX3_init 15 = .ok (.iload_n 1, 1) := by decide +kernel
theorem dX3_init_16 : decode cX3_init 16 = .ok (.bipush 16, 2) := by decide +kernel
theorem dX3_init_18 : decode cX3_init 18 = .ok (.if_icmp .ge 22, 3) := by decide +kernel
theorem dX3_init_21 : decode cX3_init 21 = .ok (.aload_n 0, 1) := by decide +kernel
theorem dX3_init_22 : decode cX3_init 22 = .ok (.getfield 11, 3) := by decide +kernel
theorem dX3_init_25 : decode cX3_init 25 = .ok (.iload_n 1, 1) := by decide +kernel
theorem dX3_init_26 : decode cX3_init 26 = .ok (.new 9, 3) := by decide +kernel
theorem dX3_init_29 : decode cX3_init 29 = .ok (.dup, 1) := by decide +kernel
theorem dX3_init_30 : decode cX3_init 30 = .ok (.invokespecial 17, 3) := by decide +kernel
theorem dX3_init_33 : decode cX3_init 33 = .ok (.aastore, 1) := by decide +kernel
theorem dX3_init_34 : decode cX3_init 34 = .ok (.iinc 1 1, 3) := by decide +kernel
theorem dX3_init_37 : decode cX3_init 37 = .ok (.goto (-22), 3) := by decide +kernel
theorem dX3_init_40 : decode cX3_init 40 = .ok (.return_, 1) := by decide +kernel
theorem dX3_remember_0 : decode cX3_remember 0 = .ok (.aload_n 0, 1) := by decide +kernel
theorem dX3_remember_1 : decode cX3_remember 1 = .ok (.getfield 11, 3) := by decide +kernel
theorem dX3_remember_4 : decode cX3_remember 4 = .ok (.aload_n 0, 1) := by decide +kernel
theorem dX3_remember_5 : decode cX3_remember 5 = .ok (.getfield 18, 3) := by decide +kernel
theorem dX3_remember_8 : decode cX3_remember 8 = .ok (.aaload, 1) := by decide +kernel
theorem dX3_remember_9 : decode cX3_remember 9 = .ok (.aload_n 1, 1) := by decide +kernel
theorem dX3_remember_10 : decode cX3_remember 10 = .ok (.invokevirtual 22, 3) := by decide +kernel
theorem dX3_remember_13 : decode cX3_remember 13 = .ok (.aload_n 0, 1) := by decide +kernel
theorem dX3_remember_14 : decode cX3_remember 14 = .ok (.aload_n 0, 1) := by decide +kernel
theorem dX3_remember_15 : decode cX3_remember 15 = .ok (.getfield 18, 3) := by decide +kernel
theorem dX3_remember_18 : decode cX3_remember 18 = .ok (.iconst 1, 1) := by decide +kernel
theorem dX3_remember_19 : decode cX3_remember 19 = .ok (.iadd, 1) := by decide +kernel
theorem dX3_remember_20 : decode cX3_remember 20 = .ok (.bipush 16, 2) := by decide +kernel
theorem dX3_remember_22 : decode cX3_remember 22 = .ok (.irem, 1) := by decide +kernel
theorem dX3_remember_23 : decode cX3_remember 23 = .ok (.putfield 18, 3) := by decide +kernel
theorem dX3_remember_26 : decode cX3_remember 26 = .ok (.aload_n 0, 1) := by decide +kernel
theorem dX3_remember_27 : decode cX3_remember 27 = .ok (.aload_n 0, 1) := by decide +kernel
theorem dX3_remember_28 : decode cX3_remember 28 = .ok (.getfield 26, 3) := by decide +kernel
theorem dX3_remember_31 : decode cX3_remember 31 = .ok (.iconst 1, 1) := by decide +kernel
theorem dX3_remember_32 : decode cX3_remember 32 = .ok (.iadd, 1) := by decide +kernel
theorem dX3_remember_33 : decode cX3_remember 33 = .ok (.bipush 16, 2) := by decide +kernel
theorem dX3_remember_35 : decode cX3_remember 35 = .ok (.invokestatic 29, 3) := by decide +kernel
theorem dX3_remember_38 : decode cX3_remember 38 = .ok (.putfield 26, 3) := by decide +kernel
theorem dX3_remember_41 : decode cX3_remember 41 = .ok (.return_, 1) := by decide +kernel
theorem dX3_bringBack_0 : decode cX3_bringBack 0 = .ok (.aload_n 0, 1) := by decide +kernel
theorem dX3_bringBack_1 : decode cX3_bringBack 1 = .ok (.aload_n 0, 1) := by decide +kernel
theorem dX3_bringBack_2 : decode cX3_bringBack 2 = .ok (.getfield 18, 3) := by decide +kernel
theorem dX3_bringBack_5 : decode cX3_bringBack 5 = .ok (.iload_n 1, 1) := by decide +kernel
theorem dX3_bringBack_6 : decode cX3_bringBack 6 = .ok (.isub, 1) := by decide +kernel
theorem dX3_bringBack_7 : decode cX3_bringBack 7 = .ok (.bipush 16, 2) := by decide +kernel
theorem dX3_bringBack_9 : decode cX3_bringBack 9 = .ok (.invokestatic 35, 3) := by decide +kernel
theorem dX3_bringBack_12 : decode cX3_bringBack 12 = .ok (.putfield 18, 3) := by decide +kernel
theorem dX3_bringBack_15 : decode cX3_bringBack 15 = .ok (.aload_n 0, 1) := by decide +kernel
theorem dX3_bringBack_16 : decode cX3_bringBack 16 = .ok (.dup, 1) := by decide +kernel
theorem dX3_bringBack_17 : decode cX3_bringBack 17 = .ok (.getfield 26, 3) := by decide +kernel
theorem dX3_bringBack_20 : decode cX3_bringBack 20 = .ok (.iload_n 1, 1) := by decide +kernel
theorem dX3_bringBack_21 : decode cX3_bringBack 21 = .ok (.isub, 1) := by decide +kernel
theorem dX3_bringBack_22 : decode cX3_bringBack 22 = .ok (.putfield 26, 3) := by decide +kernel
theorem dX3_bringBack_25 : decode cX3_bringBack 25 = .ok (.aload_n 2, 1) := by decide +kernel
theorem dX3_bringBack_26 : decode cX3_bringBack 26 = .ok (.aload_n 0, 1) := by decide +kernel
theorem dX3_bringBack_27 : decode cX3_bringBack 27 = .ok (.getfield 11, 3) := by decide +kernel
theorem dX3_bringBack_30 : decode cX3_bringBack 30 = .ok (.aload_n 0, 1) := by decide +kernel
theorem dX3_bringBack_31 : decode cX3_bringBack 31 = .ok (.getfield 18, 3) := by decide +kernel
theorem dX3_bringBack_34 : decode cX3_bringBack 34 = .ok (.aaload, 1) := by decide +kernel
theorem dX3_bringBack_35 : decode cX3_bringBack 35 = .ok (.invokevirtual 22, 3) := by decide +kernel
theorem dX3_bringBack_38 : decode cX3_bringBack 38 = .ok (.return_, 1) := by decide +kernel
theorem dX3_forget_0 : decode cX3_forget 0 = .ok (.aload_n 0, 1) := by decide +kernel
theorem dX3_forget_1 : decode cX3_forget 1 = .ok (.iconst 0, 1) := by decide +kernel
theorem dX3_forget_2 : decode cX3_forget 2 = .ok (.putfield 26, 3) := by decide +kernel
theorem dX3_forget_5 : decode cX3_forget 5 = .ok (.return_, 1) := by decide +kernel
theorem dX4_init_0 : decode cX4_init 0 = .ok (.aload_n 0, 1) := by decide +kernel
theorem dX4_init_1 : decode cX4_init 1 = .ok (.invokespecial 1, 3) := by decide +kernel
theorem dX4_init_4 : decode cX4_init 4 = .ok (.aload_n 0, 1) := by decide +kernel
theorem dX4_init_5 : decode cX4_init 5 = .ok (.new 7, 3) := by decide +kernel
theorem dX4_init_8 : decode cX4_init 8 = .ok (.dup, 1) := by decide +kernel
theorem dX4_init_9 : decode cX4_init 9 = .ok (.invokespecial 9, 3) := by decide +kernel
theorem dX4_init_12 : decode cX4_init 12 = .ok (.putfield 10, 3) := by decide +kernel
theorem dX4_init_15 : decode cX4_init 15 = .ok (.return_, 1) := by decide +kernel
theorem dX5_init_0 : decode cX5_init 0 = .ok (.aload_n 0, 1) := by decide +kernel
theorem dX5_init_1 : decode cX5_init 1 = .ok (.invokespecial 3, 3) := by decide +kernel
theorem dX5_init_4 : decode cX5_init 4 = .ok (.aload_n 0, 1) := by decide +kernel
theorem dX5_init_5 : decode cX5_init 5 = .ok (.new 9, 3) := by decide +kernel
theorem dX5_init_8 : decode cX5_init 8 = .ok (.dup, 1) := by decide +kernel
theorem dX5_init_9 : decode cX5_init 9 = .ok (.invokespecial 11, 3) := by decide +kernel
theorem dX5_init_12 : decode cX5_init 12 = .ok (.putfield 12, 3) := by decide +kernel
theorem dX5_init_15 : decode cX5_init 15 = .ok (.aload_n 0, 1) := by decide +kernel
theorem dX5_init_16 : decode cX5_init 16 = .ok (.new 16, 3) := by decide +kernel
theorem dX5_init_19 : decode cX5_init 19 = .ok (.dup, 1) := by decide +kernel
theorem dX5_init_20 : decode cX5_init 20 = .ok (.invokespecial 18, 3) := by decide +kernel
theorem dX5_init_23 : decode cX5_init 23 = .ok (.putfield 19, 3) := by decide +kernel
theorem dX5_init_26 : decode cX5_init 26 = .ok (.aload_n 0, 1) := by decide +kernel
theorem dX5_init_27 : decode cX5_init 27 = .ok (.iconst 2, 1) := by decide +kernel
theorem dX5_init_28 : decode cX5_init 28 = .ok (.anewarray 23, 3) := by decide +kernel
theorem dX5_init_31 : decode cX5_init 31 = .ok (.putfield 25, 3) := by decide +kernel
theorem dX5_init_34 : decode cX5_init 34 = .ok (.new 29, 3) := by decide +kernel
theorem dX5_init_37 : decode cX5_init 37 = .ok (.dup, 1) := by decide +kernel
theorem dX5_init_38 : decode cX5_init 38 = .ok (.invokespecial 31, 3) := by decide +kernel
theorem dX5_init_41 : decode cX5_init 41 = .ok (.astore_n 1, 1) := by decide +kernel
theorem dX5_init_42 : decode cX5_init 42 = .ok (.aload_n 0, 1) := by decide +kernel
theorem dX5_init_43 : decode cX5_init 43 = .ok (.aload_n 1, 1) := by decide +kernel
theorem dX5_init_44 : decode cX5_init 44 = .ok (.putfield 32, 3) := by decide +kernel
theorem dX5_init_47 : decode cX5_init 47 = .ok (.aload_n 0, 1) := by decide +kernel
theorem dX5_init_48 : decode cX5_init 48 = .ok (.new 36, 3) := by decide +kernel
theorem dX5_init_51 : decode cX5_init 51 = .ok (.dup, 1) := by decide +kernel
theorem dX5_init_52 : decode cX5_init 52 = .ok (.aload_n 1, 1) := by decide +kernel
theorem dX5_init_53 : decode cX5_init 53 = .ok (.invokespecial 38, 3) := by decide +kernel
theorem dX5_init_56 : decode cX5_init 56 = .ok (.putfield 41, 3) := by decide +kernel
theorem dX5_init_59 : decode cX5_init 59 = .ok (.iconst 0, 1) := by decide +kernel
theorem dX5_init_60 : decode cX5_init 60 = .ok (.istore_n 2, 1) := by decide +kernel
theorem dX5_init_61 : decode cX5_init 61 = .ok (.iload_n 2, 1) := by decide +kernel
theorem dX5_init_62 : decode cX5_init 62 = .ok (.iconst 2, 1) := by decide +kernel
theorem dX5_init_63 : decode cX5_init 63 = .ok (.if_icmp .ge 22, 3) := by decide +kernel
theorem dX5_init_66 : decode cX5_init 66 = .ok (.aload_n 0, 1) := by decide +kernel
theorem dX5_init_67 : decode cX5_init 67 = .ok (.getfield 25, 3) := by decide +kernel
theorem dX5_init_70 : decode cX5_init 70 = .ok (.iload_n 2, 1) := by decide +kernel
theorem dX5_init_71 : decode cX5_init 71 = .ok (.new 23, 3) := by decide +kernel
theorem dX5_init_74 : decode cX5_init 74 = .ok (.dup, 1) := by decide +kernel
theorem dX5_init_75 : decode cX5_init 75 = .ok (.invokespecial 45, 3) := by decide +kernel
theorem dX5_init_78 : decode cX5_init 78 = .ok (.aastore, 1) := by decide +kernel
theorem dX5_init_79 : decode cX5_init 79 = .ok (.iinc 2 1, 3) := by decide +kernel
theorem dX5_init_82 : decode cX5_init 82 = .ok (.goto (-21), 3) := by decide +kernel
theorem dX5_init_85 : decode cX5_init 85 = .ok (.return_, 1) := by decide +kernel
theorem dX5_told_0 : decode cX5_told 0 = .ok (.iload_n 1, 1) := by decide +kernel
theorem dX5_told_1 : decode cX5_told 1 = .ok (.tableswitch 195 0 15 #[79, 87, 95, 103, 111, 119, 127, 135, 143, 151, 159, 164, 169, 177, 182, 190], 79) := by decide +kernel
theorem dX5_told_80 : decode cX5_told 80 = .ok (.aload_n 0, 1) := by decide +kernel
theorem dX5_told_81 : decode cX5_told 81 = .ok (.getfield 32, 3) := by decide +kernel
theorem dX5_told_84 : decode cX5_told 84 = .ok (.getfield 46, 3) := by decide +kernel
theorem dX5_told_87 : decode cX5_told 87 = .ok (.ireturn, 1) := by decide +kernel
theorem dX5_told_88 : decode cX5_told 88 = .ok (.aload_n 0, 1) := by decide +kernel
theorem dX5_told_89 : decode cX5_told 89 = .ok (.getfield 32, 3) := by decide +kernel
theorem dX5_told_92 : decode cX5_told 92 = .ok (.getfield 50, 3) := by decide +kernel
theorem dX5_told_95 : decode cX5_told 95 = .ok (.ireturn, 1) := by decide +kernel
theorem dX5_told_96 : decode cX5_told 96 = .ok (.aload_n 0, 1) := by decide +kernel
theorem dX5_told_97 : decode cX5_told 97 = .ok (.getfield 32, 3) := by decide +kernel
theorem dX5_told_100 : decode cX5_told 100 = .ok (.getfield 53, 3) := by decide +kernel
theorem dX5_told_103 : decode cX5_told 103 = .ok (.ireturn, 1) := by decide +kernel
theorem dX5_told_104 : decode cX5_told 104 = .ok (.aload_n 0, 1) := by decide +kernel
theorem dX5_told_105 : decode cX5_told 105 = .ok (.getfield 32, 3) := by decide +kernel
theorem dX5_told_108 : decode cX5_told 108 = .ok (.getfield 56, 3) := by decide +kernel
theorem dX5_told_111 : decode cX5_told 111 = .ok (.ireturn, 1) := by decide +kernel
theorem dX5_told_112 : decode cX5_told 112 = .ok (.aload_n 0, 1) := by decide +kernel
theorem dX5_told_113 : decode cX5_told 113 = .ok (.getfield 32, 3) := by decide +kernel
theorem dX5_told_116 : decode cX5_told 116 = .ok (.getfield 59, 3) := by decide +kernel
theorem dX5_told_119 : decode cX5_told 119 = .ok (.ireturn, 1) := by decide +kernel
theorem dX5_told_120 : decode cX5_told 120 = .ok (.aload_n 0, 1) := by decide +kernel
theorem dX5_told_121 : decode cX5_told 121 = .ok (.getfield 32, 3) := by decide +kernel
theorem dX5_told_124 : decode cX5_told 124 = .ok (.getfield 62, 3) := by decide +kernel
theorem dX5_told_127 : decode cX5_told 127 = .ok (.ireturn, 1) := by decide +kernel
theorem dX5_told_128 : decode cX5_told 128 = .ok (.aload_n 0, 1) := by decide +kernel
theorem dX5_told_129 : decode cX5_told 129 = .ok (.getfield 32, 3) := by decide +kernel
theorem dX5_told_132 : decode cX5_told 132 = .ok (.getfield 65, 3) := by decide +kernel
theorem dX5_told_135 : decode cX5_told 135 = .ok (.ireturn, 1) := by decide +kernel
theorem dX5_told_136 : decode cX5_told 136 = .ok (.aload_n 0, 1) := by decide +kernel
theorem dX5_told_137 : decode cX5_told 137 = .ok (.getfield 32, 3) := by decide +kernel
theorem dX5_told_140 : decode cX5_told 140 = .ok (.getfield 68, 3) := by decide +kernel
theorem dX5_told_143 : decode cX5_told 143 = .ok (.ireturn, 1) := by decide +kernel
theorem dX5_told_144 : decode cX5_told 144 = .ok (.aload_n 0, 1) := by decide +kernel
theorem dX5_told_145 : decode cX5_told 145 = .ok (.getfield 32, 3) := by decide +kernel
theorem dX5_told_148 : decode cX5_told 148 = .ok (.getfield 71, 3) := by decide +kernel
theorem dX5_told_151 : decode cX5_told 151 = .ok (.ireturn, 1) := by decide +kernel
theorem dX5_told_152 : decode cX5_told 152 = .ok (.aload_n 0, 1) := by decide +kernel
theorem dX5_told_153 : decode cX5_told 153 = .ok (.getfield 32, 3) := by decide +kernel
theorem dX5_told_156 : decode cX5_told 156 = .ok (.getfield 74, 3) := by decide +kernel
theorem dX5_told_159 : decode cX5_told 159 = .ok (.ireturn, 1) := by decide +kernel
theorem dX5_told_160 : decode cX5_told 160 = .ok (.aload_n 0, 1) := by decide +kernel
theorem dX5_told_161 : decode cX5_told 161 = .ok (.invokevirtual 77, 3) := by decide +kernel
theorem dX5_told_164 : decode cX5_told 164 = .ok (.ireturn, 1) := by decide +kernel
theorem dX5_told_165 : decode cX5_told 165 = .ok (.aload_n 0, 1) := by decide +kernel
theorem dX5_told_166 : decode cX5_told 166 = .ok (.invokevirtual 81, 3) := by decide +kernel
theorem dX5_told_169 : decode cX5_told 169 = .ok (.ireturn, 1) := by decide +kernel
theorem dX5_told_170 : decode cX5_told 170 = .ok (.aload_n 0, 1) := by decide +kernel
theorem dX5_told_171 : decode cX5_told 171 = .ok (.getfield 19, 3) := by decide +kernel
theorem dX5_told_174 : decode cX5_told 174 = .ok (.getfield 84, 3) := by decide +kernel
theorem dX5_told_177 : decode cX5_told 177 = .ok (.ireturn, 1) := by decide +kernel
theorem dX5_told_178 : decode cX5_told 178 = .ok (.aload_n 0, 1) := by decide +kernel
theorem dX5_told_179 : decode cX5_told 179 = .ok (.invokevirtual 87, 3) := by decide +kernel
theorem dX5_told_182 : decode cX5_told 182 = .ok (.ireturn, 1) := by decide +kernel
theorem dX5_told_183 : decode cX5_told 183 = .ok (.aload_n 0, 1) := by decide +kernel
theorem dX5_told_184 : decode cX5_told 184 = .ok (.getfield 12, 3) := by decide +kernel
theorem dX5_told_187 : decode cX5_told 187 = .ok (.getfield 90, 3) := by decide +kernel
theorem dX5_told_190 : decode cX5_told 190 = .ok (.ireturn, 1) := by decide +kernel
theorem dX5_told_191 : decode cX5_told 191 = .ok (.aload_n 0, 1) := by decide +kernel
theorem dX5_told_192 : decode cX5_told 192 = .ok (.getfield 93, 3) := by decide +kernel
theorem dX5_told_195 : decode cX5_told 195 = .ok (.ireturn, 1) := by decide +kernel
theorem dX5_told_196 : decode cX5_told 196 = .ok (.ldc 96, 2) := by decide +kernel
theorem dX5_told_198 : decode cX5_told 198 = .ok (.ireturn, 1) := by decide +kernel
theorem dX5_at_0 : decode cX5_at 0 = .ok (.aload_n 0, 1) := by decide +kernel
theorem dX5_at_1 : decode cX5_at 1 = .ok (.iload_n 1, 1) := by decide +kernel
theorem dX5_at_2 : decode cX5_at 2 = .ok (.invokevirtual 97, 3) := by decide +kernel
theorem dX5_at_5 : decode cX5_at 5 = .ok (.ifCond .ne 6, 3) := by decide +kernel
theorem dX5_at_8 : decode cX5_at 8 = .ok (.ldc 101, 2) := by decide +kernel
theorem dX5_at_10 : decode cX5_at 10 = .ok (.ireturn, 1) := by decide +kernel
theorem dX5_at_11 : decode cX5_at 11 = .ok (.iload_n 2, 1) := by decide +kernel
theorem dX5_at_12 : decode cX5_at 12 = .ok (.tableswitch 58 0 2 #[28, 38, 48], 28) := by decide +kernel
theorem dX5_at_40 : decode cX5_at 40 = .ok (.aload_n 0, 1) := by decide +kernel
theorem dX5_at_41 : decode cX5_at 41 = .ok (.getfield 32, 3) := by decide +kernel
theorem dX5_at_44 : decode cX5_at 44 = .ok (.getfield 102, 3) := by decide +kernel
theorem dX5_at_47 : decode cX5_at 47 = .ok (.iload_n 1, 1) := by decide +kernel
theorem dX5_at_48 : decode cX5_at 48 = .ok (.iaload, 1) := by decide +kernel
theorem dX5_at_49 : decode cX5_at 49 = .ok (.ireturn, 1) := by decide +kernel
theorem dX5_at_50 : decode cX5_at 50 = .ok (.aload_n 0, 1) := by decide +kernel
theorem dX5_at_51 : decode cX5_at 51 = .ok (.getfield 32, 3) := by decide +kernel
theorem dX5_at_54 : decode cX5_at 54 = .ok (.getfield 106, 3) := by decide +kernel
theorem dX5_at_57 : decode cX5_at 57 = .ok (.iload_n 1, 1) := by decide +kernel
theorem dX5_at_58 : decode cX5_at 58 = .ok (.iaload, 1) := by decide +kernel
theorem dX5_at_59 : decode cX5_at 59 = .ok (.ireturn, 1) := by decide +kernel
theorem dX5_at_60 : decode cX5_at 60 = .ok (.aload_n 0, 1) := by decide +kernel
theorem dX5_at_61 : decode cX5_at 61 = .ok (.getfield 32, 3) := by decide +kernel
theorem dX5_at_64 : decode cX5_at 64 = .ok (.getfield 109, 3) := by decide +kernel
theorem dX5_at_67 : decode cX5_at 67 = .ok (.iload_n 1, 1) := by decide +kernel
theorem dX5_at_68 : decode cX5_at 68 = .ok (.iaload, 1) := by decide +kernel
theorem dX5_at_69 : decode cX5_at 69 = .ok (.ireturn, 1) := by decide +kernel
theorem dX5_at_70 : decode cX5_at 70 = .ok (.ldc 96, 2) := by decide +kernel
theorem dX5_at_72 : decode cX5_at 72 = .ok (.ireturn, 1) := by decide +kernel
theorem dX5_unlike_0 : decode cX5_unlike 0 = .ok (.iload_n 1, 1) := by decide +kernel
theorem dX5_unlike_1 : decode cX5_unlike 1 = .ok (.iconst 0, 1) := by decide +kernel
theorem dX5_unlike_2 : decode cX5_unlike 2 = .ok (.bipush 62, 2) := by decide +kernel
theorem dX5_unlike_4 : decode cX5_unlike 4 = .ok (.invokestatic 112, 3) := by decide +kernel
theorem dX5_unlike_7 : decode cX5_unlike 7 = .ok (.ifCond .eq 14, 3) := by decide +kernel
theorem dX5_unlike_10 : decode cX5_unlike 10 = .ok (.aload_n 0, 1) := by decide +kernel
theorem dX5_unlike_11 : decode cX5_unlike 11 = .ok (.getfield 32, 3) := by decide +kernel
theorem dX5_unlike_14 : decode cX5_unlike 14 = .ok (.iload_n 1, 1) := by decide +kernel
theorem dX5_unlike_15 : decode cX5_unlike 15 = .ok (.invokevirtual 116, 3) := by decide +kernel
theorem dX5_unlike_18 : decode cX5_unlike 18 = .ok (.goto 5, 3) := by decide +kernel
theorem dX5_unlike_21 : decode cX5_unlike 21 = .ok (.ldc 96, 2) := by decide +kernel
theorem dX5_unlike_23 : decode cX5_unlike 23 = .ok (.ireturn, 1) := by decide +kernel
theorem dX5_place_0 : decode cX5_place 0 = .ok (.iload_n 1, 1) := by decide +kernel
theorem dX5_place_1 : decode cX5_place 1 = .ok (.iload_n 2, 1) := by decide +kernel
theorem dX5_place_2 : decode cX5_place 2 = .ok (.invokestatic 120, 3) := by decide +kernel
theorem dX5_place_5 : decode cX5_place 5 = .ok (.ifCond .eq 12, 3) := by decide +kernel
theorem dX5_place_8 : decode cX5_place 8 = .ok (.iload_n 3, 1) := by decide +kernel
theorem dX5_place_9 : decode cX5_place 9 = .ok (.iconst 0, 1) := by decide +kernel
theorem dX5_place_10 : decode cX5_place 10 = .ok (.iconst 5, 1) := by decide +kernel
theorem dX5_place_11 : decode cX5_place 11 = .ok (.invokestatic 112, 3) := by decide +kernel
theorem dX5_place_14 : decode cX5_place 14 = .ok (.ifCond .ne 6, 3) := by decide +kernel
theorem dX5_place_17 : decode cX5_place 17 = .ok (.ldc 96, 2) := by decide +kernel
theorem dX5_place_19 : decode cX5_place 19 = .ok (.ireturn, 1) := by decide +kernel
theorem dX5_place_20 : decode cX5_place 20 = .ok (.iload_n 3, 1) := by decide +kernel
theorem dX5_place_21 : decode cX5_place 21 = .ok (.ifCond .ne 13, 3) := by decide +kernel
theorem dX5_place_24 : decode cX5_place 24 = .ok (.aload_n 0, 1) := by decide +kernel
theorem dX5_place_25 : decode cX5_place 25 = .ok (.getfield 32, 3) := by decide +kernel
theorem dX5_place_28 : decode cX5_place 28 = .ok (.iload_n 1, 1) := by decide +kernel
theorem dX5_place_29 : decode cX5_place 29 = .ok (.iload_n 2, 1) := by decide +kernel
theorem dX5_place_30 : decode cX5_place 30 = .ok (.invokevirtual 124, 3) := by decide +kernel
theorem dX5_place_33 : decode cX5_place 33 = .ok (.ireturn, 1) := by decide +kernel
theorem dX5_place_34 : decode cX5_place 34 = .ok (.aload_n 0, 1) := by decide +kernel
theorem dX5_place_35 : decode cX5_place 35 = .ok (.getfield 41, 3) := by decide +kernel
theorem dX5_place_38 : decode cX5_place 38 = .ok (.iload_n 1, 1) := by decide +kernel
theorem dX5_place_39 : decode cX5_place 39 = .ok (.iload_n 2, 1) := by decide +kernel
theorem dX5_place_40 : decode cX5_place 40 = .ok (.iconst 1, 1) := by decide +kernel
theorem dX5_place_41 : decode cX5_place 41 = .ok (.iconst (-1), 1) := by decide +kernel
theorem dX5_place_42 : decode cX5_place 42 = .ok (.invokevirtual 128, 3) := by decide +kernel
theorem dX5_place_45 : decode cX5_place 45 = .ok (.iload_n 3, 1) := by decide +kernel
theorem dX5_place_46 : decode cX5_place 46 = .ok (.tableswitch 78 1 4 #[30, 38, 46, 62], 30) := by decide +kernel
theorem dX5_place_76 : decode cX5_place 76 = .ok (.aload_n 0, 1) := by decide +kernel
theorem dX5_place_77 : decode cX5_place 77 = .ok (.getfield 41, 3) := by decide +kernel
theorem dX5_place_80 : decode cX5_place 80 = .ok (.getfield 132, 3) := by decide +kernel
theorem dX5_place_83 : decode cX5_place 83 = .ok (.ireturn, 1) := by decide +kernel
theorem dX5_place_84 : decode cX5_place 84 = .ok (.aload_n 0, 1) := by decide +kernel
theorem dX5_place_85 : decode cX5_place 85 = .ok (.getfield 41, 3) := by decide +kernel
theorem dX5_place_88 : decode cX5_place 88 = .ok (.invokevirtual 135, 3) := by decide +kernel
theorem dX5_place_91 : decode cX5_place 91 = .ok (.ireturn, 1) := by decide +kernel
theorem dX5_place_92 : decode cX5_place 92 = .ok (.aload_n 0, 1) := by decide +kernel
theorem dX5_place_93 : decode cX5_place 93 = .ok (.getfield 41, 3) := by decide +kernel
theorem dX5_place_96 : decode cX5_place 96 = .ok (.invokevirtual 138, 3) := by decide +kernel
theorem dX5_place_99 : decode cX5_place 99 = .ok (.ifCond .eq 7, 3) := by decide +kernel
theorem dX5_place_102 : decode cX5_place 102 = .ok (.iconst 1, 1) := by decide +kernel
theorem dX5_place_103 : decode cX5_place 103 = .ok (.goto 4, 3) := by decide +kernel
theorem dX5_place_106 : decode cX5_place 106 = .ok (.iconst 0, 1) := by decide +kernel
theorem dX5_place_107 : decode cX5_place 107 = .ok (.ireturn, 1) := by decide +kernel
theorem dX5_place_108 : decode cX5_place 108 = .ok (.aload_n 0, 1) := by decide +kernel
theorem dX5_place_109 : decode cX5_place 109 = .ok (.getfield 41, 3) := by decide +kernel
theorem dX5_place_112 : decode cX5_place 112 = .ok (.getfield 142, 3) := by decide +kernel
theorem dX5_place_115 : decode cX5_place 115 = .ok (.ifCond .eq 7, 3) := by decide +kernel
theorem dX5_place_118 : decode cX5_place 118 = .ok (.iconst 1, 1) := by decide +kernel
theorem dX5_place_119 : decode cX5_place 119 = .ok (.goto 4, 3) := by decide +kernel
theorem dX5_place_122 : decode cX5_place 122 = .ok (.iconst 0, 1) := by decide +kernel
theorem dX5_place_123 : decode cX5_place 123 = .ok (.ireturn, 1) := by decide +kernel
theorem dX5_place_124 : decode cX5_place 124 = .ok (.aload_n 0, 1) := by decide +kernel
theorem dX5_place_125 : decode cX5_place 125 = .ok (.getfield 41, 3) := by decide +kernel
theorem dX5_place_128 : decode cX5_place 128 = .ok (.invokevirtual 146, 3) := by decide +kernel
theorem dX5_place_131 : decode cX5_place 131 = .ok (.ireturn, 1) := by decide +kernel
theorem dX5_looked_0 : decode cX5_looked 0 = .ok (.iload_n 1, 1) := by decide +kernel
theorem dX5_looked_1 : decode cX5_looked 1 = .ok (.iload_n 2, 1) := by decide +kernel
theorem dX5_looked_2 : decode cX5_looked 2 = .ok (.invokestatic 120, 3) := by decide +kernel
theorem dX5_looked_5 : decode cX5_looked 5 = .ok (.ifCond .eq 12, 3) := by decide +kernel
theorem dX5_looked_8 : decode cX5_looked 8 = .ok (.iload_n 3, 1) := by decide +kernel
theorem dX5_looked_9 : decode cX5_looked 9 = .ok (.iconst 0, 1) := by decide +kernel
theorem dX5_looked_10 : decode cX5_looked 10 = .ok (.iconst 3, 1) := by decide +kernel
theorem dX5_looked_11 : decode cX5_looked 11 = .ok (.invokestatic 112, 3) := by decide +kernel
theorem dX5_looked_14 : decode cX5_looked 14 = .ok (.ifCond .ne 6, 3) := by decide +kernel
theorem dX5_looked_17 : decode cX5_looked 17 = .ok (.ldc 96, 2) := by decide +kernel
theorem dX5_looked_19 : decode cX5_looked 19 = .ok (.ireturn, 1) := by decide +kernel
theorem dX5_looked_20 : decode cX5_looked 20 = .ok (.aload_n 0, 1) := by decide +kernel
theorem dX5_looked_21 : decode cX5_looked 21 = .ok (.getfield 41, 3) := by decide +kernel
theorem dX5_looked_24 : decode cX5_looked 24 = .ok (.iload_n 1, 1) := by decide +kernel
theorem dX5_looked_25 : decode cX5_looked 25 = .ok (.iload_n 2, 1) := by decide +kernel
theorem dX5_looked_26 : decode cX5_looked 26 = .ok (.iconst (-1), 1) := by decide +kernel
theorem dX5_looked_27 : decode cX5_looked 27 = .ok (.invokevirtual 149, 3) := by decide +kernel
theorem dX5_looked_30 : decode cX5_looked 30 = .ok (.iload_n 3, 1) := by decide +kernel
theorem dX5_looked_31 : decode cX5_looked 31 = .ok (.aload_n 0, 1) := by decide +kernel
theorem dX5_looked_32 : decode cX5_looked 32 = .ok (.getfield 41, 3) := by decide +kernel
theorem dX5_looked_35 : decode cX5_looked 35 = .ok (.getfield 132, 3) := by decide +kernel
theorem dX5_looked_38 : decode cX5_looked 38 = .ok (.if_icmp .ge 15, 3) := by decide +kernel
theorem dX5_looked_41 : decode cX5_looked 41 = .ok (.aload_n 0, 1) := by decide +kernel
theorem dX5_looked_42 : decode cX5_looked 42 = .ok (.getfield 41, 3) := by decide +kernel
theorem dX5_looked_45 : decode cX5_looked 45 = .ok (.getfield 153, 3) := by decide +kernel
theorem dX5_looked_48 : decode cX5_looked 48 = .ok (.iload_n 3, 1) := by decide +kernel
theorem dX5_looked_49 : decode cX5_looked 49 = .ok (.iaload, 1) := by decide +kernel
theorem dX5_looked_50 : decode cX5_looked 50 = .ok (.goto 4, 3) := by decide +kernel
theorem dX5_looked_53 : decode cX5_looked 53 = .ok (.iconst (-1), 1) := by decide +kernel
theorem dX5_looked_54 : decode cX5_looked 54 = .ok (.ireturn, 1) := by decide +kernel
theorem dX5_guess_0 : decode cX5_guess 0 = .ok (.iload_n 1, 1) := by decide +kernel
theorem dX5_guess_1 : decode cX5_guess 1 = .ok (.iload_n 2, 1) := by decide +kernel
theorem dX5_guess_2 : decode cX5_guess 2 = .ok (.invokestatic 120, 3) := by decide +kernel
theorem dX5_guess_5 : decode cX5_guess 5 = .ok (.ifCond .eq 12, 3) := by decide +kernel
theorem dX5_guess_8 : decode cX5_guess 8 = .ok (.iload_n 3, 1) := by decide +kernel
theorem dX5_guess_9 : decode cX5_guess 9 = .ok (.iconst 0, 1) := by decide +kernel
theorem dX5_guess_10 : decode cX5_guess 10 = .ok (.iconst 5, 1) := by decide +kernel
theorem dX5_guess_11 : decode cX5_guess 11 = .ok (.invokestatic 112, 3) := by decide +kernel
theorem dX5_guess_14 : decode cX5_guess 14 = .ok (.ifCond .ne 7, 3) := by decide +kernel
theorem dX5_guess_17 : decode cX5_guess 17 = .ok (.ldc2_w 156, 3) := by decide +kernel
theorem dX5_guess_20 : decode cX5_guess 20 = .ok (.lreturn, 1) := by decide +kernel
theorem dX5_guess_21 : decode cX5_guess 21 = .ok (.aload_n 0, 1) := by decide +kernel
theorem dX5_guess_22 : decode cX5_guess 22 = .ok (.getfield 41, 3) := by decide +kernel
theorem dX5_guess_25 : decode cX5_guess 25 = .ok (.iload_n 1, 1) := by decide +kernel
theorem dX5_guess_26 : decode cX5_guess 26 = .ok (.iload_n 2, 1) := by decide +kernel
theorem dX5_guess_27 : decode cX5_guess 27 = .ok (.iconst 1, 1) := by decide +kernel
theorem dX5_guess_28 : decode cX5_guess 28 = .ok (.iconst (-1), 1) := by decide +kernel
theorem dX5_guess_29 : decode cX5_guess 29 = .ok (.invokevirtual 128, 3) := by decide +kernel
theorem dX5_guess_32 : decode cX5_guess 32 = .ok (.aload_n 0, 1) := by decide +kernel
theorem dX5_guess_33 : decode cX5_guess 33 = .ok (.getfield 41, 3) := by decide +kernel
theorem dX5_guess_36 : decode cX5_guess 36 = .ok (.invokevirtual 138, 3) := by decide +kernel
theorem dX5_guess_39 : decode cX5_guess 39 = .ok (.ifCond .eq 14, 3) := by decide +kernel
theorem dX5_guess_42 : decode cX5_guess 42 = .ok (.aload_n 0, 1) := by decide +kernel
theorem dX5_guess_43 : decode cX5_guess 43 = .ok (.getfield 41, 3) := by decide +kernel
theorem dX5_guess_46 : decode cX5_guess 46 = .ok (.iload_n 3, 1) := by decide +kernel
theorem dX5_guess_47 : decode cX5_guess 47 = .ok (.invokevirtual 158, 3) := by decide +kernel
theorem dX5_guess_50 : decode cX5_guess 50 = .ok (.goto 6, 3) := by decide +kernel
theorem dX5_guess_53 : decode cX5_guess 53 = .ok (.ldc2_w 162, 3) := by decide +kernel
theorem dX5_guess_56 : decode cX5_guess 56 = .ok (.lreturn, 1) := by decide +kernel
theorem dX5_weight_0 : decode cX5_weight 0 = .ok (.iload_n 1, 1) := by decide +kernel
theorem dX5_weight_1 : decode cX5_weight 1 = .ok (.iload_n 2, 1) := by decide +kernel
theorem dX5_weight_2 : decode cX5_weight 2 = .ok (.invokestatic 120, 3) := by decide +kernel
theorem dX5_weight_5 : decode cX5_weight 5 = .ok (.ifCond .eq 22, 3) := by decide +kernel
theorem dX5_weight_8 : decode cX5_weight 8 = .ok (.iload_n 3, 1) := by decide +kernel
theorem dX5_weight_9 : decode cX5_weight 9 = .ok (.iconst 0, 1) := by decide +kernel
theorem dX5_weight_10 : decode cX5_weight 10 = .ok (.iconst 3, 1) := by decide +kernel
theorem dX5_weight_11 : decode cX5_weight 11 = .ok (.invokestatic 112, 3) := by decide +kernel
theorem dX5_weight_14 : decode cX5_weight 14 = .ok (.ifCond .eq 13, 3) := by decide +kernel
theorem dX5_weight_17 : decode cX5_weight 17 = .ok (.iload 4, 2) := by decide +kernel
theorem dX5_weight_19 : decode cX5_weight 19 = .ok (.iconst 0, 1) := by decide +kernel
theorem dX5_weight_20 : decode cX5_weight 20 = .ok (.iconst 1, 1) := by decide +kernel
theorem dX5_weight_21 : decode cX5_weight 21 = .ok (.invokestatic 112, 3) := by decide +kernel
theorem dX5_weight_24 : decode cX5_weight 24 = .ok (.ifCond .ne 7, 3) := by decide +kernel
theorem dX5_weight_27 : decode cX5_weight 27 = .ok (.ldc2_w 156, 3) := by decide +kernel
theorem dX5_weight_30 : decode cX5_weight 30 = .ok (.lreturn, 1) := by decide +kernel
theorem dX5_weight_31 : decode cX5_weight 31 = .ok (.aload_n 0, 1) := by decide +kernel
theorem dX5_weight_32 : decode cX5_weight 32 = .ok (.getfield 41, 3) := by decide +kernel
theorem dX5_weight_35 : decode cX5_weight 35 = .ok (.iload_n 1, 1) := by decide +kernel
theorem dX5_weight_36 : decode cX5_weight 36 = .ok (.iload_n 2, 1) := by decide +kernel
theorem dX5_weight_37 : decode cX5_weight 37 = .ok (.iconst 1, 1) := by decide +kernel
theorem dX5_weight_38 : decode cX5_weight 38 = .ok (.iconst (-1), 1) := by decide +kernel
theorem dX5_weight_39 : decode cX5_weight 39 = .ok (.invokevirtual 128, 3) := by decide +kernel
theorem dX5_weight_42 : decode cX5_weight 42 = .ok (.aload_n 0, 1) := by decide +kernel
theorem dX5_weight_43 : decode cX5_weight 43 = .ok (.getfield 41, 3) := by decide +kernel
theorem dX5_weight_46 : decode cX5_weight 46 = .ok (.invokevirtual 138, 3) := by decide +kernel
theorem dX5_weight_49 : decode cX5_weight 49 = .ok (.ifCond .eq 14, 3) := by decide +kernel
theorem dX5_weight_52 : decode cX5_weight 52 = .ok (.iload_n 3, 1) := by decide +kernel
theorem dX5_weight_53 : decode cX5_weight 53 = .ok (.aload_n 0, 1) := by decide +kernel
theorem dX5_weight_54 : decode cX5_weight 54 = .ok (.getfield 41, 3) := by decide +kernel
theorem dX5_weight_57 : decode cX5_weight 57 = .ok (.getfield 132, 3) := by decide +kernel
theorem dX5_weight_60 : decode cX5_weight 60 = .ok (.if_icmp .lt 7, 3) := by decide +kernel
theorem dX5_weight_63 : decode cX5_weight 63 = .ok (.ldc2_w 162, 3) := by decide +kernel
theorem dX5_weight_66 : decode cX5_weight 66 = .ok (.lreturn, 1) := by decide +kernel
theorem dX5_weight_67 : decode cX5_weight 67 = .ok (.aload_n 0, 1) := by decide +kernel
theorem dX5_weight_68 : decode cX5_weight 68 = .ok (.getfield 41, 3) := by decide +kernel
theorem dX5_weight_71 : decode cX5_weight 71 = .ok (.getfield 164, 3) := by decide +kernel
theorem dX5_weight_74 : decode cX5_weight 74 = .ok (.iload_n 3, 1) := by decide +kernel
theorem dX5_weight_75 : decode cX5_weight 75 = .ok (.laload, 1) := by decide +kernel
theorem dX5_weight_76 : decode cX5_weight 76 = .ok (.aload_n 0, 1) := by decide +kernel
theorem dX5_weight_77 : decode cX5_weight 77 = .ok (.getfield 41, 3) := by decide +kernel
theorem dX5_weight_80 : decode cX5_weight 80 = .ok (.invokevirtual 168, 3) := by decide +kernel
theorem dX5_weight_83 : decode cX5_weight 83 = .ok (.iload 4, 2) := by decide +kernel
theorem dX5_weight_85 : decode cX5_weight 85 = .ok (.invokestatic 172, 3) := by decide +kernel
theorem dX5_weight_88 : decode cX5_weight 88 = .ok (.lreturn, 1) := by decide +kernel
theorem dX5_block_0 : decode cX5_block 0 = .ok (.iload_n 1, 1) := by decide +kernel
theorem dX5_block_1 : decode cX5_block 1 = .ok (.iconst 0, 1) := by decide +kernel
theorem dX5_block_2 : decode cX5_block 2 = .ok (.bipush 30, 2) := by decide +kernel
theorem dX5_block_4 : decode cX5_block 4 = .ok (.invokestatic 112, 3) := by decide +kernel
theorem dX5_block_7 : decode cX5_block 7 = .ok (.ifCond .eq 22, 3) := by decide +kernel
theorem dX5_block_10 : decode cX5_block 10 = .ok (.iload_n 2, 1) := by decide +kernel
theorem dX5_block_11 : decode cX5_block 11 = .ok (.iconst 0, 1) := by decide +kernel
theorem dX5_block_12 : decode cX5_block 12 = .ok (.bipush 30, 2) := by decide +kernel
theorem dX5_block_14 : decode cX5_block 14 = .ok (.invokestatic 112, 3) := by decide +kernel
theorem dX5_block_17 : decode cX5_block 17 = .ok (.ifCond .eq 12, 3) := by decide +kernel
theorem dX5_block_20 : decode cX5_block 20 = .ok (.iload_n 3, 1) := by decide +kernel
theorem dX5_block_21 : decode cX5_block 21 = .ok (.iconst 0, 1) := by decide +kernel
theorem dX5_block_22 : decode cX5_block 22 = .ok (.iconst 3, 1) := by decide +kernel
theorem dX5_block_23 : decode cX5_block 23 = .ok (.invokestatic 112, 3) := by decide +kernel
theorem dX5_block_26 : decode cX5_block 26 = .ok (.ifCond .ne 7, 3) := by decide +kernel
theorem dX5_block_29 : decode cX5_block 29 = .ok (.ldc2_w 156, 3) := by decide +kernel
theorem dX5_block_32 : decode cX5_block 32 = .ok (.lreturn, 1) := by decide +kernel
theorem dX5_block_33 : decode cX5_block 33 = .ok (.aload_n 0, 1) := by decide +kernel
theorem dX5_block_34 : decode cX5_block 34 = .ok (.getfield 41, 3) := by decide +kernel
theorem dX5_block_37 : decode cX5_block 37 = .ok (.iload_n 1, 1) := by decide +kernel
theorem dX5_block_38 : decode cX5_block 38 = .ok (.iload_n 2, 1) := by decide +kernel
theorem dX5_block_39 : decode cX5_block 39 = .ok (.iconst 4, 1) := by decide +kernel
theorem dX5_block_40 : decode cX5_block 40 = .ok (.iconst (-1), 1) := by decide +kernel
theorem dX5_block_41 : decode cX5_block 41 = .ok (.invokevirtual 128, 3) := by decide +kernel
theorem dX5_block_44 : decode cX5_block 44 = .ok (.aload_n 0, 1) := by decide +kernel
theorem dX5_block_45 : decode cX5_block 45 = .ok (.getfield 41, 3) := by decide +kernel
theorem dX5_block_48 : decode cX5_block 48 = .ok (.invokevirtual 138, 3) := by decide +kernel
theorem dX5_block_51 : decode cX5_block 51 = .ok (.ifCond .eq 14, 3) := by decide +kernel
theorem dX5_block_54 : decode cX5_block 54 = .ok (.aload_n 0, 1) := by decide +kernel
theorem dX5_block_55 : decode cX5_block 55 = .ok (.getfield 41, 3) := by decide +kernel
theorem dX5_block_58 : decode cX5_block 58 = .ok (.iload_n 3, 1) := by decide +kernel
theorem dX5_block_59 : decode cX5_block 59 = .ok (.invokevirtual 158, 3) := by decide +kernel
theorem dX5_block_62 : decode cX5_block 62 = .ok (.goto 6, 3) := by decide +kernel
theorem dX5_block_65 : decode cX5_block 65 = .ok (.ldc2_w 162, 3) := by decide +kernel
theorem dX5_block_68 : decode cX5_block 68 = .ok (.lreturn, 1) := by decide +kernel
theorem dX5_error_0 : decode cX5_error 0 = .ok (.aload_n 0, 1) := by decide +kernel
theorem dX5_error_1 : decode cX5_error 1 = .ok (.iload_n 1, 1) := by decide +kernel
theorem dX5_error_2 : decode cX5_error 2 = .ok (.invokevirtual 97, 3) := by decide +kernel
theorem dX5_error_5 : decode cX5_error 5 = .ok (.ifCond .ne 7, 3) := by decide +kernel
theorem dX5_error_8 : decode cX5_error 8 = .ok (.ldc2_w 176, 3) := by decide +kernel
theorem dX5_error_11 : decode cX5_error 11 = .ok (.lreturn, 1) := by decide +kernel
theorem dX5_error_12 : decode cX5_error 12 = .ok (.iload_n 2, 1) := by decide +kernel
theorem dX5_error_13 : decode cX5_error 13 = .ok (.iconst 0, 1) := by decide +kernel
theorem dX5_error_14 : decode cX5_error 14 = .ok (.iconst 1, 1) := by decide +kernel
theorem dX5_error_15 : decode cX5_error 15 = .ok (.invokestatic 112, 3) := by decide +kernel
theorem dX5_error_18 : decode cX5_error 18 = .ok (.ifCond .ne 7, 3) := by decide +kernel
theorem dX5_error_21 : decode cX5_error 21 = .ok (.ldc2_w 156, 3) := by decide +kernel
theorem dX5_error_24 : decode cX5_error 24 = .ok (.lreturn, 1) := by decide +kernel
theorem dX5_error_25 : decode cX5_error 25 = .ok (.aload_n 0, 1) := by decide +kernel
theorem dX5_error_26 : decode cX5_error 26 = .ok (.iload_n 1, 1) := by decide +kernel
theorem dX5_error_27 : decode cX5_error 27 = .ok (.invokevirtual 178, 3) := by decide +kernel
theorem dX5_error_30 : decode cX5_error 30 = .ok (.aload_n 0, 1) := by decide +kernel
theorem dX5_error_31 : decode cX5_error 31 = .ok (.getfield 41, 3) := by decide +kernel
theorem dX5_error_34 : decode cX5_error 34 = .ok (.invokevirtual 138, 3) := by decide +kernel
theorem dX5_error_37 : decode cX5_error 37 = .ok (.ifCond .eq 22, 3) := by decide +kernel
theorem dX5_error_40 : decode cX5_error 40 = .ok (.aload_n 0, 1) := by decide +kernel
theorem dX5_error_41 : decode cX5_error 41 = .ok (.iload_n 1, 1) := by decide +kernel
theorem dX5_error_42 : decode cX5_error 42 = .ok (.invokevirtual 182, 3) := by decide +kernel
theorem dX5_error_45 : decode cX5_error 45 = .ok (.aload_n 0, 1) := by decide +kernel
theorem dX5_error_46 : decode cX5_error 46 = .ok (.getfield 41, 3) := by decide +kernel
theorem dX5_error_49 : decode cX5_error 49 = .ok (.invokevirtual 168, 3) := by decide +kernel
theorem dX5_error_52 : decode cX5_error 52 = .ok (.iload_n 2, 1) := by decide +kernel
theorem dX5_error_53 : decode cX5_error 53 = .ok (.invokestatic 172, 3) := by decide +kernel
theorem dX5_error_56 : decode cX5_error 56 = .ok (.goto 6, 3) := by decide +kernel
theorem dX5_error_59 : decode cX5_error 59 = .ok (.ldc2_w 162, 3) := by decide +kernel
theorem dX5_error_62 : decode cX5_error 62 = .ok (.lreturn, 1) := by decide +kernel
theorem dX5_hole_0 : decode cX5_hole 0 = .ok (.iload_n 1, 1) := by decide +kernel
theorem dX5_hole_1 : decode cX5_hole 1 = .ok (.iload_n 2, 1) := by decide +kernel
theorem dX5_hole_2 : decode cX5_hole 2 = .ok (.invokestatic 120, 3) := by decide +kernel
theorem dX5_hole_5 : decode cX5_hole 5 = .ok (.ifCond .eq 12, 3) := by decide +kernel
theorem dX5_hole_8 : decode cX5_hole 8 = .ok (.iload_n 3, 1) := by decide +kernel
theorem dX5_hole_9 : decode cX5_hole 9 = .ok (.iload 4, 2) := by decide +kernel
theorem dX5_hole_11 : decode cX5_hole 11 = .ok (.invokestatic 120, 3) := by decide +kernel
theorem dX5_hole_14 : decode cX5_hole 14 = .ok (.ifCond .ne 6, 3) := by decide +kernel
theorem dX5_hole_17 : decode cX5_hole 17 = .ok (.ldc 96, 2) := by decide +kernel
theorem dX5_hole_19 : decode cX5_hole 19 = .ok (.ireturn, 1) := by decide +kernel
theorem dX5_hole_20 : decode cX5_hole 20 = .ok (.iload_n 3, 1) := by decide +kernel
theorem dX5_hole_21 : decode cX5_hole 21 = .ok (.iload_n 1, 1) := by decide +kernel
theorem dX5_hole_22 : decode cX5_hole 22 = .ok (.isub, 1) := by decide +kernel
theorem dX5_hole_23 : decode cX5_hole 23 = .ok (.iconst 0, 1) := by decide +kernel
theorem dX5_hole_24 : decode cX5_hole 24 = .ok (.bipush 7, 2) := by decide +kernel
theorem dX5_hole_26 : decode cX5_hole 26 = .ok (.invokestatic 112, 3) := by decide +kernel
theorem dX5_hole_29 : decode cX5_hole 29 = .ok (.ifCond .eq 16, 3) := by decide +kernel
theorem dX5_hole_32 : decode cX5_hole 32 = .ok (.iload 4, 2) := by decide +kernel
theorem dX5_hole_34 : decode cX5_hole 34 = .ok (.iload_n 2, 1) := by decide +kernel
theorem dX5_hole_35 : decode cX5_hole 35 = .ok (.isub, 1) := by decide +kernel
theorem dX5_hole_36 : decode cX5_hole 36 = .ok (.iconst 0, 1) := by decide +kernel
theorem dX5_hole_37 : decode cX5_hole 37 = .ok (.bipush 7, 2) := by decide +kernel
theorem dX5_hole_39 : decode cX5_hole 39 = .ok (.invokestatic 112, 3) := by decide +kernel
theorem dX5_hole_42 : decode cX5_hole 42 = .ok (.ifCond .ne 6, 3) := by decide +kernel
theorem dX5_hole_45 : decode cX5_hole 45 = .ok (.ldc 96, 2) := by decide +kernel
theorem dX5_hole_47 : decode cX5_hole 47 = .ok (.ireturn, 1) := by decide +kernel
theorem dX5_hole_48 : decode cX5_hole 48 = .ok (.aload_n 0, 1) := by decide +kernel
theorem dX5_hole_49 : decode cX5_hole 49 = .ok (.iload_n 1, 1) := by decide +kernel
theorem dX5_hole_50 : decode cX5_hole 50 = .ok (.iload_n 2, 1) := by decide +kernel
theorem dX5_hole_51 : decode cX5_hole 51 = .ok (.iload_n 3, 1) := by decide +kernel
theorem dX5_hole_52 : decode cX5_hole 52 = .ok (.iload 4, 2) := by decide +kernel
theorem dX5_hole_54 : decode cX5_hole 54 = .ok (.invokevirtual 185, 3) := by decide +kernel
theorem dX5_hole_57 : decode cX5_hole 57 = .ok (.ireturn, 1) := by decide +kernel
theorem dX5_sample_0 : decode cX5_sample 0 = .ok (.iload_n 1, 1) := by decide +kernel
theorem dX5_sample_1 : decode cX5_sample 1 = .ok (.iload_n 2, 1) := by decide +kernel
theorem dX5_sample_2 : decode cX5_sample 2 = .ok (.invokestatic 120, 3) := by decide +kernel
theorem dX5_sample_5 : decode cX5_sample 5 = .ok (.ifCond .eq 10, 3) := by decide +kernel
theorem dX5_sample_8 : decode cX5_sample 8 = .ok (.iload_n 3, 1) := by decide +kernel
theorem dX5_sample_9 : decode cX5_sample 9 = .ok (.invokestatic 189, 3) := by decide +kernel
theorem dX5_sample_12 : decode cX5_sample 12 = .ok (.ifCond .ne 6, 3) := by decide +kernel
theorem dX5_sample_15 : decode cX5_sample 15 = .ok (.ldc 96, 2) := by decide +kernel
theorem dX5_sample_17 : decode cX5_sample 17 = .ok (.ireturn, 1) := by decide +kernel
theorem dX5_sample_18 : decode cX5_sample 18 = .ok (.aload_n 0, 1) := by decide +kernel
theorem dX5_sample_19 : decode cX5_sample 19 = .ok (.getfield 32, 3) := by decide +kernel
theorem dX5_sample_22 : decode cX5_sample 22 = .ok (.getfield 46, 3) := by decide +kernel
theorem dX5_sample_25 : decode cX5_sample 25 = .ok (.bipush 10, 2) := by decide +kernel
theorem dX5_sample_27 : decode cX5_sample 27 = .ok (.if_icmp .lt 6, 3) := by decide +kernel
theorem dX5_sample_30 : decode cX5_sample 30 = .ok (.ldc 192, 2) := by decide +kernel
theorem dX5_sample_32 : decode cX5_sample 32 = .ok (.ireturn, 1) := by decide +kernel
theorem dX5_sample_33 : decode cX5_sample 33 = .ok (.aload_n 0, 1) := by decide +kernel
theorem dX5_sample_34 : decode cX5_sample 34 = .ok (.getfield 32, 3) := by decide +kernel
theorem dX5_sample_37 : decode cX5_sample 37 = .ok (.iload_n 1, 1) := by decide +kernel
theorem dX5_sample_38 : decode cX5_sample 38 = .ok (.iload_n 2, 1) := by decide +kernel
theorem dX5_sample_39 : decode cX5_sample 39 = .ok (.invokevirtual 124, 3) := by decide +kernel
theorem dX5_sample_42 : decode cX5_sample 42 = .ok (.iconst (-1), 1) := by decide +kernel
theorem dX5_sample_43 : decode cX5_sample 43 = .ok (.if_icmp .eq 6, 3) := by decide +kernel
theorem dX5_sample_46 : decode cX5_sample 46 = .ok (.ldc 193, 2) := by decide +kernel
theorem dX5_sample_48 : decode cX5_sample 48 = .ok (.ireturn, 1) := by decide +kernel
theorem dX5_sample_49 : decode cX5_sample 49 = .ok (.aload_n 0, 1) := by decide +kernel
theorem dX5_sample_50 : decode cX5_sample 50 = .ok (.getfield 12, 3) := by decide +kernel
theorem dX5_sample_53 : decode cX5_sample 53 = .ok (.aload_n 0, 1) := by decide +kernel
theorem dX5_sample_54 : decode cX5_sample 54 = .ok (.getfield 32, 3) := by decide +kernel
theorem dX5_sample_57 : decode cX5_sample 57 = .ok (.invokevirtual 194, 3) := by decide +kernel
theorem dX5_sample_60 : decode cX5_sample 60 = .ok (.aload_n 0, 1) := by decide +kernel
theorem dX5_sample_61 : decode cX5_sample 61 = .ok (.getfield 32, 3) := by decide +kernel
theorem dX5_sample_64 : decode cX5_sample 64 = .ok (.iload_n 1, 1) := by decide +kernel
theorem dX5_sample_65 : decode cX5_sample 65 = .ok (.iload_n 2, 1) := by decide +kernel
theorem dX5_sample_66 : decode cX5_sample 66 = .ok (.iload_n 3, 1) := by decide +kernel
theorem dX5_sample_67 : decode cX5_sample 67 = .ok (.invokevirtual 197, 3) := by decide +kernel
theorem dX5_sample_70 : decode cX5_sample 70 = .ok (.aload_n 0, 1) := by decide +kernel
theorem dX5_sample_71 : decode cX5_sample 71 = .ok (.getfield 32, 3) := by decide +kernel
theorem dX5_sample_74 : decode cX5_sample 74 = .ok (.getfield 46, 3) := by decide +kernel
theorem dX5_sample_77 : decode cX5_sample 77 = .ok (.iconst 1, 1) := by decide +kernel
theorem dX5_sample_78 : decode cX5_sample 78 = .ok (.isub, 1) := by decide +kernel
theorem dX5_sample_79 : decode cX5_sample 79 = .ok (.ireturn, 1) := by decide +kernel
theorem dX5_take_0 : decode cX5_take 0 = .ok (.aload_n 0, 1) := by decide +kernel
theorem dX5_take_1 : decode cX5_take 1 = .ok (.iload_n 1, 1) := by decide +kernel
theorem dX5_take_2 : decode cX5_take 2 = .ok (.invokevirtual 97, 3) := by decide +kernel
theorem dX5_take_5 : decode cX5_take 5 = .ok (.ifCond .ne 6, 3) := by decide +kernel
theorem dX5_take_8 : decode cX5_take 8 = .ok (.ldc 101, 2) := by decide +kernel
theorem dX5_take_10 : decode cX5_take 10 = .ok (.ireturn, 1) := by decide +kernel
theorem dX5_take_11 : decode cX5_take 11 = .ok (.aload_n 0, 1) := by decide +kernel
theorem dX5_take_12 : decode cX5_take 12 = .ok (.getfield 12, 3) := by decide +kernel
theorem dX5_take_15 : decode cX5_take 15 = .ok (.aload_n 0, 1) := by decide +kernel
theorem dX5_take_16 : decode cX5_take 16 = .ok (.getfield 32, 3) := by decide +kernel
theorem dX5_take_19 : decode cX5_take 19 = .ok (.invokevirtual 194, 3) := by decide +kernel
theorem dX5_take_22 : decode cX5_take 22 = .ok (.aload_n 0, 1) := by decide +kernel
theorem dX5_take_23 : decode cX5_take 23 = .ok (.getfield 32, 3) := by decide +kernel
theorem dX5_take_26 : decode cX5_take 26 = .ok (.iload_n 1, 1) := by decide +kernel
theorem dX5_take_27 : decode cX5_take 27 = .ok (.invokevirtual 200, 3) := by decide +kernel
theorem dX5_take_30 : decode cX5_take 30 = .ok (.aload_n 0, 1) := by decide +kernel
theorem dX5_take_31 : decode cX5_take 31 = .ok (.getfield 32, 3) := by decide +kernel
theorem dX5_take_34 : decode cX5_take 34 = .ok (.getfield 46, 3) := by decide +kernel
theorem dX5_take_37 : decode cX5_take 37 = .ok (.ireturn, 1) := by decide +kernel
theorem dX5_grade_0 : decode cX5_grade 0 = .ok (.aload_n 0, 1) := by decide +kernel
theorem dX5_grade_1 : decode cX5_grade 1 = .ok (.iload_n 1, 1) := by decide +kernel
theorem dX5_grade_2 : decode cX5_grade 2 = .ok (.invokevirtual 97, 3) := by decide +kernel
theorem dX5_grade_5 : decode cX5_grade 5 = .ok (.ifCond .ne 6, 3) := by decide +kernel
theorem dX5_grade_8 : decode cX5_grade 8 = .ok (.ldc 101, 2) := by decide +kernel
theorem dX5_grade_10 : decode cX5_grade 10 = .ok (.ireturn, 1) := by decide +kernel
theorem dX5_grade_11 : decode cX5_grade 11 = .ok (.iload_n 2, 1) := by decide +kernel
theorem dX5_grade_12 : decode cX5_grade 12 = .ok (.invokestatic 189, 3) := by decide +kernel
theorem dX5_grade_15 : decode cX5_grade 15 = .ok (.ifCond .ne 6, 3) := by decide +kernel
theorem dX5_grade_18 : decode cX5_grade 18 = .ok (.ldc 96, 2) := by decide +kernel
theorem dX5_grade_20 : decode cX5_grade 20 = .ok (.ireturn, 1) := by decide +kernel
theorem dX5_grade_21 : decode cX5_grade 21 = .ok (.aload_n 0, 1) := by decide +kernel
theorem dX5_grade_22 : decode cX5_grade 22 = .ok (.getfield 12, 3) := by decide +kernel
theorem dX5_grade_25 : decode cX5_grade 25 = .ok (.aload_n 0, 1) := by decide +kernel
theorem dX5_grade_26 : decode cX5_grade 26 = .ok (.getfield 32, 3) := by decide +kernel
theorem dX5_grade_29 : decode cX5_grade 29 = .ok (.invokevirtual 194, 3) := by decide +kernel
theorem dX5_grade_32 : decode cX5_grade 32 = .ok (.aload_n 0, 1) := by decide +kernel
theorem dX5_grade_33 : decode cX5_grade 33 = .ok (.getfield 32, 3) := by decide +kernel
theorem dX5_grade_36 : decode cX5_grade 36 = .ok (.getfield 109, 3) := by decide +kernel
theorem dX5_grade_39 : decode cX5_grade 39 = .ok (.iload_n 1, 1) := by decide +kernel
theorem dX5_grade_40 : decode cX5_grade 40 = .ok (.iaload, 1) := by decide +kernel
theorem dX5_grade_41 : decode cX5_grade 41 = .ok (.istore_n 3, 1) := by decide +kernel
theorem dX5_grade_42 : decode cX5_grade 42 = .ok (.aload_n 0, 1) := by decide +kernel
theorem dX5_grade_43 : decode cX5_grade 43 = .ok (.getfield 32, 3) := by decide +kernel
theorem dX5_grade_46 : decode cX5_grade 46 = .ok (.getfield 109, 3) := by decide +kernel
theorem dX5_grade_49 : decode cX5_grade 49 = .ok (.iload_n 1, 1) := by decide +kernel
theorem dX5_grade_50 : decode cX5_grade 50 = .ok (.iload_n 2, 1) := by decide +kernel
theorem dX5_grade_51 : decode cX5_grade 51 = .ok (.iastore, 1) := by decide +kernel
theorem dX5_grade_52 : decode cX5_grade 52 = .ok (.iload_n 3, 1) := by decide +kernel
theorem dX5_grade_53 : decode cX5_grade 53 = .ok (.ireturn, 1) := by decide +kernel
theorem dX5_pieces_0 : decode cX5_pieces 0 = .ok (.iload_n 1, 1) := by decide +kernel
theorem dX5_pieces_1 : decode cX5_pieces 1 = .ok (.iconst 0, 1) := by decide +kernel
theorem dX5_pieces_2 : decode cX5_pieces 2 = .ok (.bipush 9, 2) := by decide +kernel
theorem dX5_pieces_4 : decode cX5_pieces 4 = .ok (.invokestatic 112, 3) := by decide +kernel
theorem dX5_pieces_7 : decode cX5_pieces 7 = .ok (.ifCond .eq 23, 3) := by decide +kernel
theorem dX5_pieces_10 : decode cX5_pieces 10 = .ok (.iload_n 2, 1) := by decide +kernel
theorem dX5_pieces_11 : decode cX5_pieces 11 = .ok (.iconst 1, 1) := by decide +kernel
theorem dX5_pieces_12 : decode cX5_pieces 12 = .ok (.bipush 9, 2) := by decide +kernel
theorem dX5_pieces_14 : decode cX5_pieces 14 = .ok (.invokestatic 112, 3) := by decide +kernel
theorem dX5_pieces_17 : decode cX5_pieces 17 = .ok (.ifCond .eq 13, 3) := by decide +kernel
theorem dX5_pieces_20 : decode cX5_pieces 20 = .ok (.iload_n 3, 1) := by decide +kernel
theorem dX5_pieces_21 : decode cX5_pieces 21 = .ok (.iconst 1, 1) := by decide +kernel
theorem dX5_pieces_22 : decode cX5_pieces 22 = .ok (.bipush 10, 2) := by decide +kernel
theorem dX5_pieces_24 : decode cX5_pieces 24 = .ok (.invokestatic 112, 3) := by decide +kernel
theorem dX5_pieces_27 : decode cX5_pieces 27 = .ok (.ifCond .ne 6, 3) := by decide +kernel
theorem dX5_pieces_30 : decode cX5_pieces 30 = .ok (.ldc 96, 2) := by decide +kernel
theorem dX5_pieces_32 : decode cX5_pieces 32 = .ok (.ireturn, 1) := by decide +kernel
theorem dX5_pieces_33 : decode cX5_pieces 33 = .ok (.iload 4, 2) := by decide +kernel
theorem dX5_pieces_35 : decode cX5_pieces 35 = .ok (.iconst 0, 1) := by decide +kernel
theorem dX5_pieces_36 : decode cX5_pieces 36 = .ok (.iload_n 2, 1) := by decide +kernel
theorem dX5_pieces_37 : decode cX5_pieces 37 = .ok (.invokestatic 112, 3) := by decide +kernel
theorem dX5_pieces_40 : decode cX5_pieces 40 = .ok (.ifCond .eq 14, 3) := by decide +kernel
theorem dX5_pieces_43 : decode cX5_pieces 43 = .ok (.iload 5, 2) := by decide +kernel
theorem dX5_pieces_45 : decode cX5_pieces 45 = .ok (.iload_n 3, 1) := by decide +kernel
theorem dX5_pieces_46 : decode cX5_pieces 46 = .ok (.bipush 20, 2) := by decide +kernel
theorem dX5_pieces_48 : decode cX5_pieces 48 = .ok (.invokestatic 112, 3) := by decide +kernel
theorem dX5_pieces_51 : decode cX5_pieces 51 = .ok (.ifCond .ne 6, 3) := by decide +kernel
theorem dX5_pieces_54 : decode cX5_pieces 54 = .ok (.ldc 96, 2) := by decide +kernel
theorem dX5_pieces_56 : decode cX5_pieces 56 = .ok (.ireturn, 1) := by decide +kernel
theorem dX5_pieces_57 : decode cX5_pieces 57 = .ok (.aload_n 0, 1) := by decide +kernel
theorem dX5_pieces_58 : decode cX5_pieces 58 = .ok (.getfield 12, 3) := by decide +kernel
theorem dX5_pieces_61 : decode cX5_pieces 61 = .ok (.aload_n 0, 1) := by decide +kernel
theorem dX5_pieces_62 : decode cX5_pieces 62 = .ok (.getfield 32, 3) := by decide +kernel
theorem dX5_pieces_65 : decode cX5_pieces 65 = .ok (.invokevirtual 194, 3) := by decide +kernel
theorem dX5_pieces_68 : decode cX5_pieces 68 = .ok (.aload_n 0, 1) := by decide +kernel
theorem dX5_pieces_69 : decode cX5_pieces 69 = .ok (.getfield 32, 3) := by decide +kernel
theorem dX5_pieces_72 : decode cX5_pieces 72 = .ok (.bipush 10, 2) := by decide +kernel
theorem dX5_pieces_74 : decode cX5_pieces 74 = .ok (.invokevirtual 116, 3) := by decide +kernel
theorem dX5_pieces_77 : decode cX5_pieces 77 = .ok (.istore 6, 2) := by decide +kernel
theorem dX5_pieces_79 : decode cX5_pieces 79 = .ok (.aload_n 0, 1) := by decide +kernel
theorem dX5_pieces_80 : decode cX5_pieces 80 = .ok (.getfield 32, 3) := by decide +kernel
theorem dX5_pieces_83 : decode cX5_pieces 83 = .ok (.iload_n 1, 1) := by decide +kernel
theorem dX5_pieces_84 : decode cX5_pieces 84 = .ok (.putfield 53, 3) := by decide +kernel
theorem dX5_pieces_87 : decode cX5_pieces 87 = .ok (.aload_n 0, 1) := by decide +kernel
theorem dX5_pieces_88 : decode cX5_pieces 88 = .ok (.getfield 32, 3) := by decide +kernel
theorem dX5_pieces_91 : decode cX5_pieces 91 = .ok (.iload_n 2, 1) := by decide +kernel
theorem dX5_pieces_92 : decode cX5_pieces 92 = .ok (.putfield 56, 3) := by decide +kernel
theorem dX5_pieces_95 : decode cX5_pieces 95 = .ok (.aload_n 0, 1) := by decide +kernel
theorem dX5_pieces_96 : decode cX5_pieces 96 = .ok (.getfield 32, 3) := by decide +kernel
theorem dX5_pieces_99 : decode cX5_pieces 99 = .ok (.iload_n 3, 1) := by decide +kernel
theorem dX5_pieces_100 : decode cX5_pieces 100 = .ok (.putfield 59, 3) := by decide +kernel
theorem dX5_pieces_103 : decode cX5_pieces 103 = .ok (.aload_n 0, 1) := by decide +kernel
theorem dX5_pieces_104 : decode cX5_pieces 104 = .ok (.getfield 32, 3) := by decide +kernel
theorem dX5_pieces_107 : decode cX5_pieces 107 = .ok (.iload 4, 2) := by decide +kernel
theorem dX5_pieces_109 : decode cX5_pieces 109 = .ok (.putfield 62, 3) := by decide +kernel
theorem dX5_pieces_112 : decode cX5_pieces 112 = .ok (.aload_n 0, 1) := by decide +kernel
theorem dX5_pieces_113 : decode cX5_pieces 113 = .ok (.getfield 32, 3) := by decide +kernel
theorem dX5_pieces_116 : decode cX5_pieces 116 = .ok (.iload 5, 2) := by decide +kernel
theorem dX5_pieces_118 : decode cX5_pieces 118 = .ok (.putfield 65, 3) := by decide +kernel
theorem dX5_pieces_121 : decode cX5_pieces 121 = .ok (.iload 6, 2) := by decide +kernel
theorem dX5_pieces_123 : decode cX5_pieces 123 = .ok (.ireturn, 1) := by decide +kernel
theorem dX5_search_0 : decode cX5_search 0 = .ok (.iload_n 1, 1) := by decide +kernel
theorem dX5_search_1 : decode cX5_search 1 = .ok (.iconst 1, 1) := by decide +kernel
theorem dX5_search_2 : decode cX5_search 2 = .ok (.iconst 4, 1) := by decide +kernel
theorem dX5_search_3 : decode cX5_search 3 = .ok (.invokestatic 112, 3) := by decide +kernel
theorem dX5_search_6 : decode cX5_search 6 = .ok (.ifCond .eq 22, 3) := by decide +kernel
theorem dX5_search_9 : decode cX5_search 9 = .ok (.iload_n 2, 1) := by decide +kernel
theorem dX5_search_10 : decode cX5_search 10 = .ok (.iconst 1, 1) := by decide +kernel
theorem dX5_search_11 : decode cX5_search 11 = .ok (.iconst 4, 1) := by decide +kernel
theorem dX5_search_12 : decode cX5_search 12 = .ok (.invokestatic 112, 3) := by decide +kernel
theorem dX5_search_15 : decode cX5_search 15 = .ok (.ifCond .eq 13, 3) := by decide +kernel
theorem dX5_search_18 : decode cX5_search 18 = .ok (.iload_n 3, 1) := by decide +kernel
theorem dX5_search_19 : decode cX5_search 19 = .ok (.iconst 1, 1) := by decide +kernel
theorem dX5_search_20 : decode cX5_search 20 = .ok (.bipush 62, 2) := by decide +kernel
theorem dX5_search_22 : decode cX5_search 22 = .ok (.invokestatic 112, 3) := by decide +kernel
theorem dX5_search_25 : decode cX5_search 25 = .ok (.ifCond .ne 6, 3) := by decide +kernel
theorem dX5_search_28 : decode cX5_search 28 = .ok (.ldc 96, 2) := by decide +kernel
theorem dX5_search_30 : decode cX5_search 30 = .ok (.ireturn, 1) := by decide +kernel
theorem dX5_search_31 : decode cX5_search 31 = .ok (.aload_n 0, 1) := by decide +kernel
theorem dX5_search_32 : decode cX5_search 32 = .ok (.getfield 12, 3) := by decide +kernel
theorem dX5_search_35 : decode cX5_search 35 = .ok (.aload_n 0, 1) := by decide +kernel
theorem dX5_search_36 : decode cX5_search 36 = .ok (.getfield 32, 3) := by decide +kernel
theorem dX5_search_39 : decode cX5_search 39 = .ok (.invokevirtual 194, 3) := by decide +kernel
theorem dX5_search_42 : decode cX5_search 42 = .ok (.aload_n 0, 1) := by decide +kernel
theorem dX5_search_43 : decode cX5_search 43 = .ok (.getfield 32, 3) := by decide +kernel
theorem dX5_search_46 : decode cX5_search 46 = .ok (.getfield 68, 3) := by decide +kernel
theorem dX5_search_49 : decode cX5_search 49 = .ok (.istore 4, 2) := by decide +kernel
theorem dX5_search_51 : decode cX5_search 51 = .ok (.aload_n 0, 1) := by decide +kernel
theorem dX5_search_52 : decode cX5_search 52 = .ok (.getfield 32, 3) := by decide +kernel
theorem dX5_search_55 : decode cX5_search 55 = .ok (.iload_n 1, 1) := by decide +kernel
theorem dX5_search_56 : decode cX5_search 56 = .ok (.putfield 68, 3) := by decide +kernel
theorem dX5_search_59 : decode cX5_search 59 = .ok (.aload_n 0, 1) := by decide +kernel
theorem dX5_search_60 : decode cX5_search 60 = .ok (.getfield 32, 3) := by decide +kernel
theorem dX5_search_63 : decode cX5_search 63 = .ok (.iload_n 2, 1) := by decide +kernel
theorem dX5_search_64 : decode cX5_search 64 = .ok (.putfield 71, 3) := by decide +kernel
theorem dX5_search_67 : decode cX5_search 67 = .ok (.aload_n 0, 1) := by decide +kernel
theorem dX5_search_68 : decode cX5_search 68 = .ok (.getfield 32, 3) := by decide +kernel
theorem dX5_search_71 : decode cX5_search 71 = .ok (.iload_n 3, 1) := by decide +kernel
theorem dX5_search_72 : decode cX5_search 72 = .ok (.putfield 74, 3) := by decide +kernel
theorem dX5_search_75 : decode cX5_search 75 = .ok (.iload 4, 2) := by decide +kernel
theorem dX5_search_77 : decode cX5_search 77 = .ok (.ireturn, 1) := by decide +kernel
theorem dX5_metric_0 : decode cX5_metric 0 = .ok (.iload_n 1, 1) := by decide +kernel
theorem dX5_metric_1 : decode cX5_metric 1 = .ok (.iconst 0, 1) := by decide +kernel
theorem dX5_metric_2 : decode cX5_metric 2 = .ok (.iconst 1, 1) := by decide +kernel
theorem dX5_metric_3 : decode cX5_metric 3 = .ok (.invokestatic 112, 3) := by decide +kernel
theorem dX5_metric_6 : decode cX5_metric 6 = .ok (.ifCond .ne 6, 3) := by decide +kernel
theorem dX5_metric_9 : decode cX5_metric 9 = .ok (.ldc 96, 2) := by decide +kernel
theorem dX5_metric_11 : decode cX5_metric 11 = .ok (.ireturn, 1) := by decide +kernel
theorem dX5_metric_12 : decode cX5_metric 12 = .ok (.aload_n 0, 1) := by decide +kernel
theorem dX5_metric_13 : decode cX5_metric 13 = .ok (.getfield 12, 3) := by decide +kernel
theorem dX5_metric_16 : decode cX5_metric 16 = .ok (.aload_n 0, 1) := by decide +kernel
theorem dX5_metric_17 : decode cX5_metric 17 = .ok (.getfield 32, 3) := by decide +kernel
theorem dX5_metric_20 : decode cX5_metric 20 = .ok (.invokevirtual 194, 3) := by decide +kernel
theorem dX5_metric_23 : decode cX5_metric 23 = .ok (.aload_n 0, 1) := by decide +kernel
theorem dX5_metric_24 : decode cX5_metric 24 = .ok (.getfield 32, 3) := by decide +kernel
theorem dX5_metric_27 : decode cX5_metric 27 = .ok (.getfield 50, 3) := by decide +kernel
theorem dX5_metric_30 : decode cX5_metric 30 = .ok (.istore_n 2, 1) := by decide +kernel
theorem dX5_metric_31 : decode cX5_metric 31 = .ok (.aload_n 0, 1) := by decide +kernel
theorem dX5_metric_32 : decode cX5_metric 32 = .ok (.getfield 32, 3) := by decide +kernel
theorem dX5_metric_35 : decode cX5_metric 35 = .ok (.iload_n 1, 1) := by decide +kernel
theorem dX5_metric_36 : decode cX5_metric 36 = .ok (.putfield 50, 3) := by decide +kernel
theorem dX5_metric_39 : decode cX5_metric 39 = .ok (.iload_n 2, 1) := by decide +kernel
theorem dX5_metric_40 : decode cX5_metric 40 = .ok (.ireturn, 1) := by decide +kernel
theorem dX5_drift_0 : decode cX5_drift 0 = .ok (.iload_n 1, 1) := by decide +kernel
theorem dX5_drift_1 : decode cX5_drift 1 = .ok (.iconst 1, 1) := by decide +kernel
theorem dX5_drift_2 : decode cX5_drift 2 = .ok (.bipush 10, 2) := by decide +kernel
theorem dX5_drift_4 : decode cX5_drift 4 = .ok (.invokestatic 112, 3) := by decide +kernel
theorem dX5_drift_7 : decode cX5_drift 7 = .ok (.ifCond .ne 6, 3) := by decide +kernel
theorem dX5_drift_10 : decode cX5_drift 10 = .ok (.ldc 96, 2) := by decide +kernel
theorem dX5_drift_12 : decode cX5_drift 12 = .ok (.ireturn, 1) := by decide +kernel
theorem dX5_drift_13 : decode cX5_drift 13 = .ok (.iconst 0, 1) := by decide +kernel
theorem dX5_drift_14 : decode cX5_drift 14 = .ok (.istore_n 2, 1) := by decide +kernel
theorem dX5_drift_15 : decode cX5_drift 15 = .ok (.iload_n 2, 1) := by decide +kernel
theorem dX5_drift_16 : decode cX5_drift 16 = .ok (.iload_n 1, 1) := by decide +kernel
theorem dX5_drift_17 : decode cX5_drift 17 = .ok (.if_icmp .ge 25, 3) := by decide +kernel
theorem dX5_drift_20 : decode cX5_drift 20 = .ok (.aload_n 0, 1) := by decide +kernel
theorem dX5_drift_21 : decode cX5_drift 21 = .ok (.getfield 32, 3) := by decide +kernel
theorem dX5_drift_24 : decode cX5_drift 24 = .ok (.getfield 46, 3) := by decide +kernel
theorem dX5_drift_27 : decode cX5_drift 27 = .ok (.bipush 10, 2) := by decide +kernel
theorem dX5_drift_29 : decode cX5_drift 29 = .ok (.if_icmp .ge 13, 3) := by decide +kernel
theorem dX5_drift_32 : decode cX5_drift 32 = .ok (.aload_n 0, 1) := by decide +kernel
theorem dX5_drift_33 : decode cX5_drift 33 = .ok (.invokevirtual 203, 3) := by decide +kernel
theorem dX5_drift_36 : decode cX5_drift 36 = .ok (.iinc 2 1, 3) := by decide +kernel
theorem dX5_drift_39 : decode cX5_drift 39 = .ok (.goto (-24), 3) := by decide +kernel
theorem dX5_drift_42 : decode cX5_drift 42 = .ok (.aload_n 0, 1) := by decide +kernel
theorem dX5_drift_43 : decode cX5_drift 43 = .ok (.getfield 32, 3) := by decide +kernel
theorem dX5_drift_46 : decode cX5_drift 46 = .ok (.getfield 46, 3) := by decide +kernel
theorem dX5_drift_49 : decode cX5_drift 49 = .ok (.ireturn, 1) := by decide +kernel
theorem dX5_undo_0 : decode cX5_undo 0 = .ok (.iload_n 1, 1) := by decide +kernel
theorem dX5_undo_1 : decode cX5_undo 1 = .ok (.iconst 1, 1) := by decide +kernel
theorem dX5_undo_2 : decode cX5_undo 2 = .ok (.bipush 16, 2) := by decide +kernel
theorem dX5_undo_4 : decode cX5_undo 4 = .ok (.invokestatic 112, 3) := by decide +kernel
theorem dX5_undo_7 : decode cX5_undo 7 = .ok (.ifCond .ne 6, 3) := by decide +kernel
theorem dX5_undo_10 : decode cX5_undo 10 = .ok (.ldc 96, 2) := by decide +kernel
theorem dX5_undo_12 : decode cX5_undo 12 = .ok (.ireturn, 1) := by decide +kernel
theorem dX5_undo_13 : decode cX5_undo 13 = .ok (.iload_n 1, 1) := by decide +kernel
theorem dX5_undo_14 : decode cX5_undo 14 = .ok (.aload_n 0, 1) := by decide +kernel
theorem dX5_undo_15 : decode cX5_undo 15 = .ok (.getfield 12, 3) := by decide +kernel
theorem dX5_undo_18 : decode cX5_undo 18 = .ok (.getfield 90, 3) := by decide +kernel
theorem dX5_undo_21 : decode cX5_undo 21 = .ok (.if_icmp .le 6, 3) := by decide +kernel
theorem dX5_undo_24 : decode cX5_undo 24 = .ok (.ldc 193, 2) := by decide +kernel
theorem dX5_undo_26 : decode cX5_undo 26 = .ok (.ireturn, 1) := by decide +kernel
theorem dX5_undo_27 : decode cX5_undo 27 = .ok (.aload_n 0, 1) := by decide +kernel
theorem dX5_undo_28 : decode cX5_undo 28 = .ok (.getfield 12, 3) := by decide +kernel
theorem dX5_undo_31 : decode cX5_undo 31 = .ok (.iload_n 1, 1) := by decide +kernel
theorem dX5_undo_32 : decode cX5_undo 32 = .ok (.aload_n 0, 1) := by decide +kernel
theorem dX5_undo_33 : decode cX5_undo 33 = .ok (.getfield 32, 3) := by decide +kernel
theorem dX5_undo_36 : decode cX5_undo 36 = .ok (.invokevirtual 206, 3) := by decide +kernel
theorem dX5_undo_39 : decode cX5_undo 39 = .ok (.aload_n 0, 1) := by decide +kernel
theorem dX5_undo_40 : decode cX5_undo 40 = .ok (.getfield 12, 3) := by decide +kernel
theorem dX5_undo_43 : decode cX5_undo 43 = .ok (.getfield 90, 3) := by decide +kernel
theorem dX5_undo_46 : decode cX5_undo 46 = .ok (.ireturn, 1) := by decide +kernel
theorem dX5_write_0 : decode cX5_write 0 = .ok (.iload_n 1, 1) := by decide +kernel
theorem dX5_write_1 : decode cX5_write 1 = .ok (.iload_n 2, 1) := by decide +kernel
theorem dX5_write_2 : decode cX5_write 2 = .ok (.invokestatic 120, 3) := by decide +kernel
theorem dX5_write_5 : decode cX5_write 5 = .ok (.ifCond .ne 6, 3) := by decide +kernel
theorem dX5_write_8 : decode cX5_write 8 = .ok (.ldc 96, 2) := by decide +kernel
theorem dX5_write_10 : decode cX5_write 10 = .ok (.ireturn, 1) := by decide +kernel
theorem dX5_write_11 : decode cX5_write 11 = .ok (.aload_n 0, 1) := by decide +kernel
theorem dX5_write_12 : decode cX5_write 12 = .ok (.getfield 19, 3) := by decide +kernel
theorem dX5_write_15 : decode cX5_write 15 = .ok (.getfield 84, 3) := by decide +kernel
theorem dX5_write_18 : decode cX5_write 18 = .ok (.bipush 20, 2) := by decide +kernel
theorem dX5_write_20 : decode cX5_write 20 = .ok (.if_icmp .lt 6, 3) := by decide +kernel
theorem dX5_write_23 : decode cX5_write 23 = .ok (.ldc 192, 2) := by decide +kernel
theorem dX5_write_25 : decode cX5_write 25 = .ok (.ireturn, 1) := by decide +kernel
theorem dX5_write_26 : decode cX5_write 26 = .ok (.aload_n 0, 1) := by decide +kernel
theorem dX5_write_27 : decode cX5_write 27 = .ok (.getfield 19, 3) := by decide +kernel
theorem dX5_write_30 : decode cX5_write 30 = .ok (.iload_n 1, 1) := by decide +kernel
theorem dX5_write_31 : decode cX5_write 31 = .ok (.iload_n 2, 1) := by decide +kernel
theorem dX5_write_32 : decode cX5_write 32 = .ok (.iload_n 3, 1) := by decide +kernel
theorem dX5_write_33 : decode cX5_write 33 = .ok (.invokevirtual 210, 3) := by decide +kernel
theorem dX5_write_36 : decode cX5_write 36 = .ok (.aload_n 0, 1) := by decide +kernel
theorem dX5_write_37 : decode cX5_write 37 = .ok (.getfield 19, 3) := by decide +kernel
theorem dX5_write_40 : decode cX5_write 40 = .ok (.getfield 84, 3) := by decide +kernel
theorem dX5_write_43 : decode cX5_write 43 = .ok (.ireturn, 1) := by decide +kernel
theorem dX5_tear_0 : decode cX5_tear 0 = .ok (.aload_n 0, 1) := by decide +kernel
theorem dX5_tear_1 : decode cX5_tear 1 = .ok (.getfield 19, 3) := by decide +kernel
theorem dX5_tear_4 : decode cX5_tear 4 = .ok (.getfield 84, 3) := by decide +kernel
theorem dX5_tear_7 : decode cX5_tear 7 = .ok (.istore_n 1, 1) := by decide +kernel
theorem dX5_tear_8 : decode cX5_tear 8 = .ok (.aload_n 0, 1) := by decide +kernel
theorem dX5_tear_9 : decode cX5_tear 9 = .ok (.getfield 19, 3) := by decide +kernel
theorem dX5_tear_12 : decode cX5_tear 12 = .ok (.iconst 0, 1) := by decide +kernel
theorem dX5_tear_13 : decode cX5_tear 13 = .ok (.putfield 84, 3) := by decide +kernel
theorem dX5_tear_16 : decode cX5_tear 16 = .ok (.iload_n 1, 1) := by decide +kernel
theorem dX5_tear_17 : decode cX5_tear 17 = .ok (.ireturn, 1) := by decide +kernel
theorem dX5_seed_0 : decode cX5_seed 0 = .ok (.iload_n 1, 1) := by decide +kernel
theorem dX5_seed_1 : decode cX5_seed 1 = .ok (.ifCond .ge 6, 3) := by decide +kernel
theorem dX5_seed_4 : decode cX5_seed 4 = .ok (.ldc 96, 2) := by decide +kernel
theorem dX5_seed_6 : decode cX5_seed 6 = .ok (.ireturn, 1) := by decide +kernel
theorem dX5_seed_7 : decode cX5_seed 7 = .ok (.aload_n 0, 1) := by decide +kernel
theorem dX5_seed_8 : decode cX5_seed 8 = .ok (.getfield 93, 3) := by decide +kernel
theorem dX5_seed_11 : decode cX5_seed 11 = .ok (.istore_n 2, 1) := by decide +kernel
theorem dX5_seed_12 : decode cX5_seed 12 = .ok (.aload_n 0, 1) := by decide +kernel
theorem dX5_seed_13 : decode cX5_seed 13 = .ok (.iload_n 1, 1) := by decide +kernel
theorem dX5_seed_14 : decode cX5_seed 14 = .ok (.putfield 93, 3) := by decide +kernel
theorem dX5_seed_17 : decode cX5_seed 17 = .ok (.iload_n 2, 1) := by decide +kernel
theorem dX5_seed_18 : decode cX5_seed 18 = .ok (.ireturn, 1) := by decide +kernel
theorem dX5_keep_0 : decode cX5_keep 0 = .ok (.iload_n 1, 1) := by decide +kernel
theorem dX5_keep_1 : decode cX5_keep 1 = .ok (.iconst 0, 1) := by decide +kernel
theorem dX5_keep_2 : decode cX5_keep 2 = .ok (.iconst 1, 1) := by decide +kernel
theorem dX5_keep_3 : decode cX5_keep 3 = .ok (.invokestatic 112, 3) := by decide +kernel
theorem dX5_keep_6 : decode cX5_keep 6 = .ok (.ifCond .ne 6, 3) := by decide +kernel
theorem dX5_keep_9 : decode cX5_keep 9 = .ok (.ldc 101, 2) := by decide +kernel
theorem dX5_keep_11 : decode cX5_keep 11 = .ok (.ireturn, 1) := by decide +kernel
theorem dX5_keep_12 : decode cX5_keep 12 = .ok (.aload_n 0, 1) := by decide +kernel
theorem dX5_keep_13 : decode cX5_keep 13 = .ok (.getfield 25, 3) := by decide +kernel
theorem dX5_keep_16 : decode cX5_keep 16 = .ok (.iload_n 1, 1) := by decide +kernel
theorem dX5_keep_17 : decode cX5_keep 17 = .ok (.aaload, 1) := by decide +kernel
theorem dX5_keep_18 : decode cX5_keep 18 = .ok (.astore_n 2, 1) := by decide +kernel
theorem dX5_keep_19 : decode cX5_keep 19 = .ok (.aload_n 2, 1) := by decide +kernel
theorem dX5_keep_20 : decode cX5_keep 20 = .ok (.getfield 213, 3) := by decide +kernel
theorem dX5_keep_23 : decode cX5_keep 23 = .ok (.aload_n 0, 1) := by decide +kernel
theorem dX5_keep_24 : decode cX5_keep 24 = .ok (.getfield 32, 3) := by decide +kernel
theorem dX5_keep_27 : decode cX5_keep 27 = .ok (.invokevirtual 214, 3) := by decide +kernel
theorem dX5_keep_30 : decode cX5_keep 30 = .ok (.aload_n 2, 1) := by decide +kernel
theorem dX5_keep_31 : decode cX5_keep 31 = .ok (.aload_n 0, 1) := by decide +kernel
theorem dX5_keep_32 : decode cX5_keep 32 = .ok (.getfield 93, 3) := by decide +kernel
theorem dX5_keep_35 : decode cX5_keep 35 = .ok (.putfield 217, 3) := by decide +kernel
theorem dX5_keep_38 : decode cX5_keep 38 = .ok (.aload_n 2, 1) := by decide +kernel
theorem dX5_keep_39 : decode cX5_keep 39 = .ok (.iconst 1, 1) := by decide +kernel
theorem dX5_keep_40 : decode cX5_keep 40 = .ok (.putfield 218, 3) := by decide +kernel
theorem dX5_keep_43 : decode cX5_keep 43 = .ok (.aload_n 0, 1) := by decide +kernel
theorem dX5_keep_44 : decode cX5_keep 44 = .ok (.getfield 12, 3) := by decide +kernel
theorem dX5_keep_47 : decode cX5_keep 47 = .ok (.invokevirtual 220, 3) := by decide +kernel
theorem dX5_keep_50 : decode cX5_keep 50 = .ok (.iconst 1, 1) := by decide +kernel
theorem dX5_keep_51 : decode cX5_keep 51 = .ok (.ireturn, 1) := by decide +kernel
theorem dX5_goBack_0 : decode cX5_goBack 0 = .ok (.iload_n 1, 1) := by decide +kernel
theorem dX5_goBack_1 : decode cX5_goBack 1 = .ok (.iconst 0, 1) := by decide +kernel
theorem dX5_goBack_2 : decode cX5_goBack 2 = .ok (.iconst 1, 1) := by decide +kernel
theorem dX5_goBack_3 : decode cX5_goBack 3 = .ok (.invokestatic 112, 3) := by decide +kernel
theorem dX5_goBack_6 : decode cX5_goBack 6 = .ok (.ifCond .ne 6, 3) := by decide +kernel
theorem dX5_goBack_9 : decode cX5_goBack 9 = .ok (.ldc 101, 2) := by decide +kernel
theorem dX5_goBack_11 : decode cX5_goBack 11 = .ok (.ireturn, 1) := by decide +kernel
theorem dX5_goBack_12 : decode cX5_goBack 12 = .ok (.aload_n 0, 1) := by decide +kernel
theorem dX5_goBack_13 : decode cX5_goBack 13 = .ok (.getfield 25, 3) := by decide +kernel
theorem dX5_goBack_16 : decode cX5_goBack 16 = .ok (.iload_n 1, 1) := by decide +kernel
theorem dX5_goBack_17 : decode cX5_goBack 17 = .ok (.aaload, 1) := by decide +kernel
theorem dX5_goBack_18 : decode cX5_goBack 18 = .ok (.astore_n 2, 1) := by decide +kernel
theorem dX5_goBack_19 : decode cX5_goBack 19 = .ok (.aload_n 2, 1) := by decide +kernel
theorem dX5_goBack_20 : decode cX5_goBack 20 = .ok (.getfield 218, 3) := by decide +kernel
theorem dX5_goBack_23 : decode cX5_goBack 23 = .ok (.ifCond .ne 6, 3) := by decide +kernel
theorem dX5_goBack_26 : decode cX5_goBack 26 = .ok (.ldc 193, 2) := by decide +kernel
theorem dX5_goBack_28 : decode cX5_goBack 28 = .ok (.ireturn, 1) := by decide +kernel
theorem dX5_goBack_29 : decode cX5_goBack 29 = .ok (.aload_n 0, 1) := by decide +kernel
theorem dX5_goBack_30 : decode cX5_goBack 30 = .ok (.getfield 32, 3) := by decide +kernel
theorem dX5_goBack_33 : decode cX5_goBack 33 = .ok (.aload_n 2, 1) := by decide +kernel
theorem dX5_goBack_34 : decode cX5_goBack 34 = .ok (.getfield 213, 3) := by decide +kernel
theorem dX5_goBack_37 : decode cX5_goBack 37 = .ok (.invokevirtual 214, 3) := by decide +kernel
theorem dX5_goBack_40 : decode cX5_goBack 40 = .ok (.aload_n 0, 1) := by decide +kernel
theorem dX5_goBack_41 : decode cX5_goBack 41 = .ok (.aload_n 2, 1) := by decide +kernel
theorem dX5_goBack_42 : decode cX5_goBack 42 = .ok (.getfield 217, 3) := by decide +kernel
theorem dX5_goBack_45 : decode cX5_goBack 45 = .ok (.putfield 93, 3) := by decide +kernel
theorem dX5_goBack_48 : decode cX5_goBack 48 = .ok (.aload_n 0, 1) := by decide +kernel
theorem dX5_goBack_49 : decode cX5_goBack 49 = .ok (.getfield 12, 3) := by decide +kernel
theorem dX5_goBack_52 : decode cX5_goBack 52 = .ok (.invokevirtual 220, 3) := by decide +kernel
theorem dX5_goBack_55 : decode cX5_goBack 55 = .ok (.iconst 1, 1) := by decide +kernel
theorem dX5_goBack_56 : decode cX5_goBack 56 = .ok (.ireturn, 1) := by decide +kernel
theorem dX5_isWithin_0 : decode cX5_isWithin 0 = .ok (.iload_n 0, 1) := by decide +kernel
theorem dX5_isWithin_1 : decode cX5_isWithin 1 = .ok (.iload_n 1, 1) := by decide +kernel
theorem dX5_isWithin_2 : decode cX5_isWithin 2 = .ok (.if_icmp .lt 12, 3) := by decide +kernel
theorem dX5_isWithin_5 : decode cX5_isWithin 5 = .ok (.iload_n 0, 1) := by decide +kernel
theorem dX5_isWithin_6 : decode cX5_isWithin 6 = .ok (.iload_n 2, 1) := by decide +kernel
theorem dX5_isWithin_7 : decode cX5_isWithin 7 = .ok (.if_icmp .gt 7, 3) := by decide +kernel
theorem dX5_isWithin_10 : decode cX5_isWithin 10 = .ok (.iconst 1, 1) := by decide +kernel
theorem dX5_isWithin_11 : decode cX5_isWithin 11 = .ok (.goto 4, 3) := by decide +kernel
theorem dX5_isWithin_14 : decode cX5_isWithin 14 = .ok (.iconst 0, 1) := by decide +kernel
theorem dX5_isWithin_15 : decode cX5_isWithin 15 = .ok (.ireturn, 1) := by decide +kernel
theorem dX5_isPlace_0 : decode cX5_isPlace 0 = .ok (.iload_n 0, 1) := by decide +kernel
theorem dX5_isPlace_1 : decode cX5_isPlace 1 = .ok (.iconst 0, 1) := by decide +kernel
theorem dX5_isPlace_2 : decode cX5_isPlace 2 = .ok (.bipush 31, 2) := by decide +kernel
theorem dX5_isPlace_4 : decode cX5_isPlace 4 = .ok (.invokestatic 112, 3) := by decide +kernel
theorem dX5_isPlace_7 : decode cX5_isPlace 7 = .ok (.ifCond .eq 17, 3) := by decide +kernel
theorem dX5_isPlace_10 : decode cX5_isPlace 10 = .ok (.iload_n 1, 1) := by decide +kernel
theorem dX5_isPlace_11 : decode cX5_isPlace 11 = .ok (.iconst 0, 1) := by decide +kernel
theorem dX5_isPlace_12 : decode cX5_isPlace 12 = .ok (.bipush 31, 2) := by decide +kernel
theorem dX5_isPlace_14 : decode cX5_isPlace 14 = .ok (.invokestatic 112, 3) := by decide +kernel
theorem dX5_isPlace_17 : decode cX5_isPlace 17 = .ok (.ifCond .eq 7, 3) := by decide +kernel
theorem dX5_isPlace_20 : decode cX5_isPlace 20 = .ok (.iconst 1, 1) := by decide +kernel
theorem dX5_isPlace_21 : decode cX5_isPlace 21 = .ok (.goto 4, 3) := by decide +kernel
theorem dX5_isPlace_24 : decode cX5_isPlace 24 = .ok (.iconst 0, 1) := by decide +kernel
theorem dX5_isPlace_25 : decode cX5_isPlace 25 = .ok (.ireturn, 1) := by decide +kernel
theorem dX5_isGrade_0 : decode cX5_isGrade 0 = .ok (.iload_n 0, 1) := by decide +kernel
theorem dX5_isGrade_1 : decode cX5_isGrade 1 = .ok (.iconst 0, 1) := by decide +kernel
theorem dX5_isGrade_2 : decode cX5_isGrade 2 = .ok (.sipush 999, 3) := by decide +kernel
theorem dX5_isGrade_5 : decode cX5_isGrade 5 = .ok (.invokestatic 112, 3) := by decide +kernel
theorem dX5_isGrade_8 : decode cX5_isGrade 8 = .ok (.ireturn, 1) := by decide +kernel
theorem dX5_isSample_0 : decode cX5_isSample 0 = .ok (.iload_n 1, 1) := by decide +kernel
theorem dX5_isSample_1 : decode cX5_isSample 1 = .ok (.iconst 0, 1) := by decide +kernel
theorem dX5_isSample_2 : decode cX5_isSample 2 = .ok (.aload_n 0, 1) := by decide +kernel
theorem dX5_isSample_3 : decode cX5_isSample 3 = .ok (.getfield 32, 3) := by decide +kernel
theorem dX5_isSample_6 : decode cX5_isSample 6 = .ok (.getfield 46, 3) := by decide +kernel
theorem dX5_isSample_9 : decode cX5_isSample 9 = .ok (.iconst 1, 1) := by decide +kernel
theorem dX5_isSample_10 : decode cX5_isSample 10 = .ok (.isub, 1) := by decide +kernel
theorem dX5_isSample_11 : decode cX5_isSample 11 = .ok (.invokestatic 112, 3) := by decide +kernel
theorem dX5_isSample_14 : decode cX5_isSample 14 = .ok (.ireturn, 1) := by decide +kernel
theorem dX5_weighLeftOut_0 : decode cX5_weighLeftOut 0 = .ok (.aload_n 0, 1) := by decide +kernel
theorem dX5_weighLeftOut_1 : decode cX5_weighLeftOut 1 = .ok (.getfield 41, 3) := by decide +kernel
theorem dX5_weighLeftOut_4 : decode cX5_weighLeftOut 4 = .ok (.aload_n 0, 1) := by decide +kernel
theorem dX5_weighLeftOut_5 : decode cX5_weighLeftOut 5 = .ok (.getfield 32, 3) := by decide +kernel
theorem dX5_weighLeftOut_8 : decode cX5_weighLeftOut 8 = .ok (.getfield 102, 3) := by decide +kernel
theorem dX5_weighLeftOut_11 : decode cX5_weighLeftOut 11 = .ok (.iload_n 1, 1) := by decide +kernel
theorem dX5_weighLeftOut_12 : decode cX5_weighLeftOut 12 = .ok (.iaload, 1) := by decide +kernel
theorem dX5_weighLeftOut_13 : decode cX5_weighLeftOut 13 = .ok (.aload_n 0, 1) := by decide +kernel
theorem dX5_weighLeftOut_14 : decode cX5_weighLeftOut 14 = .ok (.getfield 32, 3) := by decide +kernel
theorem dX5_weighLeftOut_17 : decode cX5_weighLeftOut 17 = .ok (.getfield 106, 3) := by decide +kernel
theorem dX5_weighLeftOut_20 : decode cX5_weighLeftOut 20 = .ok (.iload_n 1, 1) := by decide +kernel
theorem dX5_weighLeftOut_21 : decode cX5_weighLeftOut 21 = .ok (.iaload, 1) := by decide +kernel
theorem dX5_weighLeftOut_22 : decode cX5_weighLeftOut 22 = .ok (.iconst 1, 1) := by decide +kernel
theorem dX5_weighLeftOut_23 : decode cX5_weighLeftOut 23 = .ok (.iload_n 1, 1) := by decide +kernel
theorem dX5_weighLeftOut_24 : decode cX5_weighLeftOut 24 = .ok (.invokevirtual 128, 3) := by decide +kernel
theorem dX5_weighLeftOut_27 : decode cX5_weighLeftOut 27 = .ok (.return_, 1) := by decide +kernel
theorem dX5_errorAbove_0 : decode cX5_errorAbove 0 = .ok (.aload_n 0, 1) := by decide +kernel
theorem dX5_errorAbove_1 : decode cX5_errorAbove 1 = .ok (.getfield 41, 3) := by decide +kernel
theorem dX5_errorAbove_4 : decode cX5_errorAbove 4 = .ok (.invokevirtual 223, 3) := by decide +kernel
theorem dX5_errorAbove_7 : decode cX5_errorAbove 7 = .ok (.aload_n 0, 1) := by decide +kernel
theorem dX5_errorAbove_8 : decode cX5_errorAbove 8 = .ok (.getfield 32, 3) := by decide +kernel
theorem dX5_errorAbove_11 : decode cX5_errorAbove 11 = .ok (.getfield 109, 3) := by decide +kernel
theorem dX5_errorAbove_14 : decode cX5_errorAbove 14 = .ok (.iload_n 1, 1) := by decide +kernel
theorem dX5_errorAbove_15 : decode cX5_errorAbove 15 = .ok (.iaload, 1) := by decide +kernel
theorem dX5_errorAbove_16 : decode cX5_errorAbove 16 = .ok (.i2l, 1) := by decide +kernel
theorem dX5_errorAbove_17 : decode cX5_errorAbove 17 = .ok (.aload_n 0, 1) := by decide +kernel
theorem dX5_errorAbove_18 : decode cX5_errorAbove 18 = .ok (.getfield 41, 3) := by decide +kernel
theorem dX5_errorAbove_21 : decode cX5_errorAbove 21 = .ok (.invokevirtual 168, 3) := by decide +kernel
theorem dX5_errorAbove_24 : decode cX5_errorAbove 24 = .ok (.lmul, 1) := by decide +kernel
theorem dX5_errorAbove_25 : decode cX5_errorAbove 25 = .ok (.lsub, 1) := by decide +kernel
theorem dX5_errorAbove_26 : decode cX5_errorAbove 26 = .ok (.lreturn, 1) := by decide +kernel
theorem dX5_countWithoutLeftOut_0 : decode cX5_countWithoutLeftOut 0 = .ok (.iconst 0, 1) := by decide +kernel
theorem dX5_countWithoutLeftOut_1 : decode cX5_countWithoutLeftOut 1 = .ok (.istore_n 1, 1) := by decide +kernel
theorem dX5_countWithoutLeftOut_2 : decode cX5_countWithoutLeftOut 2 = .ok (.iconst 0, 1) := by decide +kernel
theorem dX5_countWithoutLeftOut_3 : decode cX5_countWithoutLeftOut 3 = .ok (.istore_n 2, 1) := by decide +kernel
theorem dX5_countWithoutLeftOut_4 : decode cX5_countWithoutLeftOut 4 = .ok (.iload_n 2, 1) := by decide +kernel
theorem dX5_countWithoutLeftOut_5 : decode cX5_countWithoutLeftOut 5 = .ok (.aload_n 0, 1) := by decide +kernel
theorem dX5_countWithoutLeftOut_6 : decode cX5_countWithoutLeftOut 6 = .ok (.getfield 32, 3) := by decide +kernel
theorem dX5_countWithoutLeftOut_9 : decode cX5_countWithoutLeftOut 9 = .ok (.getfield 46, 3) := by decide +kernel
theorem dX5_countWithoutLeftOut_12 : decode cX5_countWithoutLeftOut 12 = .ok (.if_icmp .ge 27, 3) := by decide +kernel
theorem dX5_countWithoutLeftOut_15 : decode cX5_countWithoutLeftOut 15 = .ok (.aload_n 0, 1) := by decide +kernel
theorem dX5_countWithoutLeftOut_16 : decode cX5_countWithoutLeftOut 16 = .ok (.iload_n 2, 1) := by decide +kernel
theorem dX5_countWithoutLeftOut_17 : decode cX5_countWithoutLeftOut 17 = .ok (.invokevirtual 178, 3) := by decide +kernel
theorem dX5_countWithoutLeftOut_20 : decode cX5_countWithoutLeftOut 20 = .ok (.aload_n 0, 1) := by decide +kernel
theorem dX5_countWithoutLeftOut_21 : decode cX5_countWithoutLeftOut 21 = .ok (.getfield 41, 3) := by decide +kernel
theorem dX5_countWithoutLeftOut_24 : decode cX5_countWithoutLeftOut 24 = .ok (.invokevirtual 138, 3) := by decide +kernel
theorem dX5_countWithoutLeftOut_27 : decode cX5_countWithoutLeftOut 27 = .ok (.ifCond .ne 6, 3) := by decide +kernel
theorem dX5_countWithoutLeftOut_30 : decode cX5_countWithoutLeftOut 30 = .ok (.iinc 1 1, 3) := by decide +kernel
theorem dX5_countWithoutLeftOut_33 : decode cX5_countWithoutLeftOut 33 = .ok (.iinc 2 1, 3) := by decide +kernel
theorem dX5_countWithoutLeftOut_36 : decode cX5_countWithoutLeftOut 36 = .ok (.goto (-32), 3) := by decide +kernel
theorem dX5_countWithoutLeftOut_39 : decode cX5_countWithoutLeftOut 39 = .ok (.iload_n 1, 1) := by decide +kernel
theorem dX5_countWithoutLeftOut_40 : decode cX5_countWithoutLeftOut 40 = .ok (.ireturn, 1) := by decide +kernel
theorem dX5_farthestError_0 : decode cX5_farthestError 0 = .ok (.iconst (-1), 1) := by decide +kernel
theorem dX5_farthestError_1 : decode cX5_farthestError 1 = .ok (.istore_n 1, 1) := by decide +kernel
theorem dX5_farthestError_2 : decode cX5_farthestError 2 = .ok (.lconst 0, 1) := by decide +kernel
theorem dX5_farthestError_3 : decode cX5_farthestError 3 = .ok (.lstore_n 2, 1) := by decide +kernel
theorem dX5_farthestError_4 : decode cX5_farthestError 4 = .ok (.lconst 1, 1) := by decide +kernel
theorem dX5_farthestError_5 : decode cX5_farthestError 5 = .ok (.lstore 4, 2) := by decide +kernel
theorem dX5_farthestError_7 : decode cX5_farthestError 7 = .ok (.iconst 0, 1) := by decide +kernel
theorem dX5_farthestError_8 : decode cX5_farthestError 8 = .ok (.istore 6, 2) := by decide +kernel
theorem dX5_farthestError_10 : decode cX5_farthestError 10 = .ok (.iload 6, 2) := by decide +kernel
theorem dX5_farthestError_12 : decode cX5_farthestError 12 = .ok (.aload_n 0, 1) := by decide +kernel
theorem dX5_farthestError_13 : decode cX5_farthestError 13 = .ok (.getfield 32, 3) := by decide +kernel
theorem dX5_farthestError_16 : decode cX5_farthestError 16 = .ok (.getfield 46, 3) := by decide +kernel
theorem dX5_farthestError_19 : decode cX5_farthestError 19 = .ok (.if_icmp .ge 76, 3) := by decide +kernel
theorem dX5_farthestError_22 : decode cX5_farthestError 22 = .ok (.aload_n 0, 1) := by decide +kernel
theorem dX5_farthestError_23 : decode cX5_farthestError 23 = .ok (.iload 6, 2) := by decide +kernel
theorem dX5_farthestError_25 : decode cX5_farthestError 25 = .ok (.invokevirtual 178, 3) := by decide +kernel
theorem dX5_farthestError_28 : decode cX5_farthestError 28 = .ok (.aload_n 0, 1) := by decide +kernel
theorem dX5_farthestError_29 : decode cX5_farthestError 29 = .ok (.getfield 41, 3) := by decide +kernel
theorem dX5_farthestError_32 : decode cX5_farthestError 32 = .ok (.invokevirtual 138, 3) := by decide +kernel
theorem dX5_farthestError_35 : decode cX5_farthestError 35 = .ok (.ifCond .ne 6, 3) := by decide +kernel
theorem dX5_farthestError_38 : decode cX5_farthestError 38 = .ok (.goto 51, 3) := by decide +kernel
theorem dX5_farthestError_41 : decode cX5_farthestError 41 = .ok (.aload_n 0, 1) := by decide +kernel
theorem dX5_farthestError_42 : decode cX5_farthestError 42 = .ok (.iload 6, 2) := by decide +kernel
theorem dX5_farthestError_44 : decode cX5_farthestError 44 = .ok (.invokevirtual 182, 3) := by decide +kernel
theorem dX5_farthestError_47 : decode cX5_farthestError 47 = .ok (.invokestatic 226, 3) := by decide +kernel
theorem dX5_farthestError_50 : decode cX5_farthestError 50 = .ok (.lstore 7, 2) := by decide +kernel
theorem dX5_farthestError_52 : decode cX5_farthestError 52 = .ok (.aload_n 0, 1) := by decide +kernel
theorem dX5_farthestError_53 : decode cX5_farthestError 53 = .ok (.getfield 41, 3) := by decide +kernel
theorem dX5_farthestError_56 : decode cX5_farthestError 56 = .ok (.invokevirtual 168, 3) := by decide +kernel
theorem dX5_farthestError_59 : decode cX5_farthestError 59 = .ok (.lstore 9, 2) := by decide +kernel
theorem dX5_farthestError_61 : decode cX5_farthestError 61 = .ok (.iload_n 1, 1) := by decide +kernel
theorem dX5_farthestError_62 : decode cX5_farthestError 62 = .ok (.iconst (-1), 1) := by decide +kernel
theorem dX5_farthestError_63 : decode cX5_farthestError 63 = .ok (.if_icmp .eq 16, 3) := by decide +kernel
theorem dX5_farthestError_66 : decode cX5_farthestError 66 = .ok (.lload 7, 2) := by decide +kernel
theorem dX5_farthestError_68 : decode cX5_farthestError 68 = .ok (.lload 9, 2) := by decide +kernel
theorem dX5_farthestError_70 : decode cX5_farthestError 70 = .ok (.lload_n 2, 1) := by decide +kernel
theorem dX5_farthestError_71 : decode cX5_farthestError 71 = .ok (.lload 4, 2) := by decide +kernel
theorem dX5_farthestError_73 : decode cX5_farthestError 73 = .ok (.invokestatic 232, 3) := by decide +kernel
theorem dX5_farthestError_76 : decode cX5_farthestError 76 = .ok (.ifCond .eq 13, 3) := by decide +kernel
theorem dX5_farthestError_79 : decode cX5_farthestError 79 = .ok (.iload 6, 2) := by decide +kernel
theorem dX5_farthestError_81 : decode cX5_farthestError 81 = .ok (.istore_n 1, 1) := by decide +kernel
theorem dX5_farthestError_82 : decode cX5_farthestError 82 = .ok (.lload 7, 2) := by decide +kernel
theorem dX5_farthestError_84 : decode cX5_farthestError 84 = .ok (.lstore_n 2, 1) := by decide +kernel
theorem dX5_farthestError_85 : decode cX5_farthestError 85 = .ok (.lload 9, 2) := by decide +kernel
theorem dX5_farthestError_87 : decode cX5_farthestError 87 = .ok (.lstore 4, 2) := by decide +kernel
theorem dX5_farthestError_89 : decode cX5_farthestError 89 = .ok (.iinc 6 1, 3) := by decide +kernel
theorem dX5_farthestError_92 : decode cX5_farthestError 92 = .ok (.goto (-82), 3) := by decide +kernel
theorem dX5_farthestError_95 : decode cX5_farthestError 95 = .ok (.iload_n 1, 1) := by decide +kernel
theorem dX5_farthestError_96 : decode cX5_farthestError 96 = .ok (.ireturn, 1) := by decide +kernel
theorem dX5_nextHole_0 : decode cX5_nextHole 0 = .ok (.iconst (-1), 1) := by decide +kernel
theorem dX5_nextHole_1 : decode cX5_nextHole 1 = .ok (.istore 5, 2) := by decide +kernel
theorem dX5_nextHole_3 : decode cX5_nextHole 3 = .ok (.lconst 0, 1) := by decide +kernel
theorem dX5_nextHole_4 : decode cX5_nextHole 4 = .ok (.lstore 6, 2) := by decide +kernel
theorem dX5_nextHole_6 : decode cX5_nextHole 6 = .ok (.lconst 1, 1) := by decide +kernel
theorem dX5_nextHole_7 : decode cX5_nextHole 7 = .ok (.lstore 8, 2) := by decide +kernel
theorem dX5_nextHole_9 : decode cX5_nextHole 9 = .ok (.iload_n 2, 1) := by decide +kernel
theorem dX5_nextHole_10 : decode cX5_nextHole 10 = .ok (.istore 10, 2) := by decide +kernel
theorem dX5_nextHole_12 : decode cX5_nextHole 12 = .ok (.iload 10, 2) := by decide +kernel
theorem dX5_nextHole_14 : decode cX5_nextHole 14 = .ok (.iload 4, 2) := by decide +kernel
theorem dX5_nextHole_16 : decode cX5_nextHole 16 = .ok (.if_icmp .gt 94, 3) := by decide +kernel
theorem dX5_nextHole_19 : decode cX5_nextHole 19 = .ok (.iload_n 1, 1) := by decide +kernel
theorem dX5_nextHole_20 : decode cX5_nextHole 20 = .ok (.istore 11, 2) := by decide +kernel
theorem dX5_nextHole_22 : decode cX5_nextHole 22 = .ok (.iload 11, 2) := by decide +kernel
theorem dX5_nextHole_24 : decode cX5_nextHole 24 = .ok (.iload_n 3, 1) := by decide +kernel
theorem dX5_nextHole_25 : decode cX5_nextHole 25 = .ok (.if_icmp .gt 79, 3) := by decide +kernel
theorem dX5_nextHole_28 : decode cX5_nextHole 28 = .ok (.aload_n 0, 1) := by decide +kernel
theorem dX5_nextHole_29 : decode cX5_nextHole 29 = .ok (.iload 11, 2) := by decide +kernel
theorem dX5_nextHole_31 : decode cX5_nextHole 31 = .ok (.iload 10, 2) := by decide +kernel
theorem dX5_nextHole_33 : decode cX5_nextHole 33 = .ok (.invokevirtual 236, 3) := by decide +kernel
theorem dX5_nextHole_36 : decode cX5_nextHole 36 = .ok (.ifCond .ne 6, 3) := by decide +kernel
theorem dX5_nextHole_39 : decode cX5_nextHole 39 = .ok (.goto 59, 3) := by decide +kernel
theorem dX5_nextHole_42 : decode cX5_nextHole 42 = .ok (.aload_n 0, 1) := by decide +kernel
theorem dX5_nextHole_43 : decode cX5_nextHole 43 = .ok (.getfield 41, 3) := by decide +kernel
theorem dX5_nextHole_46 : decode cX5_nextHole 46 = .ok (.invokevirtual 239, 3) := by decide +kernel
theorem dX5_nextHole_49 : decode cX5_nextHole 49 = .ok (.lstore 12, 2) := by decide +kernel
theorem dX5_nextHole_51 : decode cX5_nextHole 51 = .ok (.aload_n 0, 1) := by decide +kernel
theorem dX5_nextHole_52 : decode cX5_nextHole 52 = .ok (.getfield 41, 3) := by decide +kernel
theorem dX5_nextHole_55 : decode cX5_nextHole 55 = .ok (.invokevirtual 242, 3) := by decide +kernel
theorem dX5_nextHole_58 : decode cX5_nextHole 58 = .ok (.lstore 14, 2) := by decide +kernel
theorem dX5_nextHole_60 : decode cX5_nextHole 60 = .ok (.iload 5, 2) := by decide +kernel
theorem dX5_nextHole_62 : decode cX5_nextHole 62 = .ok (.iconst (-1), 1) := by decide +kernel
theorem dX5_nextHole_63 : decode cX5_nextHole 63 = .ok (.if_icmp .eq 17, 3) := by decide +kernel
theorem dX5_nextHole_66 : decode cX5_nextHole 66 = .ok (.lload 12, 2) := by decide +kernel
theorem dX5_nextHole_68 : decode cX5_nextHole 68 = .ok (.lload 14, 2) := by decide +kernel
theorem dX5_nextHole_70 : decode cX5_nextHole 70 = .ok (.lload 6, 2) := by decide +kernel
theorem dX5_nextHole_72 : decode cX5_nextHole 72 = .ok (.lload 8, 2) := by decide +kernel
theorem dX5_nextHole_74 : decode cX5_nextHole 74 = .ok (.invokestatic 232, 3) := by decide +kernel
theorem dX5_nextHole_77 : decode cX5_nextHole 77 = .ok (.ifCond .eq 21, 3) := by decide +kernel
theorem dX5_nextHole_80 : decode cX5_nextHole 80 = .ok (.bipush 100, 2) := by decide +kernel
theorem dX5_nextHole_82 : decode cX5_nextHole 82 = .ok (.iload 10, 2) := by decide +kernel
theorem dX5_nextHole_84 : decode cX5_nextHole 84 = .ok (.imul, 1) := by decide +kernel
theorem dX5_nextHole_85 : decode cX5_nextHole 85 = .ok (.iload 11, 2) := by decide +kernel
theorem dX5_nextHole_87 : decode cX5_nextHole 87 = .ok (.iadd, 1) := by decide +kernel
theorem dX5_nextHole_88 : decode cX5_nextHole 88 = .ok (.istore 5, 2) := by decide +kernel
theorem dX5_nextHole_90 : decode cX5_nextHole 90 = .ok (.lload 12, 2) := by decide +kernel
theorem dX5_nextHole_92 : decode cX5_nextHole 92 = .ok (.lstore 6, 2) := by decide +kernel
theorem dX5_nextHole_94 : decode cX5_nextHole 94 = .ok (.lload 14, 2) := by decide +kernel
theorem dX5_nextHole_96 : decode cX5_nextHole 96 = .ok (.lstore 8, 2) := by decide +kernel
theorem dX5_nextHole_98 : decode cX5_nextHole 98 = .ok (.iinc 11 1, 3) := by decide +kernel
theorem dX5_nextHole_101 : decode cX5_nextHole 101 = .ok (.goto (-79), 3) := by decide +kernel
theorem dX5_nextHole_104 : decode cX5_nextHole 104 = .ok (.iinc 10 1, 3) := by decide +kernel
theorem dX5_nextHole_107 : decode cX5_nextHole 107 = .ok (.goto (-95), 3) := by decide +kernel
theorem dX5_nextHole_110 : decode cX5_nextHole 110 = .ok (.iload 5, 2) := by decide +kernel
theorem dX5_nextHole_112 : decode cX5_nextHole 112 = .ok (.ireturn, 1) := by decide +kernel
theorem dX5_weighEmptyPlace_0 : decode cX5_weighEmptyPlace 0 = .ok (.aload_n 0, 1) := by decide +kernel
theorem dX5_weighEmptyPlace_1 : decode cX5_weighEmptyPlace 1 = .ok (.getfield 32, 3) := by decide +kernel
theorem dX5_weighEmptyPlace_4 : decode cX5_weighEmptyPlace 4 = .ok (.iload_n 1, 1) := by decide +kernel
theorem dX5_weighEmptyPlace_5 : decode cX5_weighEmptyPlace 5 = .ok (.iload_n 2, 1) := by decide +kernel
theorem dX5_weighEmptyPlace_6 : decode cX5_weighEmptyPlace 6 = .ok (.invokevirtual 124, 3) := by decide +kernel
theorem dX5_weighEmptyPlace_9 : decode cX5_weighEmptyPlace 9 = .ok (.iconst (-1), 1) := by decide +kernel
theorem dX5_weighEmptyPlace_10 : decode cX5_weighEmptyPlace 10 = .ok (.if_icmp .eq 5, 3) := by decide +kernel
theorem dX5_weighEmptyPlace_13 : decode cX5_weighEmptyPlace 13 = .ok (.iconst 0, 1) := by decide +kernel
theorem dX5_weighEmptyPlace_14 : decode cX5_weighEmptyPlace 14 = .ok (.ireturn, 1) := by decide +kernel
theorem dX5_weighEmptyPlace_15 : decode cX5_weighEmptyPlace 15 = .ok (.aload_n 0, 1) := by decide +kernel
theorem dX5_weighEmptyPlace_16 : decode cX5_weighEmptyPlace 16 = .ok (.getfield 41, 3) := by decide +kernel
theorem dX5_weighEmptyPlace_19 : decode cX5_weighEmptyPlace 19 = .ok (.iload_n 1, 1) := by decide +kernel
theorem dX5_weighEmptyPlace_20 : decode cX5_weighEmptyPlace 20 = .ok (.iload_n 2, 1) := by decide +kernel
theorem dX5_weighEmptyPlace_21 : decode cX5_weighEmptyPlace 21 = .ok (.iconst 1, 1) := by decide +kernel
theorem dX5_weighEmptyPlace_22 : decode cX5_weighEmptyPlace 22 = .ok (.iconst (-1), 1) := by decide +kernel
theorem dX5_weighEmptyPlace_23 : decode cX5_weighEmptyPlace 23 = .ok (.invokevirtual 128, 3) := by decide +kernel
theorem dX5_weighEmptyPlace_26 : decode cX5_weighEmptyPlace 26 = .ok (.aload_n 0, 1) := by decide +kernel
theorem dX5_weighEmptyPlace_27 : decode cX5_weighEmptyPlace 27 = .ok (.getfield 41, 3) := by decide +kernel
theorem dX5_weighEmptyPlace_30 : decode cX5_weighEmptyPlace 30 = .ok (.invokevirtual 138, 3) := by decide +kernel
theorem dX5_weighEmptyPlace_33 : decode cX5_weighEmptyPlace 33 = .ok (.ireturn, 1) := by decide +kernel
theorem dX5_nextDraw_0 : decode cX5_nextDraw 0 = .ok (.aload_n 0, 1) := by decide +kernel
theorem dX5_nextDraw_1 : decode cX5_nextDraw 1 = .ok (.aload_n 0, 1) := by decide +kernel
theorem dX5_nextDraw_2 : decode cX5_nextDraw 2 = .ok (.getfield 93, 3) := by decide +kernel
theorem dX5_nextDraw_5 : decode cX5_nextDraw 5 = .ok (.i2l, 1) := by decide +kernel
theorem dX5_nextDraw_6 : decode cX5_nextDraw 6 = .ok (.ldc2_w 245, 3) := by decide +kernel
theorem dX5_nextDraw_9 : decode cX5_nextDraw 9 = .ok (.lmul, 1) := by decide +kernel
theorem dX5_nextDraw_10 : decode cX5_nextDraw 10 = .ok (.ldc2_w 247, 3) := by decide +kernel
theorem dX5_nextDraw_13 : decode cX5_nextDraw 13 = .ok (.ladd, 1) := by decide +kernel
theorem dX5_nextDraw_14 : decode cX5_nextDraw 14 = .ok (.ldc2_w 249, 3) := by decide +kernel
theorem dX5_nextDraw_17 : decode cX5_nextDraw 17 = .ok (.land, 1) := by decide +kernel
theorem dX5_nextDraw_18 : decode cX5_nextDraw 18 = .ok (.l2i, 1) := by decide +kernel
theorem dX5_nextDraw_19 : decode cX5_nextDraw 19 = .ok (.putfield 93, 3) := by decide +kernel
theorem dX5_nextDraw_22 : decode cX5_nextDraw 22 = .ok (.aload_n 0, 1) := by decide +kernel
theorem dX5_nextDraw_23 : decode cX5_nextDraw 23 = .ok (.getfield 93, 3) := by decide +kernel
theorem dX5_nextDraw_26 : decode cX5_nextDraw 26 = .ok (.ldc 251, 2) := by decide +kernel
theorem dX5_nextDraw_28 : decode cX5_nextDraw 28 = .ok (.idiv, 1) := by decide +kernel
theorem dX5_nextDraw_29 : decode cX5_nextDraw 29 = .ok (.ireturn, 1) := by decide +kernel
theorem dX5_sampleByDraws_0 : decode cX5_sampleByDraws 0 = .ok (.aload_n 0, 1) := by decide +kernel
theorem dX5_sampleByDraws_1 : decode cX5_sampleByDraws 1 = .ok (.invokevirtual 252, 3) := by decide +kernel
theorem dX5_sampleByDraws_4 : decode cX5_sampleByDraws 4 = .ok (.bipush 32, 2) := by decide +kernel
theorem dX5_sampleByDraws_6 : decode cX5_sampleByDraws 6 = .ok (.irem, 1) := by decide +kernel
theorem dX5_sampleByDraws_7 : decode cX5_sampleByDraws 7 = .ok (.istore_n 1, 1) := by decide +kernel
theorem dX5_sampleByDraws_8 : decode cX5_sampleByDraws 8 = .ok (.aload_n 0, 1) := by decide +kernel
theorem dX5_sampleByDraws_9 : decode cX5_sampleByDraws 9 = .ok (.invokevirtual 252, 3) := by decide +kernel
theorem dX5_sampleByDraws_12 : decode cX5_sampleByDraws 12 = .ok (.bipush 32, 2) := by decide +kernel
theorem dX5_sampleByDraws_14 : decode cX5_sampleByDraws 14 = .ok (.irem, 1) := by decide +kernel
theorem dX5_sampleByDraws_15 : decode cX5_sampleByDraws 15 = .ok (.istore_n 2, 1) := by decide +kernel
theorem dX5_sampleByDraws_16 : decode cX5_sampleByDraws 16 = .ok (.aload_n 0, 1) := by decide +kernel
theorem dX5_sampleByDraws_17 : decode cX5_sampleByDraws 17 = .ok (.invokevirtual 252, 3) := by decide +kernel
theorem dX5_sampleByDraws_20 : decode cX5_sampleByDraws 20 = .ok (.sipush 1000, 3) := by decide +kernel
theorem dX5_sampleByDraws_23 : decode cX5_sampleByDraws 23 = .ok (.irem, 1) := by decide +kernel
theorem dX5_sampleByDraws_24 : decode cX5_sampleByDraws 24 = .ok (.istore_n 3, 1) := by decide +kernel
theorem dX5_sampleByDraws_25 : decode cX5_sampleByDraws 25 = .ok (.aload_n 0, 1) := by decide +kernel
theorem dX5_sampleByDraws_26 : decode cX5_sampleByDraws 26 = .ok (.getfield 32, 3) := by decide +kernel
theorem dX5_sampleByDraws_29 : decode cX5_sampleByDraws 29 = .ok (.iload_n 1, 1) := by decide +kernel
theorem dX5_sampleByDraws_30 : decode cX5_sampleByDraws 30 = .ok (.iload_n 2, 1) := by decide +kernel
theorem dX5_sampleByDraws_31 : decode cX5_sampleByDraws 31 = .ok (.invokevirtual 124, 3) := by decide +kernel
theorem dX5_sampleByDraws_34 : decode cX5_sampleByDraws 34 = .ok (.iconst (-1), 1) := by decide +kernel
theorem dX5_sampleByDraws_35 : decode cX5_sampleByDraws 35 = .ok (.if_icmp .ne 24, 3) := by decide +kernel
theorem dX5_sampleByDraws_38 : decode cX5_sampleByDraws 38 = .ok (.aload_n 0, 1) := by decide +kernel
theorem dX5_sampleByDraws_39 : decode cX5_sampleByDraws 39 = .ok (.getfield 12, 3) := by decide +kernel
theorem dX5_sampleByDraws_42 : decode cX5_sampleByDraws 42 = .ok (.aload_n 0, 1) := by decide +kernel
theorem dX5_sampleByDraws_43 : decode cX5_sampleByDraws 43 = .ok (.getfield 32, 3) := by decide +kernel
theorem dX5_sampleByDraws_46 : decode cX5_sampleByDraws 46 = .ok (.invokevirtual 194, 3) := by decide +kernel
theorem dX5_sampleByDraws_49 : decode cX5_sampleByDraws 49 = .ok (.aload_n 0, 1) := by decide +kernel
theorem dX5_sampleByDraws_50 : decode cX5_sampleByDraws 50 = .ok (.getfield 32, 3) := by decide +kernel
theorem dX5_sampleByDraws_53 : decode cX5_sampleByDraws 53 = .ok (.iload_n 1, 1) := by decide +kernel
theorem dX5_sampleByDraws_54 : decode cX5_sampleByDraws 54 = .ok (.iload_n 2, 1) := by decide +kernel
theorem dX5_sampleByDraws_55 : decode cX5_sampleByDraws 55 = .ok (.iload_n 3, 1) := by decide +kernel
theorem dX5_sampleByDraws_56 : decode cX5_sampleByDraws 56 = .ok (.invokevirtual 197, 3) := by decide +kernel
theorem dX5_sampleByDraws_59 : decode cX5_sampleByDraws 59 = .ok (.return_, 1) := by decide +kernel
theorem dX5_firstWrong_0 : decode cX5_firstWrong 0 = .ok (.iconst 0, 1) := by decide +kernel
theorem dX5_firstWrong_1 : decode cX5_firstWrong 1 = .ok (.istore_n 1, 1) := by decide +kernel
theorem dX5_firstWrong_2 : decode cX5_firstWrong 2 = .ok (.iload_n 1, 1) := by decide +kernel
theorem dX5_firstWrong_3 : decode cX5_firstWrong 3 = .ok (.aload_n 0, 1) := by decide +kernel
theorem dX5_firstWrong_4 : decode cX5_firstWrong 4 = .ok (.getfield 19, 3) := by decide +kernel
theorem dX5_firstWrong_7 : decode cX5_firstWrong 7 = .ok (.getfield 84, 3) := by decide +kernel
theorem dX5_firstWrong_10 : decode cX5_firstWrong 10 = .ok (.if_icmp .ge 77, 3) := by decide +kernel
theorem dX5_firstWrong_13 : decode cX5_firstWrong 13 = .ok (.aload_n 0, 1) := by decide +kernel
theorem dX5_firstWrong_14 : decode cX5_firstWrong 14 = .ok (.getfield 41, 3) := by decide +kernel
theorem dX5_firstWrong_17 : decode cX5_firstWrong 17 = .ok (.aload_n 0, 1) := by decide +kernel
theorem dX5_firstWrong_18 : decode cX5_firstWrong 18 = .ok (.getfield 19, 3) := by decide +kernel
theorem dX5_firstWrong_21 : decode cX5_firstWrong 21 = .ok (.getfield 255, 3) := by decide +kernel
theorem dX5_firstWrong_24 : decode cX5_firstWrong 24 = .ok (.iload_n 1, 1) := by decide +kernel
theorem dX5_firstWrong_25 : decode cX5_firstWrong 25 = .ok (.iaload, 1) := by decide +kernel
theorem dX5_firstWrong_26 : decode cX5_firstWrong 26 = .ok (.aload_n 0, 1) := by decide +kernel
theorem dX5_firstWrong_27 : decode cX5_firstWrong 27 = .ok (.getfield 19, 3) := by decide +kernel
theorem dX5_firstWrong_30 : decode cX5_firstWrong 30 = .ok (.getfield 256, 3) := by decide +kernel
theorem dX5_firstWrong_33 : decode cX5_firstWrong 33 = .ok (.iload_n 1, 1) := by decide +kernel
theorem dX5_firstWrong_34 : decode cX5_firstWrong 34 = .ok (.iaload, 1) := by decide +kernel
theorem dX5_firstWrong_35 : decode cX5_firstWrong 35 = .ok (.iconst 1, 1) := by decide +kernel
theorem dX5_firstWrong_36 : decode cX5_firstWrong 36 = .ok (.iconst (-1), 1) := by decide +kernel
theorem dX5_firstWrong_37 : decode cX5_firstWrong 37 = .ok (.invokevirtual 128, 3) := by decide +kernel
theorem dX5_firstWrong_40 : decode cX5_firstWrong 40 = .ok (.aload_n 0, 1) := by decide +kernel
theorem dX5_firstWrong_41 : decode cX5_firstWrong 41 = .ok (.getfield 41, 3) := by decide +kernel
theorem dX5_firstWrong_44 : decode cX5_firstWrong 44 = .ok (.invokevirtual 138, 3) := by decide +kernel
theorem dX5_firstWrong_47 : decode cX5_firstWrong 47 = .ok (.ifCond .eq 13, 3) := by decide +kernel
theorem dX5_firstWrong_50 : decode cX5_firstWrong 50 = .ok (.aload_n 0, 1) := by decide +kernel
theorem dX5_firstWrong_51 : decode cX5_firstWrong 51 = .ok (.getfield 41, 3) := by decide +kernel
theorem dX5_firstWrong_54 : decode cX5_firstWrong 54 = .ok (.invokevirtual 257, 3) := by decide +kernel
theorem dX5_firstWrong_57 : decode cX5_firstWrong 57 = .ok (.goto 6, 3) := by decide +kernel
theorem dX5_firstWrong_60 : decode cX5_firstWrong 60 = .ok (.ldc2_w 260, 3) := by decide +kernel
theorem dX5_firstWrong_63 : decode cX5_firstWrong 63 = .ok (.lstore_n 2, 1) := by decide +kernel
theorem dX5_firstWrong_64 : decode cX5_firstWrong 64 = .ok (.lload_n 2, 1) := by decide +kernel
theorem dX5_firstWrong_65 : decode cX5_firstWrong 65 = .ok (.aload_n 0, 1) := by decide +kernel
theorem dX5_firstWrong_66 : decode cX5_firstWrong 66 = .ok (.getfield 19, 3) := by decide +kernel
theorem dX5_firstWrong_69 : decode cX5_firstWrong 69 = .ok (.getfield 262, 3) := by decide +kernel
theorem dX5_firstWrong_72 : decode cX5_firstWrong 72 = .ok (.iload_n 1, 1) := by decide +kernel
theorem dX5_firstWrong_73 : decode cX5_firstWrong 73 = .ok (.iaload, 1) := by decide +kernel
theorem dX5_firstWrong_74 : decode cX5_firstWrong 74 = .ok (.i2l, 1) := by decide +kernel
theorem dX5_firstWrong_75 : decode cX5_firstWrong 75 = .ok (.lcmp, 1) := by decide +kernel
theorem dX5_firstWrong_76 : decode cX5_firstWrong 76 = .ok (.ifCond .eq 5, 3) := by decide +kernel
theorem dX5_firstWrong_79 : decode cX5_firstWrong 79 = .ok (.iload_n 1, 1) := by decide +kernel
theorem dX5_firstWrong_80 : decode cX5_firstWrong 80 = .ok (.ireturn, 1) := by decide +kernel
theorem dX5_firstWrong_81 : decode cX5_firstWrong 81 = .ok (.iinc 1 1, 3) := by decide +kernel
theorem dX5_firstWrong_84 : decode cX5_firstWrong 84 = .ok (.goto (-82), 3) := by decide +kernel
theorem dX5_firstWrong_87 : decode cX5_firstWrong 87 = .ok (.iconst (-1), 1) := by decide +kernel
theorem dX5_firstWrong_88 : decode cX5_firstWrong 88 = .ok (.ireturn, 1) := by decide +kernel
theorem dX5_isMore_0 : decode cX5_isMore 0 = .ok (.lload_n 0, 1) := by decide +kernel
theorem dX5_isMore_1 : decode cX5_isMore 1 = .ok (.lload 6, 2) := by decide +kernel
theorem dX5_isMore_3 : decode cX5_isMore 3 = .ok (.lmul, 1) := by decide +kernel
theorem dX5_isMore_4 : decode cX5_isMore 4 = .ok (.lload 4, 2) := by decide +kernel
theorem dX5_isMore_6 : decode cX5_isMore 6 = .ok (.lload_n 2, 1) := by decide +kernel
theorem dX5_isMore_7 : decode cX5_isMore 7 = .ok (.lmul, 1) := by decide +kernel
theorem dX5_isMore_8 : decode cX5_isMore 8 = .ok (.lcmp, 1) := by decide +kernel
theorem dX5_isMore_9 : decode cX5_isMore 9 = .ok (.ifCond .le 7, 3) := by decide +kernel
theorem dX5_isMore_12 : decode cX5_isMore 12 = .ok (.iconst 1, 1) := by decide +kernel
theorem dX5_isMore_13 : decode cX5_isMore 13 = .ok (.goto 4, 3) := by decide +kernel
theorem dX5_isMore_16 : decode cX5_isMore 16 = .ok (.iconst 0, 1) := by decide +kernel
theorem dX5_isMore_17 : decode cX5_isMore 17 = .ok (.ireturn, 1) := by decide +kernel
theorem dX5_inLowestTerms_0 : decode cX5_inLowestTerms 0 = .ok (.lload_n 0, 1) := by decide +kernel
theorem dX5_inLowestTerms_1 : decode cX5_inLowestTerms 1 = .ok (.invokestatic 226, 3) := by decide +kernel
theorem dX5_inLowestTerms_4 : decode cX5_inLowestTerms 4 = .ok (.lload_n 2, 1) := by decide +kernel
theorem dX5_inLowestTerms_5 : decode cX5_inLowestTerms 5 = .ok (.invokestatic 265, 3) := by decide +kernel
theorem dX5_inLowestTerms_8 : decode cX5_inLowestTerms 8 = .ok (.lstore 5, 2) := by decide +kernel
theorem dX5_inLowestTerms_10 : decode cX5_inLowestTerms 10 = .ok (.lload 5, 2) := by decide +kernel
theorem dX5_inLowestTerms_12 : decode cX5_inLowestTerms 12 = .ok (.lconst 0, 1) := by decide +kernel
theorem dX5_inLowestTerms_13 : decode cX5_inLowestTerms 13 = .ok (.lcmp, 1) := by decide +kernel
theorem dX5_inLowestTerms_14 : decode cX5_inLowestTerms 14 = .ok (.ifCond .ne 7, 3) := by decide +kernel
theorem dX5_inLowestTerms_17 : decode cX5_inLowestTerms 17 = .ok (.ldc2_w 162, 3) := by decide +kernel
theorem dX5_inLowestTerms_20 : decode cX5_inLowestTerms 20 = .ok (.lreturn, 1) := by decide +kernel
theorem dX5_inLowestTerms_21 : decode cX5_inLowestTerms 21 = .ok (.iload 4, 2) := by decide +kernel
theorem dX5_inLowestTerms_23 : decode cX5_inLowestTerms 23 = .ok (.ifCond .ne 7, 3) := by decide +kernel
theorem dX5_inLowestTerms_26 : decode cX5_inLowestTerms 26 = .ok (.lload_n 0, 1) := by decide +kernel
theorem dX5_inLowestTerms_27 : decode cX5_inLowestTerms 27 = .ok (.goto 4, 3) := by decide +kernel
theorem dX5_inLowestTerms_30 : decode cX5_inLowestTerms 30 = .ok (.lload_n 2, 1) := by decide +kernel
theorem dX5_inLowestTerms_31 : decode cX5_inLowestTerms 31 = .ok (.lload 5, 2) := by decide +kernel
theorem dX5_inLowestTerms_33 : decode cX5_inLowestTerms 33 = .ok (.ldiv, 1) := by decide +kernel
theorem dX5_inLowestTerms_34 : decode cX5_inLowestTerms 34 = .ok (.lreturn, 1) := by decide +kernel
theorem dX5_commonDivisor_0 : decode cX5_commonDivisor 0 = .ok (.lload_n 0, 1) := by decide +kernel
theorem dX5_commonDivisor_1 : decode cX5_commonDivisor 1 = .ok (.lstore 4, 2) := by decide +kernel
theorem dX5_commonDivisor_3 : decode cX5_commonDivisor 3 = .ok (.lload_n 2, 1) := by decide +kernel
theorem dX5_commonDivisor_4 : decode cX5_commonDivisor 4 = .ok (.lstore 6, 2) := by decide +kernel
theorem dX5_commonDivisor_6 : decode cX5_commonDivisor 6 = .ok (.iconst 0, 1) := by decide +kernel
theorem dX5_commonDivisor_7 : decode cX5_commonDivisor 7 = .ok (.istore 8, 2) := by decide +kernel
theorem dX5_commonDivisor_9 : decode cX5_commonDivisor 9 = .ok (.iload 8, 2) := by decide +kernel
theorem dX5_commonDivisor_11 : decode cX5_commonDivisor 11 = .ok (.bipush 100, 2) := by decide +kernel
theorem dX5_commonDivisor_13 : decode cX5_commonDivisor 13 = .ok (.if_icmp .ge 31, 3) := by decide +kernel
theorem dX5_commonDivisor_16 : decode cX5_commonDivisor 16 = .ok (.lload 6, 2) := by decide +kernel
theorem dX5_commonDivisor_18 : decode cX5_commonDivisor 18 = .ok (.lconst 0, 1) := by decide +kernel
theorem dX5_commonDivisor_19 : decode cX5_commonDivisor 19 = .ok (.lcmp, 1) := by decide +kernel
theorem dX5_commonDivisor_20 : decode cX5_commonDivisor 20 = .ok (.ifCond .eq 24, 3) := by decide +kernel
theorem dX5_commonDivisor_23 : decode cX5_commonDivisor 23 = .ok (.lload 4, 2) := by decide +kernel
theorem dX5_commonDivisor_25 : decode cX5_commonDivisor 25 = .ok (.lload 6, 2) := by decide +kernel
theorem dX5_commonDivisor_27 : decode cX5_commonDivisor 27 = .ok (.lrem, 1) := by decide +kernel
theorem dX5_commonDivisor_28 : decode cX5_commonDivisor 28 = .ok (.lstore 9, 2) := by decide +kernel
theorem dX5_commonDivisor_30 : decode cX5_commonDivisor 30 = .ok (.lload 6, 2) := by decide +kernel
theorem dX5_commonDivisor_32 : decode cX5_commonDivisor 32 = .ok (.lstore 4, 2) := by decide +kernel
theorem dX5_commonDivisor_34 : decode cX5_commonDivisor 34 = .ok (.lload 9, 2) := by decide +kernel
theorem dX5_commonDivisor_36 : decode cX5_commonDivisor 36 = .ok (.lstore 6, 2) := by decide +kernel
theorem dX5_commonDivisor_38 : decode cX5_commonDivisor 38 = .ok (.iinc 8 1, 3) := by decide +kernel
theorem dX5_commonDivisor_41 : decode cX5_commonDivisor 41 = .ok (.goto (-32), 3) := by decide +kernel
theorem dX5_commonDivisor_44 : decode cX5_commonDivisor 44 = .ok (.lload 4, 2) := by decide +kernel
theorem dX5_commonDivisor_46 : decode cX5_commonDivisor 46 = .ok (.lreturn, 1) := by decide +kernel
theorem dX6_init_0 : decode cX6_init 0 = .ok (.aload_n 0, 1) := by decide +kernel
theorem dX6_init_1 : decode cX6_init 1 = .ok (.invokespecial 1, 3) := by decide +kernel
theorem dX6_init_4 : decode cX6_init 4 = .ok (.aload_n 0, 1) := by decide +kernel
theorem dX6_init_5 : decode cX6_init 5 = .ok (.sipush 760, 3) := by decide +kernel
theorem dX6_init_8 : decode cX6_init 8 = .ok (.newarray .int, 2) := by decide +kernel
theorem dX6_init_10 : decode cX6_init 10 = .ok (.putfield 7, 3) := by decide +kernel
theorem dX6_init_13 : decode cX6_init 13 = .ok (.aload_n 0, 1) := by decide +kernel
theorem dX6_init_14 : decode cX6_init 14 = .ok (.iconst 2, 1) := by decide +kernel
theorem dX6_init_15 : decode cX6_init 15 = .ok (.newarray .int, 2) := by decide +kernel
theorem dX6_init_17 : decode cX6_init 17 = .ok (.putfield 13, 3) := by decide +kernel
theorem dX6_init_20 : decode cX6_init 20 = .ok (.aload_n 0, 1) := by decide +kernel
theorem dX6_init_21 : decode cX6_init 21 = .ok (.bipush 20, 2) := by decide +kernel
theorem dX6_init_23 : decode cX6_init 23 = .ok (.newarray .int, 2) := by decide +kernel
theorem dX6_init_25 : decode cX6_init 25 = .ok (.putfield 16, 3) := by decide +kernel
theorem dX6_init_28 : decode cX6_init 28 = .ok (.aload_n 0, 1) := by decide +kernel
theorem dX6_init_29 : decode cX6_init 29 = .ok (.bipush 20, 2) := by decide +kernel
theorem dX6_init_31 : decode cX6_init 31 = .ok (.newarray .int, 2) := by decide +kernel
theorem dX6_init_33 : decode cX6_init 33 = .ok (.putfield 19, 3) := by decide +kernel
theorem dX6_init_36 : decode cX6_init 36 = .ok (.aload_n 0, 1) := by decide +kernel
theorem dX6_init_37 : decode cX6_init 37 = .ok (.bipush 20, 2) := by decide +kernel
theorem dX6_init_39 : decode cX6_init 39 = .ok (.newarray .int, 2) := by decide +kernel
theorem dX6_init_41 : decode cX6_init 41 = .ok (.putfield 22, 3) := by decide +kernel
theorem dX6_init_44 : decode cX6_init 44 = .ok (.aload_n 0, 1) := by decide +kernel
theorem dX6_init_45 : decode cX6_init 45 = .ok (.iconst 4, 1) := by decide +kernel
theorem dX6_init_46 : decode cX6_init 46 = .ok (.newarray .int, 2) := by decide +kernel
theorem dX6_init_48 : decode cX6_init 48 = .ok (.putfield 25, 3) := by decide +kernel
theorem dX6_init_51 : decode cX6_init 51 = .ok (.aload_n 0, 1) := by decide +kernel
theorem dX6_init_52 : decode cX6_init 52 = .ok (.iconst 4, 1) := by decide +kernel
theorem dX6_init_53 : decode cX6_init 53 = .ok (.newarray .int, 2) := by decide +kernel
theorem dX6_init_55 : decode cX6_init 55 = .ok (.putfield 28, 3) := by decide +kernel
theorem dX6_init_58 : decode cX6_init 58 = .ok (.aload_n 0, 1) := by decide +kernel
theorem dX6_init_59 : decode cX6_init 59 = .ok (.bipush 25, 2) := by decide +kernel
theorem dX6_init_61 : decode cX6_init 61 = .ok (.newarray .long, 2) := by decide +kernel
theorem dX6_init_63 : decode cX6_init 63 = .ok (.putfield 31, 3) := by decide +kernel
theorem dX6_init_66 : decode cX6_init 66 = .ok (.aload_n 0, 1) := by decide +kernel
theorem dX6_init_67 : decode cX6_init 67 = .ok (.iconst 5, 1) := by decide +kernel
theorem dX6_init_68 : decode cX6_init 68 = .ok (.newarray .long, 2) := by decide +kernel
theorem dX6_init_70 : decode cX6_init 70 = .ok (.putfield 35, 3) := by decide +kernel
theorem dX6_init_73 : decode cX6_init 73 = .ok (.aload_n 0, 1) := by decide +kernel
theorem dX6_init_74 : decode cX6_init 74 = .ok (.bipush 32, 2) := by decide +kernel
theorem dX6_init_76 : decode cX6_init 76 = .ok (.newarray .long, 2) := by decide +kernel
theorem dX6_init_78 : decode cX6_init 78 = .ok (.putfield 38, 3) := by decide +kernel
theorem dX6_init_81 : decode cX6_init 81 = .ok (.aload_n 0, 1) := by decide +kernel
theorem dX6_init_82 : decode cX6_init 82 = .ok (.iconst 5, 1) := by decide +kernel
theorem dX6_init_83 : decode cX6_init 83 = .ok (.newarray .long, 2) := by decide +kernel
theorem dX6_init_85 : decode cX6_init 85 = .ok (.putfield 41, 3) := by decide +kernel
theorem dX6_init_88 : decode cX6_init 88 = .ok (.aload_n 0, 1) := by decide +kernel
theorem dX6_init_89 : decode cX6_init 89 = .ok (.getfield 7, 3) := by decide +kernel
theorem dX6_init_92 : decode cX6_init 92 = .ok (.iconst 3, 1) := by decide +kernel
theorem dX6_init_93 : decode cX6_init 93 = .ok (.iconst 2, 1) := by decide +kernel
theorem dX6_init_94 : decode cX6_init 94 = .ok (.iastore, 1) := by decide +kernel
theorem dX6_init_95 : decode cX6_init 95 = .ok (.aload_n 0, 1) := by decide +kernel
theorem dX6_init_96 : decode cX6_init 96 = .ok (.getfield 7, 3) := by decide +kernel
theorem dX6_init_99 : decode cX6_init 99 = .ok (.iconst 4, 1) := by decide +kernel
theorem dX6_init_100 : decode cX6_init 100 = .ok (.iconst 5, 1) := by decide +kernel
theorem dX6_init_101 : decode cX6_init 101 = .ok (.iastore, 1) := by decide +kernel
theorem dX6_init_102 : decode cX6_init 102 = .ok (.aload_n 0, 1) := by decide +kernel
theorem dX6_init_103 : decode cX6_init 103 = .ok (.getfield 7, 3) := by decide +kernel
theorem dX6_init_106 : decode cX6_init 106 = .ok (.iconst 5, 1) := by decide +kernel
theorem dX6_init_107 : decode cX6_init 107 = .ok (.iconst 1, 1) := by decide +kernel
theorem dX6_init_108 : decode cX6_init 108 = .ok (.iastore, 1) := by decide +kernel
theorem dX6_init_109 : decode cX6_init 109 = .ok (.aload_n 0, 1) := by decide +kernel
theorem dX6_init_110 : decode cX6_init 110 = .ok (.getfield 7, 3) := by decide +kernel
theorem dX6_init_113 : decode cX6_init 113 = .ok (.bipush 6, 2) := by decide +kernel
theorem dX6_init_115 : decode cX6_init 115 = .ok (.bipush 12, 2) := by decide +kernel
theorem dX6_init_117 : decode cX6_init 117 = .ok (.iastore, 1) := by decide +kernel
theorem dX6_init_118 : decode cX6_init 118 = .ok (.aload_n 0, 1) := by decide +kernel
theorem dX6_init_119 : decode cX6_init 119 = .ok (.getfield 7, 3) := by decide +kernel
theorem dX6_init_122 : decode cX6_init 122 = .ok (.bipush 7, 2) := by decide +kernel
theorem dX6_init_124 : decode cX6_init 124 = .ok (.iconst 4, 1) := by decide +kernel
theorem dX6_init_125 : decode cX6_init 125 = .ok (.iastore, 1) := by decide +kernel
theorem dX6_init_126 : decode cX6_init 126 = .ok (.aload_n 0, 1) := by decide +kernel
theorem dX6_init_127 : decode cX6_init 127 = .ok (.getfield 7, 3) := by decide +kernel
theorem dX6_init_130 : decode cX6_init 130 = .ok (.bipush 8, 2) := by decide +kernel
theorem dX6_init_132 : decode cX6_init 132 = .ok (.iconst 4, 1) := by decide +kernel
theorem dX6_init_133 : decode cX6_init 133 = .ok (.iastore, 1) := by decide +kernel
theorem dX6_init_134 : decode cX6_init 134 = .ok (.aload_n 0, 1) := by decide +kernel
theorem dX6_init_135 : decode cX6_init 135 = .ok (.getfield 7, 3) := by decide +kernel
theorem dX6_init_138 : decode cX6_init 138 = .ok (.bipush 9, 2) := by decide +kernel
theorem dX6_init_140 : decode cX6_init 140 = .ok (.bipush 62, 2) := by decide +kernel
theorem dX6_init_142 : decode cX6_init 142 = .ok (.iastore, 1) := by decide +kernel
theorem dX6_init_143 : decode cX6_init 143 = .ok (.return_, 1) := by decide +kernel
theorem dX6_in_0 : decode cX6_in 0 = .ok (.lload_n 0, 1) := by decide +kernel
theorem dX6_in_1 : decode cX6_in 1 = .ok (.lload_n 2, 1) := by decide +kernel
theorem dX6_in_2 : decode cX6_in 2 = .ok (.lcmp, 1) := by decide +kernel
theorem dX6_in_3 : decode cX6_in 3 = .ok (.ifCond .lt 14, 3) := by decide +kernel
theorem dX6_in_6 : decode cX6_in 6 = .ok (.lload_n 0, 1) := by decide +kernel
theorem dX6_in_7 : decode cX6_in 7 = .ok (.lload 4, 2) := by decide +kernel
theorem dX6_in_9 : decode cX6_in 9 = .ok (.lcmp, 1) := by decide +kernel
theorem dX6_in_10 : decode cX6_in 10 = .ok (.ifCond .gt 7, 3) := by decide +kernel
theorem dX6_in_13 : decode cX6_in 13 = .ok (.iconst 1, 1) := by decide +kernel
theorem dX6_in_14 : decode cX6_in 14 = .ok (.goto 4, 3) := by decide +kernel
theorem dX6_in_17 : decode cX6_in 17 = .ok (.iconst 0, 1) := by decide +kernel
theorem dX6_in_18 : decode cX6_in 18 = .ok (.ireturn, 1) := by decide +kernel
theorem dX6_copyRow_0 : decode cX6_copyRow 0 = .ok (.iconst 0, 1) := by decide +kernel
theorem dX6_copyRow_1 : decode cX6_copyRow 1 = .ok (.istore_n 3, 1) := by decide +kernel
theorem dX6_copyRow_2 : decode cX6_copyRow 2 = .ok (.iload_n 3, 1) := by decide +kernel
theorem dX6_copyRow_3 : decode cX6_copyRow 3 = .ok (.bipush 40, 2) := by decide +kernel
theorem dX6_copyRow_5 : decode cX6_copyRow 5 = .ok (.if_icmp .ge 25, 3) := by decide +kernel
theorem dX6_copyRow_8 : decode cX6_copyRow 8 = .ok (.aload_n 0, 1) := by decide +kernel
theorem dX6_copyRow_9 : decode cX6_copyRow 9 = .ok (.getfield 7, 3) := by decide +kernel
theorem dX6_copyRow_12 : decode cX6_copyRow 12 = .ok (.iload_n 2, 1) := by decide +kernel
theorem dX6_copyRow_13 : decode cX6_copyRow 13 = .ok (.iload_n 3, 1) := by decide +kernel
theorem dX6_copyRow_14 : decode cX6_copyRow 14 = .ok (.iadd, 1) := by decide +kernel
theorem dX6_copyRow_15 : decode cX6_copyRow 15 = .ok (.aload_n 0, 1) := by decide +kernel
theorem dX6_copyRow_16 : decode cX6_copyRow 16 = .ok (.getfield 7, 3) := by decide +kernel
theorem dX6_copyRow_19 : decode cX6_copyRow 19 = .ok (.iload_n 1, 1) := by decide +kernel
theorem dX6_copyRow_20 : decode cX6_copyRow 20 = .ok (.iload_n 3, 1) := by decide +kernel
theorem dX6_copyRow_21 : decode cX6_copyRow 21 = .ok (.iadd, 1) := by decide +kernel
theorem dX6_copyRow_22 : decode cX6_copyRow 22 = .ok (.iaload, 1) := by decide +kernel
theorem dX6_copyRow_23 : decode cX6_copyRow 23 = .ok (.iastore, 1) := by decide +kernel
theorem dX6_copyRow_24 : decode cX6_copyRow 24 = .ok (.iinc 3 1, 3) := by decide +kernel
theorem dX6_copyRow_27 : decode cX6_copyRow 27 = .ok (.goto (-25), 3) := by decide +kernel
theorem dX6_copyRow_30 : decode cX6_copyRow 30 = .ok (.return_, 1) := by decide +kernel
theorem dX6_slot_0 : decode cX6_slot 0 = .ok (.bipush 10, 2) := by decide +kernel
theorem dX6_slot_2 : decode cX6_slot 2 = .ok (.iconst 3, 1) := by decide +kernel
theorem dX6_slot_3 : decode cX6_slot 3 = .ok (.iload_n 0, 1) := by decide +kernel
theorem dX6_slot_4 : decode cX6_slot 4 = .ok (.imul, 1) := by decide +kernel
theorem dX6_slot_5 : decode cX6_slot 5 = .ok (.iadd, 1) := by decide +kernel
theorem dX6_slot_6 : decode cX6_slot 6 = .ok (.ireturn, 1) := by decide +kernel
theorem dX6_isSample_0 : decode cX6_isSample 0 = .ok (.iload_n 1, 1) := by decide +kernel
theorem dX6_isSample_1 : decode cX6_isSample 1 = .ok (.i2l, 1) := by decide +kernel
theorem dX6_isSample_2 : decode cX6_isSample 2 = .ok (.lconst 0, 1) := by decide +kernel
theorem dX6_isSample_3 : decode cX6_isSample 3 = .ok (.aload_n 0, 1) := by decide +kernel
theorem dX6_isSample_4 : decode cX6_isSample 4 = .ok (.getfield 7, 3) := by decide +kernel
theorem dX6_isSample_7 : decode cX6_isSample 7 = .ok (.iconst 0, 1) := by decide +kernel
theorem dX6_isSample_8 : decode cX6_isSample 8 = .ok (.iaload, 1) := by decide +kernel
theorem dX6_isSample_9 : decode cX6_isSample 9 = .ok (.iconst 1, 1) := by decide +kernel
theorem dX6_isSample_10 : decode cX6_isSample 10 = .ok (.isub, 1) := by decide +kernel
theorem dX6_isSample_11 : decode cX6_isSample 11 = .ok (.i2l, 1) := by decide +kernel
theorem dX6_isSample_12 : decode cX6_isSample 12 = .ok (.invokestatic 44, 3) := by decide +kernel
theorem dX6_isSample_15 : decode cX6_isSample 15 = .ok (.ireturn, 1) := by decide +kernel
theorem dX6_isPlace_0 : decode cX6_isPlace 0 = .ok (.iload_n 0, 1) := by decide +kernel
theorem dX6_isPlace_1 : decode cX6_isPlace 1 = .ok (.i2l, 1) := by decide +kernel
theorem dX6_isPlace_2 : decode cX6_isPlace 2 = .ok (.lconst 0, 1) := by decide +kernel
theorem dX6_isPlace_3 : decode cX6_isPlace 3 = .ok (.ldc2_w 48, 3) := by decide +kernel
theorem dX6_isPlace_6 : decode cX6_isPlace 6 = .ok (.invokestatic 44, 3) := by decide +kernel
theorem dX6_isPlace_9 : decode cX6_isPlace 9 = .ok (.ifCond .eq 19, 3) := by decide +kernel
theorem dX6_isPlace_12 : decode cX6_isPlace 12 = .ok (.iload_n 1, 1) := by decide +kernel
theorem dX6_isPlace_13 : decode cX6_isPlace 13 = .ok (.i2l, 1) := by decide +kernel
theorem dX6_isPlace_14 : decode cX6_isPlace 14 = .ok (.lconst 0, 1) := by decide +kernel
theorem dX6_isPlace_15 : decode cX6_isPlace 15 = .ok (.ldc2_w 48, 3) := by decide +kernel
theorem dX6_isPlace_18 : decode cX6_isPlace 18 = .ok (.invokestatic 44, 3) := by decide +kernel
theorem dX6_isPlace_21 : decode cX6_isPlace 21 = .ok (.ifCond .eq 7, 3) := by decide +kernel
theorem dX6_isPlace_24 : decode cX6_isPlace 24 = .ok (.iconst 1, 1) := by decide +kernel
theorem dX6_isPlace_25 : decode cX6_isPlace 25 = .ok (.goto 4, 3) := by decide +kernel
theorem dX6_isPlace_28 : decode cX6_isPlace 28 = .ok (.iconst 0, 1) := by decide +kernel
theorem dX6_isPlace_29 : decode cX6_isPlace 29 = .ok (.ireturn, 1) := by decide +kernel
theorem dX6_there_0 : decode cX6_there 0 = .ok (.iconst 0, 1) := by decide +kernel
theorem dX6_there_1 : decode cX6_there 1 = .ok (.istore_n 3, 1) := by decide +kernel
theorem dX6_there_2 : decode cX6_there 2 = .ok (.iload_n 3, 1) := by decide +kernel
theorem dX6_there_3 : decode cX6_there 3 = .ok (.aload_n 0, 1) := by decide +kernel
theorem dX6_there_4 : decode cX6_there 4 = .ok (.getfield 7, 3) := by decide +kernel
theorem dX6_there_7 : decode cX6_there 7 = .ok (.iconst 0, 1) := by decide +kernel
theorem dX6_there_8 : decode cX6_there 8 = .ok (.iaload, 1) := by decide +kernel
theorem dX6_there_9 : decode cX6_there 9 = .ok (.if_icmp .ge 39, 3) := by decide +kernel
theorem dX6_there_12 : decode cX6_there 12 = .ok (.aload_n 0, 1) := by decide +kernel
theorem dX6_there_13 : decode cX6_there 13 = .ok (.getfield 7, 3) := by decide +kernel
theorem dX6_there_16 : decode cX6_there 16 = .ok (.iload_n 3, 1) := by decide +kernel
theorem dX6_there_17 : decode cX6_there 17 = .ok (.invokestatic 50, 3) := by decide +kernel
theorem dX6_there_20 : decode cX6_there 20 = .ok (.iaload, 1) := by decide +kernel
theorem dX6_there_21 : decode cX6_there 21 = .ok (.iload_n 1, 1) := by decide +kernel
theorem dX6_there_22 : decode cX6_there 22 = .ok (.if_icmp .ne 20, 3) := by decide +kernel
theorem dX6_there_25 : decode cX6_there 25 = .ok (.aload_n 0, 1) := by decide +kernel
theorem dX6_there_26 : decode cX6_there 26 = .ok (.getfield 7, 3) := by decide +kernel
theorem dX6_there_29 : decode cX6_there 29 = .ok (.iload_n 3, 1) := by decide +kernel
theorem dX6_there_30 : decode cX6_there 30 = .ok (.invokestatic 50, 3) := by decide +kernel
theorem dX6_there_33 : decode cX6_there 33 = .ok (.iconst 1, 1) := by decide +kernel
theorem dX6_there_34 : decode cX6_there 34 = .ok (.iadd, 1) := by decide +kernel
theorem dX6_there_35 : decode cX6_there 35 = .ok (.iaload, 1) := by decide +kernel
theorem dX6_there_36 : decode cX6_there 36 = .ok (.iload_n 2, 1) := by decide +kernel
theorem dX6_there_37 : decode cX6_there 37 = .ok (.if_icmp .ne 5, 3) := by decide +kernel
theorem dX6_there_40 : decode cX6_there 40 = .ok (.iload_n 3, 1) := by decide +kernel
theorem dX6_there_41 : decode cX6_there 41 = .ok (.ireturn, 1) := by decide +kernel
theorem dX6_there_42 : decode cX6_there 42 = .ok (.iinc 3 1, 3) := by decide +kernel
theorem dX6_there_45 : decode cX6_there 45 = .ok (.goto (-43), 3) := by decide +kernel
theorem dX6_there_48 : decode cX6_there 48 = .ok (.iconst (-1), 1) := by decide +kernel
theorem dX6_there_49 : decode cX6_there 49 = .ok (.ireturn, 1) := by decide +kernel
theorem dX6_far_0 : decode cX6_far 0 = .ok (.iload_n 1, 1) := by decide +kernel
theorem dX6_far_1 : decode cX6_far 1 = .ok (.iload_n 3, 1) := by decide +kernel
theorem dX6_far_2 : decode cX6_far 2 = .ok (.if_icmp .le 9, 3) := by decide +kernel
theorem dX6_far_5 : decode cX6_far 5 = .ok (.iload_n 1, 1) := by decide +kernel
theorem dX6_far_6 : decode cX6_far 6 = .ok (.iload_n 3, 1) := by decide +kernel
theorem dX6_far_7 : decode cX6_far 7 = .ok (.isub, 1) := by decide +kernel
theorem dX6_far_8 : decode cX6_far 8 = .ok (.goto 6, 3) := by decide +kernel
theorem dX6_far_11 : decode cX6_far 11 = .ok (.iload_n 3, 1) := by decide +kernel
theorem dX6_far_12 : decode cX6_far 12 = .ok (.iload_n 1, 1) := by decide +kernel
theorem dX6_far_13 : decode cX6_far 13 = .ok (.isub, 1) := by decide +kernel
theorem dX6_far_14 : decode cX6_far 14 = .ok (.istore 5, 2) := by decide +kernel
theorem dX6_far_16 : decode cX6_far 16 = .ok (.iload_n 2, 1) := by decide +kernel
theorem dX6_far_17 : decode cX6_far 17 = .ok (.iload 4, 2) := by decide +kernel
theorem dX6_far_19 : decode cX6_far 19 = .ok (.if_icmp .le 10, 3) := by decide +kernel
theorem dX6_far_22 : decode cX6_far 22 = .ok (.iload_n 2, 1) := by decide +kernel
theorem dX6_far_23 : decode cX6_far 23 = .ok (.iload 4, 2) := by decide +kernel
theorem dX6_far_25 : decode cX6_far 25 = .ok (.isub, 1) := by decide +kernel
theorem dX6_far_26 : decode cX6_far 26 = .ok (.goto 7, 3) := by decide +kernel
theorem dX6_far_29 : decode cX6_far 29 = .ok (.iload 4, 2) := by decide +kernel
theorem dX6_far_31 : decode cX6_far 31 = .ok (.iload_n 2, 1) := by decide +kernel
theorem dX6_far_32 : decode cX6_far 32 = .ok (.isub, 1) := by decide +kernel
theorem dX6_far_33 : decode cX6_far 33 = .ok (.istore 6, 2) := by decide +kernel
theorem dX6_far_35 : decode cX6_far 35 = .ok (.aload_n 0, 1) := by decide +kernel
theorem dX6_far_36 : decode cX6_far 36 = .ok (.getfield 7, 3) := by decide +kernel
theorem dX6_far_39 : decode cX6_far 39 = .ok (.iconst 1, 1) := by decide +kernel
theorem dX6_far_40 : decode cX6_far 40 = .ok (.iaload, 1) := by decide +kernel
theorem dX6_far_41 : decode cX6_far 41 = .ok (.ifCond .ne 9, 3) := by decide +kernel
theorem dX6_far_44 : decode cX6_far 44 = .ok (.iload 5, 2) := by decide +kernel
theorem dX6_far_46 : decode cX6_far 46 = .ok (.iload 6, 2) := by decide +kernel
theorem dX6_far_48 : decode cX6_far 48 = .ok (.iadd, 1) := by decide +kernel
theorem dX6_far_49 : decode cX6_far 49 = .ok (.ireturn, 1) := by decide +kernel
theorem dX6_far_50 : decode cX6_far 50 = .ok (.iload 5, 2) := by decide +kernel
theorem dX6_far_52 : decode cX6_far 52 = .ok (.iload 6, 2) := by decide +kernel
theorem dX6_far_54 : decode cX6_far 54 = .ok (.if_icmp .le 8, 3) := by decide +kernel
theorem dX6_far_57 : decode cX6_far 57 = .ok (.iload 5, 2) := by decide +kernel
theorem dX6_far_59 : decode cX6_far 59 = .ok (.goto 5, 3) := by decide +kernel
theorem dX6_far_62 : decode cX6_far 62 = .ok (.iload 6, 2) := by decide +kernel
theorem dX6_far_64 : decode cX6_far 64 = .ok (.ireturn, 1) := by decide +kernel
theorem dX6_unlikeOf_0 : decode cX6_unlikeOf 0 = .ok (.iload_n 1, 1) := by decide +kernel
theorem dX6_unlikeOf_1 : decode cX6_unlikeOf 1 = .ok (.ifCond .ne 5, 3) := by decide +kernel
theorem dX6_unlikeOf_4 : decode cX6_unlikeOf 4 = .ok (.iconst 0, 1) := by decide +kernel
theorem dX6_unlikeOf_5 : decode cX6_unlikeOf 5 = .ok (.ireturn, 1) := by decide +kernel
theorem dX6_unlikeOf_6 : decode cX6_unlikeOf 6 = .ok (.iload_n 1, 1) := by decide +kernel
theorem dX6_unlikeOf_7 : decode cX6_unlikeOf 7 = .ok (.aload_n 0, 1) := by decide +kernel
theorem dX6_unlikeOf_8 : decode cX6_unlikeOf 8 = .ok (.getfield 7, 3) := by decide +kernel
theorem dX6_unlikeOf_11 : decode cX6_unlikeOf 11 = .ok (.iconst 4, 1) := by decide +kernel
theorem dX6_unlikeOf_12 : decode cX6_unlikeOf 12 = .ok (.iaload, 1) := by decide +kernel
theorem dX6_unlikeOf_13 : decode cX6_unlikeOf 13 = .ok (.if_icmp .ge 7, 3) := by decide +kernel
theorem dX6_unlikeOf_16 : decode cX6_unlikeOf 16 = .ok (.iload_n 1, 1) := by decide +kernel
theorem dX6_unlikeOf_17 : decode cX6_unlikeOf 17 = .ok (.goto 9, 3) := by decide +kernel
theorem dX6_unlikeOf_20 : decode cX6_unlikeOf 20 = .ok (.aload_n 0, 1) := by decide +kernel
theorem dX6_unlikeOf_21 : decode cX6_unlikeOf 21 = .ok (.getfield 7, 3) := by decide +kernel
theorem dX6_unlikeOf_24 : decode cX6_unlikeOf 24 = .ok (.iconst 4, 1) := by decide +kernel
theorem dX6_unlikeOf_25 : decode cX6_unlikeOf 25 = .ok (.iaload, 1) := by decide +kernel
theorem dX6_unlikeOf_26 : decode cX6_unlikeOf 26 = .ok (.istore_n 2, 1) := by decide +kernel
theorem dX6_unlikeOf_27 : decode cX6_unlikeOf 27 = .ok (.iload_n 1, 1) := by decide +kernel
theorem dX6_unlikeOf_28 : decode cX6_unlikeOf 28 = .ok (.aload_n 0, 1) := by decide +kernel
theorem dX6_unlikeOf_29 : decode cX6_unlikeOf 29 = .ok (.getfield 7, 3) := by decide +kernel
theorem dX6_unlikeOf_32 : decode cX6_unlikeOf 32 = .ok (.bipush 6, 2) := by decide +kernel
theorem dX6_unlikeOf_34 : decode cX6_unlikeOf 34 = .ok (.iaload, 1) := by decide +kernel
theorem dX6_unlikeOf_35 : decode cX6_unlikeOf 35 = .ok (.if_icmp .ge 7, 3) := by decide +kernel
theorem dX6_unlikeOf_38 : decode cX6_unlikeOf 38 = .ok (.iload_n 1, 1) := by decide +kernel
theorem dX6_unlikeOf_39 : decode cX6_unlikeOf 39 = .ok (.goto 10, 3) := by decide +kernel
theorem dX6_unlikeOf_42 : decode cX6_unlikeOf 42 = .ok (.aload_n 0, 1) := by decide +kernel
theorem dX6_unlikeOf_43 : decode cX6_unlikeOf 43 = .ok (.getfield 7, 3) := by decide +kernel
theorem dX6_unlikeOf_46 : decode cX6_unlikeOf 46 = .ok (.bipush 6, 2) := by decide +kernel
theorem dX6_unlikeOf_48 : decode cX6_unlikeOf 48 = .ok (.iaload, 1) := by decide +kernel
theorem dX6_unlikeOf_49 : decode cX6_unlikeOf 49 = .ok (.istore_n 3, 1) := by decide +kernel
theorem dX6_unlikeOf_50 : decode cX6_unlikeOf 50 = .ok (.aload_n 0, 1) := by decide +kernel
theorem dX6_unlikeOf_51 : decode cX6_unlikeOf 51 = .ok (.getfield 7, 3) := by decide +kernel
theorem dX6_unlikeOf_54 : decode cX6_unlikeOf 54 = .ok (.iconst 2, 1) := by decide +kernel
theorem dX6_unlikeOf_55 : decode cX6_unlikeOf 55 = .ok (.iaload, 1) := by decide +kernel
theorem dX6_unlikeOf_56 : decode cX6_unlikeOf 56 = .ok (.aload_n 0, 1) := by decide +kernel
theorem dX6_unlikeOf_57 : decode cX6_unlikeOf 57 = .ok (.getfield 7, 3) := by decide +kernel
theorem dX6_unlikeOf_60 : decode cX6_unlikeOf 60 = .ok (.iconst 3, 1) := by decide +kernel
theorem dX6_unlikeOf_61 : decode cX6_unlikeOf 61 = .ok (.iaload, 1) := by decide +kernel
theorem dX6_unlikeOf_62 : decode cX6_unlikeOf 62 = .ok (.iload_n 2, 1) := by decide +kernel
theorem dX6_unlikeOf_63 : decode cX6_unlikeOf 63 = .ok (.imul, 1) := by decide +kernel
theorem dX6_unlikeOf_64 : decode cX6_unlikeOf 64 = .ok (.iadd, 1) := by decide +kernel
theorem dX6_unlikeOf_65 : decode cX6_unlikeOf 65 = .ok (.iload_n 1, 1) := by decide +kernel
theorem dX6_unlikeOf_66 : decode cX6_unlikeOf 66 = .ok (.aload_n 0, 1) := by decide +kernel
theorem dX6_unlikeOf_67 : decode cX6_unlikeOf 67 = .ok (.getfield 7, 3) := by decide +kernel
theorem dX6_unlikeOf_70 : decode cX6_unlikeOf 70 = .ok (.iconst 4, 1) := by decide +kernel
theorem dX6_unlikeOf_71 : decode cX6_unlikeOf 71 = .ok (.iaload, 1) := by decide +kernel
theorem dX6_unlikeOf_72 : decode cX6_unlikeOf 72 = .ok (.if_icmp .le 21, 3) := by decide +kernel
theorem dX6_unlikeOf_75 : decode cX6_unlikeOf 75 = .ok (.aload_n 0, 1) := by decide +kernel
theorem dX6_unlikeOf_76 : decode cX6_unlikeOf 76 = .ok (.getfield 7, 3) := by decide +kernel
theorem dX6_unlikeOf_79 : decode cX6_unlikeOf 79 = .ok (.iconst 5, 1) := by decide +kernel
theorem dX6_unlikeOf_80 : decode cX6_unlikeOf 80 = .ok (.iaload, 1) := by decide +kernel
theorem dX6_unlikeOf_81 : decode cX6_unlikeOf 81 = .ok (.iload_n 3, 1) := by decide +kernel
theorem dX6_unlikeOf_82 : decode cX6_unlikeOf 82 = .ok (.aload_n 0, 1) := by decide +kernel
theorem dX6_unlikeOf_83 : decode cX6_unlikeOf 83 = .ok (.getfield 7, 3) := by decide +kernel
theorem dX6_unlikeOf_86 : decode cX6_unlikeOf 86 = .ok (.iconst 4, 1) := by decide +kernel
theorem dX6_unlikeOf_87 : decode cX6_unlikeOf 87 = .ok (.iaload, 1) := by decide +kernel
theorem dX6_unlikeOf_88 : decode cX6_unlikeOf 88 = .ok (.isub, 1) := by decide +kernel
theorem dX6_unlikeOf_89 : decode cX6_unlikeOf 89 = .ok (.imul, 1) := by decide +kernel
theorem dX6_unlikeOf_90 : decode cX6_unlikeOf 90 = .ok (.goto 4, 3) := by decide +kernel
theorem dX6_unlikeOf_93 : decode cX6_unlikeOf 93 = .ok (.iconst 0, 1) := by decide +kernel
theorem dX6_unlikeOf_94 : decode cX6_unlikeOf 94 = .ok (.iadd, 1) := by decide +kernel
theorem dX6_unlikeOf_95 : decode cX6_unlikeOf 95 = .ok (.ireturn, 1) := by decide +kernel
theorem dX6_unlikeTo_0 : decode cX6_unlikeTo 0 = .ok (.aload_n 0, 1) := by decide +kernel
theorem dX6_unlikeTo_1 : decode cX6_unlikeTo 1 = .ok (.aload_n 0, 1) := by decide +kernel
theorem dX6_unlikeTo_2 : decode cX6_unlikeTo 2 = .ok (.aload_n 0, 1) := by decide +kernel
theorem dX6_unlikeTo_3 : decode cX6_unlikeTo 3 = .ok (.getfield 7, 3) := by decide +kernel
theorem dX6_unlikeTo_6 : decode cX6_unlikeTo 6 = .ok (.iload_n 1, 1) := by decide +kernel
theorem dX6_unlikeTo_7 : decode cX6_unlikeTo 7 = .ok (.invokestatic 50, 3) := by decide +kernel
theorem dX6_unlikeTo_10 : decode cX6_unlikeTo 10 = .ok (.iaload, 1) := by decide +kernel
theorem dX6_unlikeTo_11 : decode cX6_unlikeTo 11 = .ok (.aload_n 0, 1) := by decide +kernel
theorem dX6_unlikeTo_12 : decode cX6_unlikeTo 12 = .ok (.getfield 7, 3) := by decide +kernel
theorem dX6_unlikeTo_15 : decode cX6_unlikeTo 15 = .ok (.iload_n 1, 1) := by decide +kernel
theorem dX6_unlikeTo_16 : decode cX6_unlikeTo 16 = .ok (.invokestatic 50, 3) := by decide +kernel
theorem dX6_unlikeTo_19 : decode cX6_unlikeTo 19 = .ok (.iconst 1, 1) := by decide +kernel
theorem dX6_unlikeTo_20 : decode cX6_unlikeTo 20 = .ok (.iadd, 1) := by decide +kernel
theorem dX6_unlikeTo_21 : decode cX6_unlikeTo 21 = .ok (.iaload, 1) := by decide +kernel
theorem dX6_unlikeTo_22 : decode cX6_unlikeTo 22 = .ok (.iload_n 2, 1) := by decide +kernel
theorem dX6_unlikeTo_23 : decode cX6_unlikeTo 23 = .ok (.iload_n 3, 1) := by decide +kernel
theorem dX6_unlikeTo_24 : decode cX6_unlikeTo 24 = .ok (.invokevirtual 54, 3) := by decide +kernel
theorem dX6_unlikeTo_27 : decode cX6_unlikeTo 27 = .ok (.invokevirtual 58, 3) := by decide +kernel
theorem dX6_unlikeTo_30 : decode cX6_unlikeTo 30 = .ok (.ireturn, 1) := by decide +kernel
theorem dX6_quarterOf_0 : decode cX6_quarterOf 0 = .ok (.aload_n 0, 1) := by decide +kernel
theorem dX6_quarterOf_1 : decode cX6_quarterOf 1 = .ok (.getfield 7, 3) := by decide +kernel
theorem dX6_quarterOf_4 : decode cX6_quarterOf 4 = .ok (.iload_n 1, 1) := by decide +kernel
theorem dX6_quarterOf_5 : decode cX6_quarterOf 5 = .ok (.invokestatic 50, 3) := by decide +kernel
theorem dX6_quarterOf_8 : decode cX6_quarterOf 8 = .ok (.iaload, 1) := by decide +kernel
theorem dX6_quarterOf_9 : decode cX6_quarterOf 9 = .ok (.iload_n 2, 1) := by decide +kernel
theorem dX6_quarterOf_10 : decode cX6_quarterOf 10 = .ok (.if_icmp .ge 7, 3) := by decide +kernel
theorem dX6_quarterOf_13 : decode cX6_quarterOf 13 = .ok (.iconst 1, 1) := by decide +kernel
theorem dX6_quarterOf_14 : decode cX6_quarterOf 14 = .ok (.goto 4, 3) := by decide +kernel
theorem dX6_quarterOf_17 : decode cX6_quarterOf 17 = .ok (.iconst 0, 1) := by decide +kernel
theorem dX6_quarterOf_18 : decode cX6_quarterOf 18 = .ok (.istore 4, 2) := by decide +kernel
theorem dX6_quarterOf_20 : decode cX6_quarterOf 20 = .ok (.aload_n 0, 1) := by decide +kernel
theorem dX6_quarterOf_21 : decode cX6_quarterOf 21 = .ok (.getfield 7, 3) := by decide +kernel
theorem dX6_quarterOf_24 : decode cX6_quarterOf 24 = .ok (.iload_n 1, 1) := by decide +kernel
theorem dX6_quarterOf_25 : decode cX6_quarterOf 25 = .ok (.invokestatic 50, 3) := by decide +kernel
theorem dX6_quarterOf_28 : decode cX6_quarterOf 28 = .ok (.iconst 1, 1) := by decide +kernel
theorem dX6_quarterOf_29 : decode cX6_quarterOf 29 = .ok (.iadd, 1) := by decide +kernel
theorem dX6_quarterOf_30 : decode cX6_quarterOf 30 = .ok (.iaload, 1) := by decide +kernel
theorem dX6_quarterOf_31 : decode cX6_quarterOf 31 = .ok (.iload_n 3, 1) := by decide +kernel
theorem dX6_quarterOf_32 : decode cX6_quarterOf 32 = .ok (.if_icmp .ge 7, 3) := by decide +kernel
theorem dX6_quarterOf_35 : decode cX6_quarterOf 35 = .ok (.iconst 1, 1) := by decide +kernel
theorem dX6_quarterOf_36 : decode cX6_quarterOf 36 = .ok (.goto 4, 3) := by decide +kernel
theorem dX6_quarterOf_39 : decode cX6_quarterOf 39 = .ok (.iconst 0, 1) := by decide +kernel
theorem dX6_quarterOf_40 : decode cX6_quarterOf 40 = .ok (.istore 5, 2) := by decide +kernel
theorem dX6_quarterOf_42 : decode cX6_quarterOf 42 = .ok (.iload 5, 2) := by decide +kernel
theorem dX6_quarterOf_44 : decode cX6_quarterOf 44 = .ok (.ifCond .eq 16, 3) := by decide +kernel
theorem dX6_quarterOf_47 : decode cX6_quarterOf 47 = .ok (.iload 4, 2) := by decide +kernel
theorem dX6_quarterOf_49 : decode cX6_quarterOf 49 = .ok (.ifCond .eq 7, 3) := by decide +kernel
theorem dX6_quarterOf_52 : decode cX6_quarterOf 52 = .ok (.iconst 2, 1) := by decide +kernel
theorem dX6_quarterOf_53 : decode cX6_quarterOf 53 = .ok (.goto 17, 3) := by decide +kernel
theorem dX6_quarterOf_56 : decode cX6_quarterOf 56 = .ok (.iconst 3, 1) := by decide +kernel
theorem dX6_quarterOf_57 : decode cX6_quarterOf 57 = .ok (.goto 13, 3) := by decide +kernel
theorem dX6_quarterOf_60 : decode cX6_quarterOf 60 = .ok (.iload 4, 2) := by decide +kernel
theorem dX6_quarterOf_62 : decode cX6_quarterOf 62 = .ok (.ifCond .eq 7, 3) := by decide +kernel
theorem dX6_quarterOf_65 : decode cX6_quarterOf 65 = .ok (.iconst 1, 1) := by decide +kernel
theorem dX6_quarterOf_66 : decode cX6_quarterOf 66 = .ok (.goto 4, 3) := by decide +kernel
theorem dX6_quarterOf_69 : decode cX6_quarterOf 69 = .ok (.iconst 0, 1) := by decide +kernel
theorem dX6_quarterOf_70 : decode cX6_quarterOf 70 = .ok (.ireturn, 1) := by decide +kernel
theorem dX6_lookAt_0 : decode cX6_lookAt 0 = .ok (.aload_n 0, 1) := by decide +kernel
theorem dX6_lookAt_1 : decode cX6_lookAt 1 = .ok (.iload_n 1, 1) := by decide +kernel
theorem dX6_lookAt_2 : decode cX6_lookAt 2 = .ok (.iload_n 2, 1) := by decide +kernel
theorem dX6_lookAt_3 : decode cX6_lookAt 3 = .ok (.iload_n 3, 1) := by decide +kernel
theorem dX6_lookAt_4 : decode cX6_lookAt 4 = .ok (.invokevirtual 61, 3) := by decide +kernel
theorem dX6_lookAt_7 : decode cX6_lookAt 7 = .ok (.istore 4, 2) := by decide +kernel
theorem dX6_lookAt_9 : decode cX6_lookAt 9 = .ok (.aload_n 0, 1) := by decide +kernel
theorem dX6_lookAt_10 : decode cX6_lookAt 10 = .ok (.getfield 65, 3) := by decide +kernel
theorem dX6_lookAt_13 : decode cX6_lookAt 13 = .ok (.aload_n 0, 1) := by decide +kernel
theorem dX6_lookAt_14 : decode cX6_lookAt 14 = .ok (.getfield 7, 3) := by decide +kernel
theorem dX6_lookAt_17 : decode cX6_lookAt 17 = .ok (.bipush 7, 2) := by decide +kernel
theorem dX6_lookAt_19 : decode cX6_lookAt 19 = .ok (.iaload, 1) := by decide +kernel
theorem dX6_lookAt_20 : decode cX6_lookAt 20 = .ok (.if_icmp .ge 51, 3) := by decide +kernel
theorem dX6_lookAt_23 : decode cX6_lookAt 23 = .ok (.aload_n 0, 1) := by decide +kernel
theorem dX6_lookAt_24 : decode cX6_lookAt 24 = .ok (.getfield 28, 3) := by decide +kernel
theorem dX6_lookAt_27 : decode cX6_lookAt 27 = .ok (.iload 4, 2) := by decide +kernel
theorem dX6_lookAt_29 : decode cX6_lookAt 29 = .ok (.iaload, 1) := by decide +kernel
theorem dX6_lookAt_30 : decode cX6_lookAt 30 = .ok (.aload_n 0, 1) := by decide +kernel
theorem dX6_lookAt_31 : decode cX6_lookAt 31 = .ok (.getfield 7, 3) := by decide +kernel
theorem dX6_lookAt_34 : decode cX6_lookAt 34 = .ok (.bipush 8, 2) := by decide +kernel
theorem dX6_lookAt_36 : decode cX6_lookAt 36 = .ok (.iaload, 1) := by decide +kernel
theorem dX6_lookAt_37 : decode cX6_lookAt 37 = .ok (.if_icmp .ge 34, 3) := by decide +kernel
theorem dX6_lookAt_40 : decode cX6_lookAt 40 = .ok (.aload_n 0, 1) := by decide +kernel
theorem dX6_lookAt_41 : decode cX6_lookAt 41 = .ok (.getfield 25, 3) := by decide +kernel
theorem dX6_lookAt_44 : decode cX6_lookAt 44 = .ok (.aload_n 0, 1) := by decide +kernel
theorem dX6_lookAt_45 : decode cX6_lookAt 45 = .ok (.getfield 65, 3) := by decide +kernel
theorem dX6_lookAt_48 : decode cX6_lookAt 48 = .ok (.iload_n 1, 1) := by decide +kernel
theorem dX6_lookAt_49 : decode cX6_lookAt 49 = .ok (.iastore, 1) := by decide +kernel
theorem dX6_lookAt_50 : decode cX6_lookAt 50 = .ok (.aload_n 0, 1) := by decide +kernel
theorem dX6_lookAt_51 : decode cX6_lookAt 51 = .ok (.dup, 1) := by decide +kernel
theorem dX6_lookAt_52 : decode cX6_lookAt 52 = .ok (.getfield 65, 3) := by decide +kernel
theorem dX6_lookAt_55 : decode cX6_lookAt 55 = .ok (.iconst 1, 1) := by decide +kernel
theorem dX6_lookAt_56 : decode cX6_lookAt 56 = .ok (.iadd, 1) := by decide +kernel
theorem dX6_lookAt_57 : decode cX6_lookAt 57 = .ok (.putfield 65, 3) := by decide +kernel
theorem dX6_lookAt_60 : decode cX6_lookAt 60 = .ok (.aload_n 0, 1) := by decide +kernel
theorem dX6_lookAt_61 : decode cX6_lookAt 61 = .ok (.getfield 28, 3) := by decide +kernel
theorem dX6_lookAt_64 : decode cX6_lookAt 64 = .ok (.iload 4, 2) := by decide +kernel
theorem dX6_lookAt_66 : decode cX6_lookAt 66 = .ok (.dup2, 1) := by decide +kernel
theorem dX6_lookAt_67 : decode cX6_lookAt 67 = .ok (.iaload, 1) := by decide +kernel
theorem dX6_lookAt_68 : decode cX6_lookAt 68 = .ok (.iconst 1, 1) := by decide +kernel
theorem dX6_lookAt_69 : decode cX6_lookAt 69 = .ok (.iadd, 1) := by decide +kernel
theorem dX6_lookAt_70 : decode cX6_lookAt 70 = .ok (.iastore, 1) := by decide +kernel
theorem dX6_lookAt_71 : decode cX6_lookAt 71 = .ok (.return_, 1) := by decide +kernel
theorem dX6_layLooked_0 : decode cX6_layLooked 0 = .ok (.aload_n 0, 1) := by decide +kernel
theorem dX6_layLooked_1 : decode cX6_layLooked 1 = .ok (.iconst 0, 1) := by decide +kernel
theorem dX6_layLooked_2 : decode cX6_layLooked 2 = .ok (.putfield 65, 3) := by decide +kernel
theorem dX6_layLooked_5 : decode cX6_layLooked 5 = .ok (.iconst 0, 1) := by decide +kernel
theorem dX6_layLooked_6 : decode cX6_layLooked 6 = .ok (.istore 4, 2) := by decide +kernel
theorem dX6_layLooked_8 : decode cX6_layLooked 8 = .ok (.iload 4, 2) := by decide +kernel
theorem dX6_layLooked_10 : decode cX6_layLooked 10 = .ok (.iconst 4, 1) := by decide +kernel
theorem dX6_layLooked_11 : decode cX6_layLooked 11 = .ok (.if_icmp .ge 17, 3) := by decide +kernel
theorem dX6_layLooked_14 : decode cX6_layLooked 14 = .ok (.aload_n 0, 1) := by decide +kernel
theorem dX6_layLooked_15 : decode cX6_layLooked 15 = .ok (.getfield 28, 3) := by decide +kernel
theorem dX6_layLooked_18 : decode cX6_layLooked 18 = .ok (.iload 4, 2) := by decide +kernel
theorem dX6_layLooked_20 : decode cX6_layLooked 20 = .ok (.iconst 0, 1) := by decide +kernel
theorem dX6_layLooked_21 : decode cX6_layLooked 21 = .ok (.iastore, 1) := by decide +kernel
theorem dX6_layLooked_22 : decode cX6_layLooked 22 = .ok (.iinc 4 1, 3) := by decide +kernel
theorem dX6_layLooked_25 : decode cX6_layLooked 25 = .ok (.goto (-17), 3) := by decide +kernel
theorem dX6_layLooked_28 : decode cX6_layLooked 28 = .ok (.iconst 0, 1) := by decide +kernel
theorem dX6_layLooked_29 : decode cX6_layLooked 29 = .ok (.istore 4, 2) := by decide +kernel
theorem dX6_layLooked_31 : decode cX6_layLooked 31 = .ok (.iload 4, 2) := by decide +kernel
theorem dX6_layLooked_33 : decode cX6_layLooked 33 = .ok (.aload_n 0, 1) := by decide +kernel
theorem dX6_layLooked_34 : decode cX6_layLooked 34 = .ok (.getfield 7, 3) := by decide +kernel
theorem dX6_layLooked_37 : decode cX6_layLooked 37 = .ok (.bipush 9, 2) := by decide +kernel
theorem dX6_layLooked_39 : decode cX6_layLooked 39 = .ok (.iaload, 1) := by decide +kernel
theorem dX6_layLooked_40 : decode cX6_layLooked 40 = .ok (.if_icmp .gt 76, 3) := by decide +kernel
theorem dX6_layLooked_43 : decode cX6_layLooked 43 = .ok (.iconst 0, 1) := by decide +kernel
theorem dX6_layLooked_44 : decode cX6_layLooked 44 = .ok (.istore 5, 2) := by decide +kernel
theorem dX6_layLooked_46 : decode cX6_layLooked 46 = .ok (.iload 5, 2) := by decide +kernel
theorem dX6_layLooked_48 : decode cX6_layLooked 48 = .ok (.aload_n 0, 1) := by decide +kernel
theorem dX6_layLooked_49 : decode cX6_layLooked 49 = .ok (.getfield 7, 3) := by decide +kernel
theorem dX6_layLooked_52 : decode cX6_layLooked 52 = .ok (.iconst 0, 1) := by decide +kernel
theorem dX6_layLooked_53 : decode cX6_layLooked 53 = .ok (.iaload, 1) := by decide +kernel
theorem dX6_layLooked_54 : decode cX6_layLooked 54 = .ok (.if_icmp .ge 56, 3) := by decide +kernel
theorem dX6_layLooked_57 : decode cX6_layLooked 57 = .ok (.iload 5, 2) := by decide +kernel
theorem dX6_layLooked_59 : decode cX6_layLooked 59 = .ok (.iload_n 3, 1) := by decide +kernel
theorem dX6_layLooked_60 : decode cX6_layLooked 60 = .ok (.if_icmp .eq 44, 3) := by decide +kernel
theorem dX6_layLooked_63 : decode cX6_layLooked 63 = .ok (.aload_n 0, 1) := by decide +kernel
theorem dX6_layLooked_64 : decode cX6_layLooked 64 = .ok (.aload_n 0, 1) := by decide +kernel
theorem dX6_layLooked_65 : decode cX6_layLooked 65 = .ok (.getfield 7, 3) := by decide +kernel
theorem dX6_layLooked_68 : decode cX6_layLooked 68 = .ok (.iload 5, 2) := by decide +kernel
theorem dX6_layLooked_70 : decode cX6_layLooked 70 = .ok (.invokestatic 50, 3) := by decide +kernel
theorem dX6_layLooked_73 : decode cX6_layLooked 73 = .ok (.iaload, 1) := by decide +kernel
theorem dX6_layLooked_74 : decode cX6_layLooked 74 = .ok (.aload_n 0, 1) := by decide +kernel
theorem dX6_layLooked_75 : decode cX6_layLooked 75 = .ok (.getfield 7, 3) := by decide +kernel
theorem dX6_layLooked_78 : decode cX6_layLooked 78 = .ok (.iload 5, 2) := by decide +kernel
theorem dX6_layLooked_80 : decode cX6_layLooked 80 = .ok (.invokestatic 50, 3) := by decide +kernel
theorem dX6_layLooked_83 : decode cX6_layLooked 83 = .ok (.iconst 1, 1) := by decide +kernel
theorem dX6_layLooked_84 : decode cX6_layLooked 84 = .ok (.iadd, 1) := by decide +kernel
theorem dX6_layLooked_85 : decode cX6_layLooked 85 = .ok (.iaload, 1) := by decide +kernel
theorem dX6_layLooked_86 : decode cX6_layLooked 86 = .ok (.iload_n 1, 1) := by decide +kernel
theorem dX6_layLooked_87 : decode cX6_layLooked 87 = .ok (.iload_n 2, 1) := by decide +kernel
theorem dX6_layLooked_88 : decode cX6_layLooked 88 = .ok (.invokevirtual 54, 3) := by decide +kernel
theorem dX6_layLooked_91 : decode cX6_layLooked 91 = .ok (.iload 4, 2) := by decide +kernel
theorem dX6_layLooked_93 : decode cX6_layLooked 93 = .ok (.if_icmp .ne 11, 3) := by decide +kernel
theorem dX6_layLooked_96 : decode cX6_layLooked 96 = .ok (.aload_n 0, 1) := by decide +kernel
theorem dX6_layLooked_97 : decode cX6_layLooked 97 = .ok (.iload 5, 2) := by decide +kernel
theorem dX6_layLooked_99 : decode cX6_layLooked 99 = .ok (.iload_n 1, 1) := by decide +kernel
theorem dX6_layLooked_100 : decode cX6_layLooked 100 = .ok (.iload_n 2, 1) := by decide +kernel
theorem dX6_layLooked_101 : decode cX6_layLooked 101 = .ok (.invokevirtual 69, 3) := by decide +kernel
theorem dX6_layLooked_104 : decode cX6_layLooked 104 = .ok (.iinc 5 1, 3) := by decide +kernel
theorem dX6_layLooked_107 : decode cX6_layLooked 107 = .ok (.goto (-61), 3) := by decide +kernel
theorem dX6_layLooked_110 : decode cX6_layLooked 110 = .ok (.iinc 4 1, 3) := by decide +kernel
theorem dX6_layLooked_113 : decode cX6_layLooked 113 = .ok (.goto (-82), 3) := by decide +kernel
theorem dX6_layLooked_116 : decode cX6_layLooked 116 = .ok (.return_, 1) := by decide +kernel
theorem dX6_looks_0 : decode cX6_looks 0 = .ok (.iconst 0, 1) := by decide +kernel
theorem dX6_looks_1 : decode cX6_looks 1 = .ok (.istore_n 1, 1) := by decide +kernel
theorem dX6_looks_2 : decode cX6_looks 2 = .ok (.iconst 0, 1) := by decide +kernel
theorem dX6_looks_3 : decode cX6_looks 3 = .ok (.istore_n 2, 1) := by decide +kernel
theorem dX6_looks_4 : decode cX6_looks 4 = .ok (.iload_n 2, 1) := by decide +kernel
theorem dX6_looks_5 : decode cX6_looks 5 = .ok (.aload_n 0, 1) := by decide +kernel
theorem dX6_looks_6 : decode cX6_looks 6 = .ok (.getfield 65, 3) := by decide +kernel
theorem dX6_looks_9 : decode cX6_looks 9 = .ok (.if_icmp .ge 20, 3) := by decide +kernel
theorem dX6_looks_12 : decode cX6_looks 12 = .ok (.iload_n 1, 1) := by decide +kernel
theorem dX6_looks_13 : decode cX6_looks 13 = .ok (.iconst 1, 1) := by decide +kernel
theorem dX6_looks_14 : decode cX6_looks 14 = .ok (.aload_n 0, 1) := by decide +kernel
theorem dX6_looks_15 : decode cX6_looks 15 = .ok (.getfield 25, 3) := by decide +kernel
theorem dX6_looks_18 : decode cX6_looks 18 = .ok (.iload_n 2, 1) := by decide +kernel
theorem dX6_looks_19 : decode cX6_looks 19 = .ok (.iaload, 1) := by decide +kernel
theorem dX6_looks_20 : decode cX6_looks 20 = .ok (.ishl, 1) := by decide +kernel
theorem dX6_looks_21 : decode cX6_looks 21 = .ok (.ior, 1) := by decide +kernel
theorem dX6_looks_22 : decode cX6_looks 22 = .ok (.istore_n 1, 1) := by decide +kernel
theorem dX6_looks_23 : decode cX6_looks 23 = .ok (.iinc 2 1, 3) := by decide +kernel
theorem dX6_looks_26 : decode cX6_looks 26 = .ok (.goto (-22), 3) := by decide +kernel
theorem dX6_looks_29 : decode cX6_looks 29 = .ok (.iload_n 1, 1) := by decide +kernel
theorem dX6_looks_30 : decode cX6_looks 30 = .ok (.ireturn, 1) := by decide +kernel
theorem dX6_greaterIn_0 : decode cX6_greaterIn 0 = .ok (.iconst 0, 1) := by decide +kernel
theorem dX6_greaterIn_1 : decode cX6_greaterIn 1 = .ok (.istore_n 2, 1) := by decide +kernel
theorem dX6_greaterIn_2 : decode cX6_greaterIn 2 = .ok (.iload_n 1, 1) := by decide +kernel
theorem dX6_greaterIn_3 : decode cX6_greaterIn 3 = .ok (.iconst 1, 1) := by decide +kernel
theorem dX6_greaterIn_4 : decode cX6_greaterIn 4 = .ok (.iadd, 1) := by decide +kernel
theorem dX6_greaterIn_5 : decode cX6_greaterIn 5 = .ok (.istore_n 3, 1) := by decide +kernel
theorem dX6_greaterIn_6 : decode cX6_greaterIn 6 = .ok (.iload_n 3, 1) := by decide +kernel
theorem dX6_greaterIn_7 : decode cX6_greaterIn 7 = .ok (.iconst 5, 1) := by decide +kernel
theorem dX6_greaterIn_8 : decode cX6_greaterIn 8 = .ok (.if_icmp .ge 17, 3) := by decide +kernel
theorem dX6_greaterIn_11 : decode cX6_greaterIn 11 = .ok (.iload_n 2, 1) := by decide +kernel
theorem dX6_greaterIn_12 : decode cX6_greaterIn 12 = .ok (.iload_n 0, 1) := by decide +kernel
theorem dX6_greaterIn_13 : decode cX6_greaterIn 13 = .ok (.iload_n 3, 1) := by decide +kernel
theorem dX6_greaterIn_14 : decode cX6_greaterIn 14 = .ok (.ishr, 1) := by decide +kernel
theorem dX6_greaterIn_15 : decode cX6_greaterIn 15 = .ok (.iconst 1, 1) := by decide +kernel
theorem dX6_greaterIn_16 : decode cX6_greaterIn 16 = .ok (.iand, 1) := by decide +kernel
theorem dX6_greaterIn_17 : decode cX6_greaterIn 17 = .ok (.iadd, 1) := by decide +kernel
theorem dX6_greaterIn_18 : decode cX6_greaterIn 18 = .ok (.istore_n 2, 1) := by decide +kernel
theorem dX6_greaterIn_19 : decode cX6_greaterIn 19 = .ok (.iinc 3 1, 3) := by decide +kernel
theorem dX6_greaterIn_22 : decode cX6_greaterIn 22 = .ok (.goto (-16), 3) := by decide +kernel
theorem dX6_greaterIn_25 : decode cX6_greaterIn 25 = .ok (.iload_n 2, 1) := by decide +kernel
theorem dX6_greaterIn_26 : decode cX6_greaterIn 26 = .ok (.ireturn, 1) := by decide +kernel
theorem dX6_determinant_0 : decode cX6_determinant 0 = .ok (.aload_n 0, 1) := by decide +kernel
theorem dX6_determinant_1 : decode cX6_determinant 1 = .ok (.getfield 38, 3) := by decide +kernel
theorem dX6_determinant_4 : decode cX6_determinant 4 = .ok (.iconst 0, 1) := by decide +kernel
theorem dX6_determinant_5 : decode cX6_determinant 5 = .ok (.lconst 1, 1) := by decide +kernel
theorem dX6_determinant_6 : decode cX6_determinant 6 = .ok (.lastore, 1) := by decide +kernel
theorem dX6_determinant_7 : decode cX6_determinant 7 = .ok (.iconst 1, 1) := by decide +kernel
theorem dX6_determinant_8 : decode cX6_determinant 8 = .ok (.istore_n 3, 1) := by decide +kernel
theorem dX6_determinant_9 : decode cX6_determinant 9 = .ok (.iload_n 3, 1) := by decide +kernel
theorem dX6_determinant_10 : decode cX6_determinant 10 = .ok (.iconst 1, 1) := by decide +kernel
theorem dX6_determinant_11 : decode cX6_determinant 11 = .ok (.iload_n 1, 1) := by decide +kernel
theorem dX6_determinant_12 : decode cX6_determinant 12 = .ok (.ishl, 1) := by decide +kernel
theorem dX6_determinant_13 : decode cX6_determinant 13 = .ok (.if_icmp .ge 128, 3) := by decide +kernel
theorem dX6_determinant_16 : decode cX6_determinant 16 = .ok (.iload_n 3, 1) := by decide +kernel
theorem dX6_determinant_17 : decode cX6_determinant 17 = .ok (.iconst (-1), 1) := by decide +kernel
theorem dX6_determinant_18 : decode cX6_determinant 18 = .ok (.invokestatic 73, 3) := by decide +kernel
theorem dX6_determinant_21 : decode cX6_determinant 21 = .ok (.iconst 1, 1) := by decide +kernel
theorem dX6_determinant_22 : decode cX6_determinant 22 = .ok (.isub, 1) := by decide +kernel
theorem dX6_determinant_23 : decode cX6_determinant 23 = .ok (.istore 4, 2) := by decide +kernel
theorem dX6_determinant_25 : decode cX6_determinant 25 = .ok (.lconst 0, 1) := by decide +kernel
theorem dX6_determinant_26 : decode cX6_determinant 26 = .ok (.lstore 5, 2) := by decide +kernel
theorem dX6_determinant_28 : decode cX6_determinant 28 = .ok (.iconst 0, 1) := by decide +kernel
theorem dX6_determinant_29 : decode cX6_determinant 29 = .ok (.istore 7, 2) := by decide +kernel
theorem dX6_determinant_31 : decode cX6_determinant 31 = .ok (.iload 7, 2) := by decide +kernel
theorem dX6_determinant_33 : decode cX6_determinant 33 = .ok (.iload_n 1, 1) := by decide +kernel
theorem dX6_determinant_34 : decode cX6_determinant 34 = .ok (.if_icmp .ge 93, 3) := by decide +kernel
theorem dX6_determinant_37 : decode cX6_determinant 37 = .ok (.iload 7, 2) := by decide +kernel
theorem dX6_determinant_39 : decode cX6_determinant 39 = .ok (.iload_n 2, 1) := by decide +kernel
theorem dX6_determinant_40 : decode cX6_determinant 40 = .ok (.if_icmp .ne 13, 3) := by decide +kernel
theorem dX6_determinant_43 : decode cX6_determinant 43 = .ok (.aload_n 0, 1) := by decide +kernel
theorem dX6_determinant_44 : decode cX6_determinant 44 = .ok (.getfield 35, 3) := by decide +kernel
theorem dX6_determinant_47 : decode cX6_determinant 47 = .ok (.iload 4, 2) := by decide +kernel
theorem dX6_determinant_49 : decode cX6_determinant 49 = .ok (.laload, 1) := by decide +kernel
theorem dX6_determinant_50 : decode cX6_determinant 50 = .ok (.goto 15, 3) := by decide +kernel
theorem dX6_determinant_53 : decode cX6_determinant 53 = .ok (.aload_n 0, 1) := by decide +kernel
theorem dX6_determinant_54 : decode cX6_determinant 54 = .ok (.getfield 31, 3) := by decide +kernel
theorem dX6_determinant_57 : decode cX6_determinant 57 = .ok (.iconst 5, 1) := by decide +kernel
theorem dX6_determinant_58 : decode cX6_determinant 58 = .ok (.iload 4, 2) := by decide +kernel
theorem dX6_determinant_60 : decode cX6_determinant 60 = .ok (.imul, 1) := by decide +kernel
theorem dX6_determinant_61 : decode cX6_determinant 61 = .ok (.iload 7, 2) := by decide +kernel
theorem dX6_determinant_63 : decode cX6_determinant 63 = .ok (.iadd, 1) := by decide +kernel
theorem dX6_determinant_64 : decode cX6_determinant 64 = .ok (.laload, 1) := by decide +kernel
theorem dX6_determinant_65 : decode cX6_determinant 65 = .ok (.lstore 8, 2) := by decide +kernel
theorem dX6_determinant_67 : decode cX6_determinant 67 = .ok (.iload_n 3, 1) := by decide +kernel
theorem dX6_determinant_68 : decode cX6_determinant 68 = .ok (.iload 7, 2) := by decide +kernel
theorem dX6_determinant_70 : decode cX6_determinant 70 = .ok (.ishr, 1) := by decide +kernel
theorem dX6_determinant_71 : decode cX6_determinant 71 = .ok (.iconst 1, 1) := by decide +kernel
theorem dX6_determinant_72 : decode cX6_determinant 72 = .ok (.iand, 1) := by decide +kernel
theorem dX6_determinant_73 : decode cX6_determinant 73 = .ok (.iconst 1, 1) := by decide +kernel
theorem dX6_determinant_74 : decode cX6_determinant 74 = .ok (.if_icmp .ne 20, 3) := by decide +kernel
theorem dX6_determinant_77 : decode cX6_determinant 77 = .ok (.lload 8, 2) := by decide +kernel
theorem dX6_determinant_79 : decode cX6_determinant 79 = .ok (.aload_n 0, 1) := by decide +kernel
theorem dX6_determinant_80 : decode cX6_determinant 80 = .ok (.getfield 38, 3) := by decide +kernel
theorem dX6_determinant_83 : decode cX6_determinant 83 = .ok (.iload_n 3, 1) := by decide +kernel
theorem dX6_determinant_84 : decode cX6_determinant 84 = .ok (.iconst 1, 1) := by decide +kernel
theorem dX6_determinant_85 : decode cX6_determinant 85 = .ok (.iload 7, 2) := by decide +kernel
theorem dX6_determinant_87 : decode cX6_determinant 87 = .ok (.ishl, 1) := by decide +kernel
theorem dX6_determinant_88 : decode cX6_determinant 88 = .ok (.isub, 1) := by decide +kernel
theorem dX6_determinant_89 : decode cX6_determinant 89 = .ok (.laload, 1) := by decide +kernel
theorem dX6_determinant_90 : decode cX6_determinant 90 = .ok (.lmul, 1) := by decide +kernel
theorem dX6_determinant_91 : decode cX6_determinant 91 = .ok (.goto 4, 3) := by decide +kernel
theorem dX6_determinant_94 : decode cX6_determinant 94 = .ok (.lconst 0, 1) := by decide +kernel
theorem dX6_determinant_95 : decode cX6_determinant 95 = .ok (.lstore 10, 2) := by decide +kernel
theorem dX6_determinant_97 : decode cX6_determinant 97 = .ok (.lload 5, 2) := by decide +kernel
theorem dX6_determinant_99 : decode cX6_determinant 99 = .ok (.iload_n 3, 1) := by decide +kernel
theorem dX6_determinant_100 : decode cX6_determinant 100 = .ok (.iload 7, 2) := by decide +kernel
theorem dX6_determinant_102 : decode cX6_determinant 102 = .ok (.invokestatic 73, 3) := by decide +kernel
theorem dX6_determinant_105 : decode cX6_determinant 105 = .ok (.iconst 2, 1) := by decide +kernel
theorem dX6_determinant_106 : decode cX6_determinant 106 = .ok (.irem, 1) := by decide +kernel
theorem dX6_determinant_107 : decode cX6_determinant 107 = .ok (.ifCond .ne 8, 3) := by decide +kernel
theorem dX6_determinant_110 : decode cX6_determinant 110 = .ok (.lload 10, 2) := by decide +kernel
theorem dX6_determinant_112 : decode cX6_determinant 112 = .ok (.goto 6, 3) := by decide +kernel
theorem dX6_determinant_115 : decode cX6_determinant 115 = .ok (.lload 10, 2) := by decide +kernel
theorem dX6_determinant_117 : decode cX6_determinant 117 = .ok (.lneg, 1) := by decide +kernel
theorem dX6_determinant_118 : decode cX6_determinant 118 = .ok (.ladd, 1) := by decide +kernel
theorem dX6_determinant_119 : decode cX6_determinant 119 = .ok (.lstore 5, 2) := by decide +kernel
theorem dX6_determinant_121 : decode cX6_determinant 121 = .ok (.iinc 7 1, 3) := by decide +kernel
theorem dX6_determinant_124 : decode cX6_determinant 124 = .ok (.goto (-93), 3) := by decide +kernel
theorem dX6_determinant_127 : decode cX6_determinant 127 = .ok (.aload_n 0, 1) := by decide +kernel
theorem dX6_determinant_128 : decode cX6_determinant 128 = .ok (.getfield 38, 3) := by decide +kernel
theorem dX6_determinant_131 : decode cX6_determinant 131 = .ok (.iload_n 3, 1) := by decide +kernel
theorem dX6_determinant_132 : decode cX6_determinant 132 = .ok (.lload 5, 2) := by decide +kernel
theorem dX6_determinant_134 : decode cX6_determinant 134 = .ok (.lastore, 1) := by decide +kernel
theorem dX6_determinant_135 : decode cX6_determinant 135 = .ok (.iinc 3 1, 3) := by decide +kernel
theorem dX6_determinant_138 : decode cX6_determinant 138 = .ok (.goto (-129), 3) := by decide +kernel
theorem dX6_determinant_141 : decode cX6_determinant 141 = .ok (.aload_n 0, 1) := by decide +kernel
theorem dX6_determinant_142 : decode cX6_determinant 142 = .ok (.getfield 38, 3) := by decide +kernel
theorem dX6_determinant_145 : decode cX6_determinant 145 = .ok (.iconst 1, 1) := by decide +kernel
theorem dX6_determinant_146 : decode cX6_determinant 146 = .ok (.iload_n 1, 1) := by decide +kernel
theorem dX6_determinant_147 : decode cX6_determinant 147 = .ok (.ishl, 1) := by decide +kernel
theorem dX6_determinant_148 : decode cX6_determinant 148 = .ok (.iconst 1, 1) := by decide +kernel
theorem dX6_determinant_149 : decode cX6_determinant 149 = .ok (.isub, 1) := by decide +kernel
theorem dX6_determinant_150 : decode cX6_determinant 150 = .ok (.laload, 1) := by decide +kernel
theorem dX6_determinant_151 : decode cX6_determinant 151 = .ok (.lreturn, 1) := by decide +kernel
theorem dX6_layTable_0 : decode cX6_layTable 0 = .ok (.iconst 0, 1) := by decide +kernel
theorem dX6_layTable_1 : decode cX6_layTable 1 = .ok (.istore_n 2, 1) := by decide +kernel
theorem dX6_layTable_2 : decode cX6_layTable 2 = .ok (.iload_n 2, 1) := by decide +kernel
theorem dX6_layTable_3 : decode cX6_layTable 3 = .ok (.iload_n 1, 1) := by decide +kernel
theorem dX6_layTable_4 : decode cX6_layTable 4 = .ok (.if_icmp .gt 112, 3) := by decide +kernel
theorem dX6_layTable_7 : decode cX6_layTable 7 = .ok (.iconst 0, 1) := by decide +kernel
theorem dX6_layTable_8 : decode cX6_layTable 8 = .ok (.istore_n 3, 1) := by decide +kernel
theorem dX6_layTable_9 : decode cX6_layTable 9 = .ok (.iload_n 3, 1) := by decide +kernel
theorem dX6_layTable_10 : decode cX6_layTable 10 = .ok (.iload_n 1, 1) := by decide +kernel
theorem dX6_layTable_11 : decode cX6_layTable 11 = .ok (.if_icmp .gt 99, 3) := by decide +kernel
theorem dX6_layTable_14 : decode cX6_layTable 14 = .ok (.iload_n 2, 1) := by decide +kernel
theorem dX6_layTable_15 : decode cX6_layTable 15 = .ok (.iload_n 1, 1) := by decide +kernel
theorem dX6_layTable_16 : decode cX6_layTable 16 = .ok (.if_icmp .eq 8, 3) := by decide +kernel
theorem dX6_layTable_19 : decode cX6_layTable 19 = .ok (.iload_n 3, 1) := by decide +kernel
theorem dX6_layTable_20 : decode cX6_layTable 20 = .ok (.iload_n 1, 1) := by decide +kernel
theorem dX6_layTable_21 : decode cX6_layTable 21 = .ok (.if_icmp .ne 7, 3) := by decide +kernel
theorem dX6_layTable_24 : decode cX6_layTable 24 = .ok (.iconst 1, 1) := by decide +kernel
theorem dX6_layTable_25 : decode cX6_layTable 25 = .ok (.goto 4, 3) := by decide +kernel
theorem dX6_layTable_28 : decode cX6_layTable 28 = .ok (.iconst 0, 1) := by decide +kernel
theorem dX6_layTable_29 : decode cX6_layTable 29 = .ok (.istore 4, 2) := by decide +kernel
theorem dX6_layTable_31 : decode cX6_layTable 31 = .ok (.iload 4, 2) := by decide +kernel
theorem dX6_layTable_33 : decode cX6_layTable 33 = .ok (.ifCond .eq 16, 3) := by decide +kernel
theorem dX6_layTable_36 : decode cX6_layTable 36 = .ok (.iload_n 2, 1) := by decide +kernel
theorem dX6_layTable_37 : decode cX6_layTable 37 = .ok (.iload_n 3, 1) := by decide +kernel
theorem dX6_layTable_38 : decode cX6_layTable 38 = .ok (.if_icmp .ne 7, 3) := by decide +kernel
theorem dX6_layTable_41 : decode cX6_layTable 41 = .ok (.iconst 0, 1) := by decide +kernel
theorem dX6_layTable_42 : decode cX6_layTable 42 = .ok (.goto 47, 3) := by decide +kernel
theorem dX6_layTable_45 : decode cX6_layTable 45 = .ok (.iconst 1, 1) := by decide +kernel
theorem dX6_layTable_46 : decode cX6_layTable 46 = .ok (.goto 43, 3) := by decide +kernel
theorem dX6_layTable_49 : decode cX6_layTable 49 = .ok (.aload_n 0, 1) := by decide +kernel
theorem dX6_layTable_50 : decode cX6_layTable 50 = .ok (.aload_n 0, 1) := by decide +kernel
theorem dX6_layTable_51 : decode cX6_layTable 51 = .ok (.getfield 25, 3) := by decide +kernel
theorem dX6_layTable_54 : decode cX6_layTable 54 = .ok (.iload_n 2, 1) := by decide +kernel
theorem dX6_layTable_55 : decode cX6_layTable 55 = .ok (.iaload, 1) := by decide +kernel
theorem dX6_layTable_56 : decode cX6_layTable 56 = .ok (.aload_n 0, 1) := by decide +kernel
theorem dX6_layTable_57 : decode cX6_layTable 57 = .ok (.getfield 7, 3) := by decide +kernel
theorem dX6_layTable_60 : decode cX6_layTable 60 = .ok (.aload_n 0, 1) := by decide +kernel
theorem dX6_layTable_61 : decode cX6_layTable 61 = .ok (.getfield 25, 3) := by decide +kernel
theorem dX6_layTable_64 : decode cX6_layTable 64 = .ok (.iload_n 3, 1) := by decide +kernel
theorem dX6_layTable_65 : decode cX6_layTable 65 = .ok (.iaload, 1) := by decide +kernel
theorem dX6_layTable_66 : decode cX6_layTable 66 = .ok (.invokestatic 50, 3) := by decide +kernel
theorem dX6_layTable_69 : decode cX6_layTable 69 = .ok (.iaload, 1) := by decide +kernel
theorem dX6_layTable_70 : decode cX6_layTable 70 = .ok (.aload_n 0, 1) := by decide +kernel
theorem dX6_layTable_71 : decode cX6_layTable 71 = .ok (.getfield 7, 3) := by decide +kernel
theorem dX6_layTable_74 : decode cX6_layTable 74 = .ok (.aload_n 0, 1) := by decide +kernel
theorem dX6_layTable_75 : decode cX6_layTable 75 = .ok (.getfield 25, 3) := by decide +kernel
theorem dX6_layTable_78 : decode cX6_layTable 78 = .ok (.iload_n 3, 1) := by decide +kernel
theorem dX6_layTable_79 : decode cX6_layTable 79 = .ok (.iaload, 1) := by decide +kernel
theorem dX6_layTable_80 : decode cX6_layTable 80 = .ok (.invokestatic 50, 3) := by decide +kernel
theorem dX6_layTable_83 : decode cX6_layTable 83 = .ok (.iconst 1, 1) := by decide +kernel
theorem dX6_layTable_84 : decode cX6_layTable 84 = .ok (.iadd, 1) := by decide +kernel
theorem dX6_layTable_85 : decode cX6_layTable 85 = .ok (.iaload, 1) := by decide +kernel
theorem dX6_layTable_86 : decode cX6_layTable 86 = .ok (.invokevirtual 77, 3) := by decide +kernel
theorem dX6_layTable_89 : decode cX6_layTable 89 = .ok (.istore 5, 2) := by decide +kernel
theorem dX6_layTable_91 : decode cX6_layTable 91 = .ok (.aload_n 0, 1) := by decide +kernel
theorem dX6_layTable_92 : decode cX6_layTable 92 = .ok (.getfield 31, 3) := by decide +kernel
theorem dX6_layTable_95 : decode cX6_layTable 95 = .ok (.iconst 5, 1) := by decide +kernel
theorem dX6_layTable_96 : decode cX6_layTable 96 = .ok (.iload_n 2, 1) := by decide +kernel
theorem dX6_layTable_97 : decode cX6_layTable 97 = .ok (.imul, 1) := by decide +kernel
theorem dX6_layTable_98 : decode cX6_layTable 98 = .ok (.iload_n 3, 1) := by decide +kernel
theorem dX6_layTable_99 : decode cX6_layTable 99 = .ok (.iadd, 1) := by decide +kernel
theorem dX6_layTable_100 : decode cX6_layTable 100 = .ok (.iload 5, 2) := by decide +kernel
theorem dX6_layTable_102 : decode cX6_layTable 102 = .ok (.i2l, 1) := by decide +kernel
theorem dX6_layTable_103 : decode cX6_layTable 103 = .ok (.lastore, 1) := by decide +kernel
theorem dX6_layTable_104 : decode cX6_layTable 104 = .ok (.iinc 3 1, 3) := by decide +kernel
theorem dX6_layTable_107 : decode cX6_layTable 107 = .ok (.goto (-98), 3) := by decide +kernel
theorem dX6_layTable_110 : decode cX6_layTable 110 = .ok (.iinc 2 1, 3) := by decide +kernel
theorem dX6_layTable_113 : decode cX6_layTable 113 = .ok (.goto (-111), 3) := by decide +kernel
theorem dX6_layTable_116 : decode cX6_layTable 116 = .ok (.return_, 1) := by decide +kernel
theorem dX6_isSound_0 : decode cX6_isSound 0 = .ok (.iconst 1, 1) := by decide +kernel
theorem dX6_isSound_1 : decode cX6_isSound 1 = .ok (.istore_n 1, 1) := by decide +kernel
theorem dX6_isSound_2 : decode cX6_isSound 2 = .ok (.iconst 1, 1) := by decide +kernel
theorem dX6_isSound_3 : decode cX6_isSound 3 = .ok (.istore_n 2, 1) := by decide +kernel
theorem dX6_isSound_4 : decode cX6_isSound 4 = .ok (.iload_n 2, 1) := by decide +kernel
theorem dX6_isSound_5 : decode cX6_isSound 5 = .ok (.aload_n 0, 1) := by decide +kernel
theorem dX6_isSound_6 : decode cX6_isSound 6 = .ok (.getfield 65, 3) := by decide +kernel
theorem dX6_isSound_9 : decode cX6_isSound 9 = .ok (.if_icmp .gt 54, 3) := by decide +kernel
theorem dX6_isSound_12 : decode cX6_isSound 12 = .ok (.aload_n 0, 1) := by decide +kernel
theorem dX6_isSound_13 : decode cX6_isSound 13 = .ok (.iload_n 2, 1) := by decide +kernel
theorem dX6_isSound_14 : decode cX6_isSound 14 = .ok (.invokevirtual 80, 3) := by decide +kernel
theorem dX6_isSound_17 : decode cX6_isSound 17 = .ok (.aload_n 0, 1) := by decide +kernel
theorem dX6_isSound_18 : decode cX6_isSound 18 = .ok (.iload_n 2, 1) := by decide +kernel
theorem dX6_isSound_19 : decode cX6_isSound 19 = .ok (.iconst 1, 1) := by decide +kernel
theorem dX6_isSound_20 : decode cX6_isSound 20 = .ok (.iadd, 1) := by decide +kernel
theorem dX6_isSound_21 : decode cX6_isSound 21 = .ok (.iconst (-1), 1) := by decide +kernel
theorem dX6_isSound_22 : decode cX6_isSound 22 = .ok (.invokevirtual 84, 3) := by decide +kernel
theorem dX6_isSound_25 : decode cX6_isSound 25 = .ok (.lstore_n 3, 1) := by decide +kernel
theorem dX6_isSound_26 : decode cX6_isSound 26 = .ok (.iload_n 1, 1) := by decide +kernel
theorem dX6_isSound_27 : decode cX6_isSound 27 = .ok (.ifCond .eq 28, 3) := by decide +kernel
theorem dX6_isSound_30 : decode cX6_isSound 30 = .ok (.iload_n 2, 1) := by decide +kernel
theorem dX6_isSound_31 : decode cX6_isSound 31 = .ok (.iconst 2, 1) := by decide +kernel
theorem dX6_isSound_32 : decode cX6_isSound 32 = .ok (.irem, 1) := by decide +kernel
theorem dX6_isSound_33 : decode cX6_isSound 33 = .ok (.ifCond .ne 12, 3) := by decide +kernel
theorem dX6_isSound_36 : decode cX6_isSound 36 = .ok (.lload_n 3, 1) := by decide +kernel
theorem dX6_isSound_37 : decode cX6_isSound 37 = .ok (.lconst 0, 1) := by decide +kernel
theorem dX6_isSound_38 : decode cX6_isSound 38 = .ok (.lcmp, 1) := by decide +kernel
theorem dX6_isSound_39 : decode cX6_isSound 39 = .ok (.ifCond .le 16, 3) := by decide +kernel
theorem dX6_isSound_42 : decode cX6_isSound 42 = .ok (.goto 9, 3) := by decide +kernel
theorem dX6_isSound_45 : decode cX6_isSound 45 = .ok (.lload_n 3, 1) := by decide +kernel
theorem dX6_isSound_46 : decode cX6_isSound 46 = .ok (.lconst 0, 1) := by decide +kernel
theorem dX6_isSound_47 : decode cX6_isSound 47 = .ok (.lcmp, 1) := by decide +kernel
theorem dX6_isSound_48 : decode cX6_isSound 48 = .ok (.ifCond .ge 7, 3) := by decide +kernel
theorem dX6_isSound_51 : decode cX6_isSound 51 = .ok (.iconst 1, 1) := by decide +kernel
theorem dX6_isSound_52 : decode cX6_isSound 52 = .ok (.goto 4, 3) := by decide +kernel
theorem dX6_isSound_55 : decode cX6_isSound 55 = .ok (.iconst 0, 1) := by decide +kernel
theorem dX6_isSound_56 : decode cX6_isSound 56 = .ok (.istore_n 1, 1) := by decide +kernel
theorem dX6_isSound_57 : decode cX6_isSound 57 = .ok (.iinc 2 1, 3) := by decide +kernel
theorem dX6_isSound_60 : decode cX6_isSound 60 = .ok (.goto (-56), 3) := by decide +kernel
theorem dX6_isSound_63 : decode cX6_isSound 63 = .ok (.iload_n 1, 1) := by decide +kernel
theorem dX6_isSound_64 : decode cX6_isSound 64 = .ok (.ireturn, 1) := by decide +kernel
theorem dX6_solved_0 : decode cX6_solved 0 = .ok (.aload_n 0, 1) := by decide +kernel
theorem dX6_solved_1 : decode cX6_solved 1 = .ok (.getfield 65, 3) := by decide +kernel
theorem dX6_solved_4 : decode cX6_solved 4 = .ok (.ifCond .ne 5, 3) := by decide +kernel
theorem dX6_solved_7 : decode cX6_solved 7 = .ok (.iconst 0, 1) := by decide +kernel
theorem dX6_solved_8 : decode cX6_solved 8 = .ok (.ireturn, 1) := by decide +kernel
theorem dX6_solved_9 : decode cX6_solved 9 = .ok (.aload_n 0, 1) := by decide +kernel
theorem dX6_solved_10 : decode cX6_solved 10 = .ok (.aload_n 0, 1) := by decide +kernel
theorem dX6_solved_11 : decode cX6_solved 11 = .ok (.getfield 65, 3) := by decide +kernel
theorem dX6_solved_14 : decode cX6_solved 14 = .ok (.invokevirtual 80, 3) := by decide +kernel
theorem dX6_solved_17 : decode cX6_solved 17 = .ok (.aload_n 0, 1) := by decide +kernel
theorem dX6_solved_18 : decode cX6_solved 18 = .ok (.aload_n 0, 1) := by decide +kernel
theorem dX6_solved_19 : decode cX6_solved 19 = .ok (.aload_n 0, 1) := by decide +kernel
theorem dX6_solved_20 : decode cX6_solved 20 = .ok (.getfield 65, 3) := by decide +kernel
theorem dX6_solved_23 : decode cX6_solved 23 = .ok (.iconst 1, 1) := by decide +kernel
theorem dX6_solved_24 : decode cX6_solved 24 = .ok (.iadd, 1) := by decide +kernel
theorem dX6_solved_25 : decode cX6_solved 25 = .ok (.iconst (-1), 1) := by decide +kernel
theorem dX6_solved_26 : decode cX6_solved 26 = .ok (.invokevirtual 84, 3) := by decide +kernel
theorem dX6_solved_29 : decode cX6_solved 29 = .ok (.putfield 88, 3) := by decide +kernel
theorem dX6_solved_32 : decode cX6_solved 32 = .ok (.iconst 0, 1) := by decide +kernel
theorem dX6_solved_33 : decode cX6_solved 33 = .ok (.istore_n 1, 1) := by decide +kernel
theorem dX6_solved_34 : decode cX6_solved 34 = .ok (.iload_n 1, 1) := by decide +kernel
theorem dX6_solved_35 : decode cX6_solved 35 = .ok (.aload_n 0, 1) := by decide +kernel
theorem dX6_solved_36 : decode cX6_solved 36 = .ok (.getfield 65, 3) := by decide +kernel
theorem dX6_solved_39 : decode cX6_solved 39 = .ok (.if_icmp .gt 35, 3) := by decide +kernel
theorem dX6_solved_42 : decode cX6_solved 42 = .ok (.aload_n 0, 1) := by decide +kernel
theorem dX6_solved_43 : decode cX6_solved 43 = .ok (.getfield 88, 3) := by decide +kernel
theorem dX6_solved_46 : decode cX6_solved 46 = .ok (.lconst 0, 1) := by decide +kernel
theorem dX6_solved_47 : decode cX6_solved 47 = .ok (.lcmp, 1) := by decide +kernel
theorem dX6_solved_48 : decode cX6_solved 48 = .ok (.ifCond .eq 26, 3) := by decide +kernel
theorem dX6_solved_51 : decode cX6_solved 51 = .ok (.aload_n 0, 1) := by decide +kernel
theorem dX6_solved_52 : decode cX6_solved 52 = .ok (.getfield 41, 3) := by decide +kernel
theorem dX6_solved_55 : decode cX6_solved 55 = .ok (.iload_n 1, 1) := by decide +kernel
theorem dX6_solved_56 : decode cX6_solved 56 = .ok (.aload_n 0, 1) := by decide +kernel
theorem dX6_solved_57 : decode cX6_solved 57 = .ok (.aload_n 0, 1) := by decide +kernel
theorem dX6_solved_58 : decode cX6_solved 58 = .ok (.getfield 65, 3) := by decide +kernel
theorem dX6_solved_61 : decode cX6_solved 61 = .ok (.iconst 1, 1) := by decide +kernel
theorem dX6_solved_62 : decode cX6_solved 62 = .ok (.iadd, 1) := by decide +kernel
theorem dX6_solved_63 : decode cX6_solved 63 = .ok (.iload_n 1, 1) := by decide +kernel
theorem dX6_solved_64 : decode cX6_solved 64 = .ok (.invokevirtual 84, 3) := by decide +kernel
theorem dX6_solved_67 : decode cX6_solved 67 = .ok (.lastore, 1) := by decide +kernel
theorem dX6_solved_68 : decode cX6_solved 68 = .ok (.iinc 1 1, 3) := by decide +kernel
theorem dX6_solved_71 : decode cX6_solved 71 = .ok (.goto (-37), 3) := by decide +kernel
theorem dX6_solved_74 : decode cX6_solved 74 = .ok (.aload_n 0, 1) := by decide +kernel
theorem dX6_solved_75 : decode cX6_solved 75 = .ok (.getfield 88, 3) := by decide +kernel
theorem dX6_solved_78 : decode cX6_solved 78 = .ok (.lconst 0, 1) := by decide +kernel
theorem dX6_solved_79 : decode cX6_solved 79 = .ok (.lcmp, 1) := by decide +kernel
theorem dX6_solved_80 : decode cX6_solved 80 = .ok (.ifCond .eq 7, 3) := by decide +kernel
theorem dX6_solved_83 : decode cX6_solved 83 = .ok (.iconst 1, 1) := by decide +kernel
theorem dX6_solved_84 : decode cX6_solved 84 = .ok (.goto 4, 3) := by decide +kernel
theorem dX6_solved_87 : decode cX6_solved 87 = .ok (.iconst 0, 1) := by decide +kernel
theorem dX6_solved_88 : decode cX6_solved 88 = .ok (.ireturn, 1) := by decide +kernel
theorem dX6_guessAt_0 : decode cX6_guessAt 0 = .ok (.aload_n 0, 1) := by decide +kernel
theorem dX6_guessAt_1 : decode cX6_guessAt 1 = .ok (.iload_n 1, 1) := by decide +kernel
theorem dX6_guessAt_2 : decode cX6_guessAt 2 = .ok (.iload_n 2, 1) := by decide +kernel
theorem dX6_guessAt_3 : decode cX6_guessAt 3 = .ok (.iload_n 3, 1) := by decide +kernel
theorem dX6_guessAt_4 : decode cX6_guessAt 4 = .ok (.invokevirtual 92, 3) := by decide +kernel
theorem dX6_guessAt_7 : decode cX6_guessAt 7 = .ok (.iconst 0, 1) := by decide +kernel
theorem dX6_guessAt_8 : decode cX6_guessAt 8 = .ok (.istore 4, 2) := by decide +kernel
theorem dX6_guessAt_10 : decode cX6_guessAt 10 = .ok (.iload 4, 2) := by decide +kernel
theorem dX6_guessAt_12 : decode cX6_guessAt 12 = .ok (.aload_n 0, 1) := by decide +kernel
theorem dX6_guessAt_13 : decode cX6_guessAt 13 = .ok (.getfield 65, 3) := by decide +kernel
theorem dX6_guessAt_16 : decode cX6_guessAt 16 = .ok (.if_icmp .ge 30, 3) := by decide +kernel
theorem dX6_guessAt_19 : decode cX6_guessAt 19 = .ok (.aload_n 0, 1) := by decide +kernel
theorem dX6_guessAt_20 : decode cX6_guessAt 20 = .ok (.getfield 35, 3) := by decide +kernel
theorem dX6_guessAt_23 : decode cX6_guessAt 23 = .ok (.iload 4, 2) := by decide +kernel
theorem dX6_guessAt_25 : decode cX6_guessAt 25 = .ok (.aload_n 0, 1) := by decide +kernel
theorem dX6_guessAt_26 : decode cX6_guessAt 26 = .ok (.aload_n 0, 1) := by decide +kernel
theorem dX6_guessAt_27 : decode cX6_guessAt 27 = .ok (.getfield 25, 3) := by decide +kernel
theorem dX6_guessAt_30 : decode cX6_guessAt 30 = .ok (.iload 4, 2) := by decide +kernel
theorem dX6_guessAt_32 : decode cX6_guessAt 32 = .ok (.iaload, 1) := by decide +kernel
theorem dX6_guessAt_33 : decode cX6_guessAt 33 = .ok (.iload_n 1, 1) := by decide +kernel
theorem dX6_guessAt_34 : decode cX6_guessAt 34 = .ok (.iload_n 2, 1) := by decide +kernel
theorem dX6_guessAt_35 : decode cX6_guessAt 35 = .ok (.invokevirtual 77, 3) := by decide +kernel
theorem dX6_guessAt_38 : decode cX6_guessAt 38 = .ok (.i2l, 1) := by decide +kernel
theorem dX6_guessAt_39 : decode cX6_guessAt 39 = .ok (.lastore, 1) := by decide +kernel
theorem dX6_guessAt_40 : decode cX6_guessAt 40 = .ok (.iinc 4 1, 3) := by decide +kernel
theorem dX6_guessAt_43 : decode cX6_guessAt 43 = .ok (.goto (-33), 3) := by decide +kernel
theorem dX6_guessAt_46 : decode cX6_guessAt 46 = .ok (.aload_n 0, 1) := by decide +kernel
theorem dX6_guessAt_47 : decode cX6_guessAt 47 = .ok (.getfield 35, 3) := by decide +kernel
theorem dX6_guessAt_50 : decode cX6_guessAt 50 = .ok (.aload_n 0, 1) := by decide +kernel
theorem dX6_guessAt_51 : decode cX6_guessAt 51 = .ok (.getfield 65, 3) := by decide +kernel
theorem dX6_guessAt_54 : decode cX6_guessAt 54 = .ok (.lconst 1, 1) := by decide +kernel
theorem dX6_guessAt_55 : decode cX6_guessAt 55 = .ok (.lastore, 1) := by decide +kernel
theorem dX6_guessAt_56 : decode cX6_guessAt 56 = .ok (.aload_n 0, 1) := by decide +kernel
theorem dX6_guessAt_57 : decode cX6_guessAt 57 = .ok (.lconst 1, 1) := by decide +kernel
theorem dX6_guessAt_58 : decode cX6_guessAt 58 = .ok (.putfield 95, 3) := by decide +kernel
theorem dX6_guessAt_61 : decode cX6_guessAt 61 = .ok (.aload_n 0, 1) := by decide +kernel
theorem dX6_guessAt_62 : decode cX6_guessAt 62 = .ok (.invokevirtual 98, 3) := by decide +kernel
theorem dX6_guessAt_65 : decode cX6_guessAt 65 = .ok (.ireturn, 1) := by decide +kernel
theorem dX6_guessBlock_0 : decode cX6_guessBlock 0 = .ok (.aload_n 0, 1) := by decide +kernel
theorem dX6_guessBlock_1 : decode cX6_guessBlock 1 = .ok (.iload_n 1, 1) := by decide +kernel
theorem dX6_guessBlock_2 : decode cX6_guessBlock 2 = .ok (.iload_n 2, 1) := by decide +kernel
theorem dX6_guessBlock_3 : decode cX6_guessBlock 3 = .ok (.iconst (-1), 1) := by decide +kernel
theorem dX6_guessBlock_4 : decode cX6_guessBlock 4 = .ok (.invokevirtual 92, 3) := by decide +kernel
theorem dX6_guessBlock_7 : decode cX6_guessBlock 7 = .ok (.iconst 0, 1) := by decide +kernel
theorem dX6_guessBlock_8 : decode cX6_guessBlock 8 = .ok (.istore_n 3, 1) := by decide +kernel
theorem dX6_guessBlock_9 : decode cX6_guessBlock 9 = .ok (.iload_n 3, 1) := by decide +kernel
theorem dX6_guessBlock_10 : decode cX6_guessBlock 10 = .ok (.aload_n 0, 1) := by decide +kernel
theorem dX6_guessBlock_11 : decode cX6_guessBlock 11 = .ok (.getfield 65, 3) := by decide +kernel
theorem dX6_guessBlock_14 : decode cX6_guessBlock 14 = .ok (.if_icmp .ge 63, 3) := by decide +kernel
theorem dX6_guessBlock_17 : decode cX6_guessBlock 17 = .ok (.aload_n 0, 1) := by decide +kernel
theorem dX6_guessBlock_18 : decode cX6_guessBlock 18 = .ok (.getfield 35, 3) := by decide +kernel
theorem dX6_guessBlock_21 : decode cX6_guessBlock 21 = .ok (.iload_n 3, 1) := by decide +kernel
theorem dX6_guessBlock_22 : decode cX6_guessBlock 22 = .ok (.lconst 0, 1) := by decide +kernel
theorem dX6_guessBlock_23 : decode cX6_guessBlock 23 = .ok (.lastore, 1) := by decide +kernel
theorem dX6_guessBlock_24 : decode cX6_guessBlock 24 = .ok (.iconst 0, 1) := by decide +kernel
theorem dX6_guessBlock_25 : decode cX6_guessBlock 25 = .ok (.istore 4, 2) := by decide +kernel
theorem dX6_guessBlock_27 : decode cX6_guessBlock 27 = .ok (.iload 4, 2) := by decide +kernel
theorem dX6_guessBlock_29 : decode cX6_guessBlock 29 = .ok (.iconst 4, 1) := by decide +kernel
theorem dX6_guessBlock_30 : decode cX6_guessBlock 30 = .ok (.if_icmp .ge 41, 3) := by decide +kernel
theorem dX6_guessBlock_33 : decode cX6_guessBlock 33 = .ok (.aload_n 0, 1) := by decide +kernel
theorem dX6_guessBlock_34 : decode cX6_guessBlock 34 = .ok (.getfield 35, 3) := by decide +kernel
theorem dX6_guessBlock_37 : decode cX6_guessBlock 37 = .ok (.iload_n 3, 1) := by decide +kernel
theorem dX6_guessBlock_38 : decode cX6_guessBlock 38 = .ok (.dup2, 1) := by decide +kernel
theorem dX6_guessBlock_39 : decode cX6_guessBlock 39 = .ok (.laload, 1) := by decide +kernel
theorem dX6_guessBlock_40 : decode cX6_guessBlock 40 = .ok (.aload_n 0, 1) := by decide +kernel
theorem dX6_guessBlock_41 : decode cX6_guessBlock 41 = .ok (.aload_n 0, 1) := by decide +kernel
theorem dX6_guessBlock_42 : decode cX6_guessBlock 42 = .ok (.getfield 25, 3) := by decide +kernel
theorem dX6_guessBlock_45 : decode cX6_guessBlock 45 = .ok (.iload_n 3, 1) := by decide +kernel
theorem dX6_guessBlock_46 : decode cX6_guessBlock 46 = .ok (.iaload, 1) := by decide +kernel
theorem dX6_guessBlock_47 : decode cX6_guessBlock 47 = .ok (.iload_n 1, 1) := by decide +kernel
theorem dX6_guessBlock_48 : decode cX6_guessBlock 48 = .ok (.iload 4, 2) := by decide +kernel
theorem dX6_guessBlock_50 : decode cX6_guessBlock 50 = .ok (.iconst 2, 1) := by decide +kernel
theorem dX6_guessBlock_51 : decode cX6_guessBlock 51 = .ok (.irem, 1) := by decide +kernel
theorem dX6_guessBlock_52 : decode cX6_guessBlock 52 = .ok (.iadd, 1) := by decide +kernel
theorem dX6_guessBlock_53 : decode cX6_guessBlock 53 = .ok (.iload_n 2, 1) := by decide +kernel
theorem dX6_guessBlock_54 : decode cX6_guessBlock 54 = .ok (.iload 4, 2) := by decide +kernel
theorem dX6_guessBlock_56 : decode cX6_guessBlock 56 = .ok (.iconst 2, 1) := by decide +kernel
theorem dX6_guessBlock_57 : decode cX6_guessBlock 57 = .ok (.idiv, 1) := by decide +kernel
theorem dX6_guessBlock_58 : decode cX6_guessBlock 58 = .ok (.iadd, 1) := by decide +kernel
theorem dX6_guessBlock_59 : decode cX6_guessBlock 59 = .ok (.invokevirtual 77, 3) := by decide +kernel
theorem dX6_guessBlock_62 : decode cX6_guessBlock 62 = .ok (.i2l, 1) := by decide +kernel
theorem dX6_guessBlock_63 : decode cX6_guessBlock 63 = .ok (.ladd, 1) := by decide +kernel
theorem dX6_guessBlock_64 : decode cX6_guessBlock 64 = .ok (.lastore, 1) := by decide +kernel
theorem dX6_guessBlock_65 : decode cX6_guessBlock 65 = .ok (.iinc 4 1, 3) := by decide +kernel
theorem dX6_guessBlock_68 : decode cX6_guessBlock 68 = .ok (.goto (-41), 3) := by decide +kernel
theorem dX6_guessBlock_71 : decode cX6_guessBlock 71 = .ok (.iinc 3 1, 3) := by decide +kernel
theorem dX6_guessBlock_74 : decode cX6_guessBlock 74 = .ok (.goto (-65), 3) := by decide +kernel
theorem dX6_guessBlock_77 : decode cX6_guessBlock 77 = .ok (.aload_n 0, 1) := by decide +kernel
theorem dX6_guessBlock_78 : decode cX6_guessBlock 78 = .ok (.getfield 35, 3) := by decide +kernel
theorem dX6_guessBlock_81 : decode cX6_guessBlock 81 = .ok (.aload_n 0, 1) := by decide +kernel
theorem dX6_guessBlock_82 : decode cX6_guessBlock 82 = .ok (.getfield 65, 3) := by decide +kernel
theorem dX6_guessBlock_85 : decode cX6_guessBlock 85 = .ok (.ldc2_w 102, 3) := by decide +kernel
theorem dX6_guessBlock_88 : decode cX6_guessBlock 88 = .ok (.lastore, 1) := by decide +kernel
theorem dX6_guessBlock_89 : decode cX6_guessBlock 89 = .ok (.aload_n 0, 1) := by decide +kernel
theorem dX6_guessBlock_90 : decode cX6_guessBlock 90 = .ok (.ldc2_w 102, 3) := by decide +kernel
theorem dX6_guessBlock_93 : decode cX6_guessBlock 93 = .ok (.putfield 95, 3) := by decide +kernel
theorem dX6_guessBlock_96 : decode cX6_guessBlock 96 = .ok (.aload_n 0, 1) := by decide +kernel
theorem dX6_guessBlock_97 : decode cX6_guessBlock 97 = .ok (.invokevirtual 98, 3) := by decide +kernel
theorem dX6_guessBlock_100 : decode cX6_guessBlock 100 = .ok (.ireturn, 1) := by decide +kernel
theorem dX6_size_0 : decode cX6_size 0 = .ok (.lload_n 0, 1) := by decide +kernel
theorem dX6_size_1 : decode cX6_size 1 = .ok (.lconst 0, 1) := by decide +kernel
theorem dX6_size_2 : decode cX6_size 2 = .ok (.lcmp, 1) := by decide +kernel
theorem dX6_size_3 : decode cX6_size 3 = .ok (.ifCond .ge 8, 3) := by decide +kernel
theorem dX6_size_6 : decode cX6_size 6 = .ok (.lload_n 0, 1) := by decide +kernel
theorem dX6_size_7 : decode cX6_size 7 = .ok (.lneg, 1) := by decide +kernel
theorem dX6_size_8 : decode cX6_size 8 = .ok (.goto 4, 3) := by decide +kernel
theorem dX6_size_11 : decode cX6_size 11 = .ok (.lload_n 0, 1) := by decide +kernel
theorem dX6_size_12 : decode cX6_size 12 = .ok (.lreturn, 1) := by decide +kernel
theorem dX6_reduce_0 : decode cX6_reduce 0 = .ok (.lload_n 1, 1) := by decide +kernel
theorem dX6_reduce_1 : decode cX6_reduce 1 = .ok (.invokestatic 104, 3) := by decide +kernel
theorem dX6_reduce_4 : decode cX6_reduce 4 = .ok (.lstore 5, 2) := by decide +kernel
theorem dX6_reduce_6 : decode cX6_reduce 6 = .ok (.lload_n 3, 1) := by decide +kernel
theorem dX6_reduce_7 : decode cX6_reduce 7 = .ok (.invokestatic 104, 3) := by decide +kernel
theorem dX6_reduce_10 : decode cX6_reduce 10 = .ok (.lstore 7, 2) := by decide +kernel
theorem dX6_reduce_12 : decode cX6_reduce 12 = .ok (.lload 7, 2) := by decide +kernel
theorem dX6_reduce_14 : decode cX6_reduce 14 = .ok (.lconst 0, 1) := by decide +kernel
theorem dX6_reduce_15 : decode cX6_reduce 15 = .ok (.lcmp, 1) := by decide +kernel
theorem dX6_reduce_16 : decode cX6_reduce 16 = .ok (.ifCond .le 21, 3) := by decide +kernel
theorem dX6_reduce_19 : decode cX6_reduce 19 = .ok (.lload 5, 2) := by decide +kernel
theorem dX6_reduce_21 : decode cX6_reduce 21 = .ok (.lload 7, 2) := by decide +kernel
theorem dX6_reduce_23 : decode cX6_reduce 23 = .ok (.lrem, 1) := by decide +kernel
theorem dX6_reduce_24 : decode cX6_reduce 24 = .ok (.lstore 9, 2) := by decide +kernel
theorem dX6_reduce_26 : decode cX6_reduce 26 = .ok (.lload 7, 2) := by decide +kernel
theorem dX6_reduce_28 : decode cX6_reduce 28 = .ok (.lstore 5, 2) := by decide +kernel
theorem dX6_reduce_30 : decode cX6_reduce 30 = .ok (.lload 9, 2) := by decide +kernel
theorem dX6_reduce_32 : decode cX6_reduce 32 = .ok (.lstore 7, 2) := by decide +kernel
theorem dX6_reduce_34 : decode cX6_reduce 34 = .ok (.goto (-22), 3) := by decide +kernel
theorem dX6_reduce_37 : decode cX6_reduce 37 = .ok (.aload_n 0, 1) := by decide +kernel
theorem dX6_reduce_38 : decode cX6_reduce 38 = .ok (.lload_n 3, 1) := by decide +kernel
theorem dX6_reduce_39 : decode cX6_reduce 39 = .ok (.lconst 0, 1) := by decide +kernel
theorem dX6_reduce_40 : decode cX6_reduce 40 = .ok (.lcmp, 1) := by decide +kernel
theorem dX6_reduce_41 : decode cX6_reduce 41 = .ok (.ifCond .ge 11, 3) := by decide +kernel
theorem dX6_reduce_44 : decode cX6_reduce 44 = .ok (.lload_n 1, 1) := by decide +kernel
theorem dX6_reduce_45 : decode cX6_reduce 45 = .ok (.lneg, 1) := by decide +kernel
theorem dX6_reduce_46 : decode cX6_reduce 46 = .ok (.lload 5, 2) := by decide +kernel
theorem dX6_reduce_48 : decode cX6_reduce 48 = .ok (.ldiv, 1) := by decide +kernel
theorem dX6_reduce_49 : decode cX6_reduce 49 = .ok (.goto 7, 3) := by decide +kernel
theorem dX6_reduce_52 : decode cX6_reduce 52 = .ok (.lload_n 1, 1) := by decide +kernel
theorem dX6_reduce_53 : decode cX6_reduce 53 = .ok (.lload 5, 2) := by decide +kernel
theorem dX6_reduce_55 : decode cX6_reduce 55 = .ok (.ldiv, 1) := by decide +kernel
theorem dX6_reduce_56 : decode cX6_reduce 56 = .ok (.putfield 108, 3) := by decide +kernel
theorem dX6_reduce_59 : decode cX6_reduce 59 = .ok (.aload_n 0, 1) := by decide +kernel
theorem dX6_reduce_60 : decode cX6_reduce 60 = .ok (.lload_n 3, 1) := by decide +kernel
theorem dX6_reduce_61 : decode cX6_reduce 61 = .ok (.invokestatic 104, 3) := by decide +kernel
theorem dX6_reduce_64 : decode cX6_reduce 64 = .ok (.lload 5, 2) := by decide +kernel
theorem dX6_reduce_66 : decode cX6_reduce 66 = .ok (.ldiv, 1) := by decide +kernel
theorem dX6_reduce_67 : decode cX6_reduce 67 = .ok (.putfield 111, 3) := by decide +kernel
theorem dX6_reduce_70 : decode cX6_reduce 70 = .ok (.return_, 1) := by decide +kernel
theorem dX6_layGrade_0 : decode cX6_layGrade 0 = .ok (.lconst 0, 1) := by decide +kernel
theorem dX6_layGrade_1 : decode cX6_layGrade 1 = .ok (.lstore_n 1, 1) := by decide +kernel
theorem dX6_layGrade_2 : decode cX6_layGrade 2 = .ok (.iconst 0, 1) := by decide +kernel
theorem dX6_layGrade_3 : decode cX6_layGrade 3 = .ok (.istore_n 3, 1) := by decide +kernel
theorem dX6_layGrade_4 : decode cX6_layGrade 4 = .ok (.iload_n 3, 1) := by decide +kernel
theorem dX6_layGrade_5 : decode cX6_layGrade 5 = .ok (.aload_n 0, 1) := by decide +kernel
theorem dX6_layGrade_6 : decode cX6_layGrade 6 = .ok (.getfield 65, 3) := by decide +kernel
theorem dX6_layGrade_9 : decode cX6_layGrade 9 = .ok (.if_icmp .ge 36, 3) := by decide +kernel
theorem dX6_layGrade_12 : decode cX6_layGrade 12 = .ok (.lload_n 1, 1) := by decide +kernel
theorem dX6_layGrade_13 : decode cX6_layGrade 13 = .ok (.aload_n 0, 1) := by decide +kernel
theorem dX6_layGrade_14 : decode cX6_layGrade 14 = .ok (.getfield 41, 3) := by decide +kernel
theorem dX6_layGrade_17 : decode cX6_layGrade 17 = .ok (.iload_n 3, 1) := by decide +kernel
theorem dX6_layGrade_18 : decode cX6_layGrade 18 = .ok (.laload, 1) := by decide +kernel
theorem dX6_layGrade_19 : decode cX6_layGrade 19 = .ok (.aload_n 0, 1) := by decide +kernel
theorem dX6_layGrade_20 : decode cX6_layGrade 20 = .ok (.getfield 7, 3) := by decide +kernel
theorem dX6_layGrade_23 : decode cX6_layGrade 23 = .ok (.aload_n 0, 1) := by decide +kernel
theorem dX6_layGrade_24 : decode cX6_layGrade 24 = .ok (.getfield 25, 3) := by decide +kernel
theorem dX6_layGrade_27 : decode cX6_layGrade 27 = .ok (.iload_n 3, 1) := by decide +kernel
theorem dX6_layGrade_28 : decode cX6_layGrade 28 = .ok (.iaload, 1) := by decide +kernel
theorem dX6_layGrade_29 : decode cX6_layGrade 29 = .ok (.invokestatic 50, 3) := by decide +kernel
theorem dX6_layGrade_32 : decode cX6_layGrade 32 = .ok (.iconst 2, 1) := by decide +kernel
theorem dX6_layGrade_33 : decode cX6_layGrade 33 = .ok (.iadd, 1) := by decide +kernel
theorem dX6_layGrade_34 : decode cX6_layGrade 34 = .ok (.iaload, 1) := by decide +kernel
theorem dX6_layGrade_35 : decode cX6_layGrade 35 = .ok (.i2l, 1) := by decide +kernel
theorem dX6_layGrade_36 : decode cX6_layGrade 36 = .ok (.lmul, 1) := by decide +kernel
theorem dX6_layGrade_37 : decode cX6_layGrade 37 = .ok (.ladd, 1) := by decide +kernel
theorem dX6_layGrade_38 : decode cX6_layGrade 38 = .ok (.lstore_n 1, 1) := by decide +kernel
theorem dX6_layGrade_39 : decode cX6_layGrade 39 = .ok (.iinc 3 1, 3) := by decide +kernel
theorem dX6_layGrade_42 : decode cX6_layGrade 42 = .ok (.goto (-38), 3) := by decide +kernel
theorem dX6_layGrade_45 : decode cX6_layGrade 45 = .ok (.aload_n 0, 1) := by decide +kernel
theorem dX6_layGrade_46 : decode cX6_layGrade 46 = .ok (.lload_n 1, 1) := by decide +kernel
theorem dX6_layGrade_47 : decode cX6_layGrade 47 = .ok (.aload_n 0, 1) := by decide +kernel
theorem dX6_layGrade_48 : decode cX6_layGrade 48 = .ok (.getfield 95, 3) := by decide +kernel
theorem dX6_layGrade_51 : decode cX6_layGrade 51 = .ok (.aload_n 0, 1) := by decide +kernel
theorem dX6_layGrade_52 : decode cX6_layGrade 52 = .ok (.getfield 88, 3) := by decide +kernel
theorem dX6_layGrade_55 : decode cX6_layGrade 55 = .ok (.lmul, 1) := by decide +kernel
theorem dX6_layGrade_56 : decode cX6_layGrade 56 = .ok (.invokevirtual 114, 3) := by decide +kernel
theorem dX6_layGrade_59 : decode cX6_layGrade 59 = .ok (.return_, 1) := by decide +kernel
theorem dX6_laySpread_0 : decode cX6_laySpread 0 = .ok (.aload_n 0, 1) := by decide +kernel
theorem dX6_laySpread_1 : decode cX6_laySpread 1 = .ok (.getfield 95, 3) := by decide +kernel
theorem dX6_laySpread_4 : decode cX6_laySpread 4 = .ok (.aload_n 0, 1) := by decide +kernel
theorem dX6_laySpread_5 : decode cX6_laySpread 5 = .ok (.getfield 41, 3) := by decide +kernel
theorem dX6_laySpread_8 : decode cX6_laySpread 8 = .ok (.aload_n 0, 1) := by decide +kernel
theorem dX6_laySpread_9 : decode cX6_laySpread 9 = .ok (.getfield 65, 3) := by decide +kernel
theorem dX6_laySpread_12 : decode cX6_laySpread 12 = .ok (.laload, 1) := by decide +kernel
theorem dX6_laySpread_13 : decode cX6_laySpread 13 = .ok (.lmul, 1) := by decide +kernel
theorem dX6_laySpread_14 : decode cX6_laySpread 14 = .ok (.lload_n 1, 1) := by decide +kernel
theorem dX6_laySpread_15 : decode cX6_laySpread 15 = .ok (.aload_n 0, 1) := by decide +kernel
theorem dX6_laySpread_16 : decode cX6_laySpread 16 = .ok (.getfield 88, 3) := by decide +kernel
theorem dX6_laySpread_19 : decode cX6_laySpread 19 = .ok (.lmul, 1) := by decide +kernel
theorem dX6_laySpread_20 : decode cX6_laySpread 20 = .ok (.lsub, 1) := by decide +kernel
theorem dX6_laySpread_21 : decode cX6_laySpread 21 = .ok (.lstore_n 3, 1) := by decide +kernel
theorem dX6_laySpread_22 : decode cX6_laySpread 22 = .ok (.iconst 0, 1) := by decide +kernel
theorem dX6_laySpread_23 : decode cX6_laySpread 23 = .ok (.istore 5, 2) := by decide +kernel
theorem dX6_laySpread_25 : decode cX6_laySpread 25 = .ok (.iload 5, 2) := by decide +kernel
theorem dX6_laySpread_27 : decode cX6_laySpread 27 = .ok (.aload_n 0, 1) := by decide +kernel
theorem dX6_laySpread_28 : decode cX6_laySpread 28 = .ok (.getfield 65, 3) := by decide +kernel
theorem dX6_laySpread_31 : decode cX6_laySpread 31 = .ok (.if_icmp .ge 27, 3) := by decide +kernel
theorem dX6_laySpread_34 : decode cX6_laySpread 34 = .ok (.lload_n 3, 1) := by decide +kernel
theorem dX6_laySpread_35 : decode cX6_laySpread 35 = .ok (.aload_n 0, 1) := by decide +kernel
theorem dX6_laySpread_36 : decode cX6_laySpread 36 = .ok (.getfield 41, 3) := by decide +kernel
theorem dX6_laySpread_39 : decode cX6_laySpread 39 = .ok (.iload 5, 2) := by decide +kernel
theorem dX6_laySpread_41 : decode cX6_laySpread 41 = .ok (.laload, 1) := by decide +kernel
theorem dX6_laySpread_42 : decode cX6_laySpread 42 = .ok (.aload_n 0, 1) := by decide +kernel
theorem dX6_laySpread_43 : decode cX6_laySpread 43 = .ok (.getfield 35, 3) := by decide +kernel
theorem dX6_laySpread_46 : decode cX6_laySpread 46 = .ok (.iload 5, 2) := by decide +kernel
theorem dX6_laySpread_48 : decode cX6_laySpread 48 = .ok (.laload, 1) := by decide +kernel
theorem dX6_laySpread_49 : decode cX6_laySpread 49 = .ok (.lmul, 1) := by decide +kernel
theorem dX6_laySpread_50 : decode cX6_laySpread 50 = .ok (.ladd, 1) := by decide +kernel
theorem dX6_laySpread_51 : decode cX6_laySpread 51 = .ok (.lstore_n 3, 1) := by decide +kernel
theorem dX6_laySpread_52 : decode cX6_laySpread 52 = .ok (.iinc 5 1, 3) := by decide +kernel
theorem dX6_laySpread_55 : decode cX6_laySpread 55 = .ok (.goto (-30), 3) := by decide +kernel
theorem dX6_laySpread_58 : decode cX6_laySpread 58 = .ok (.aload_n 0, 1) := by decide +kernel
theorem dX6_laySpread_59 : decode cX6_laySpread 59 = .ok (.lload_n 3, 1) := by decide +kernel
theorem dX6_laySpread_60 : decode cX6_laySpread 60 = .ok (.aload_n 0, 1) := by decide +kernel
theorem dX6_laySpread_61 : decode cX6_laySpread 61 = .ok (.getfield 95, 3) := by decide +kernel
theorem dX6_laySpread_64 : decode cX6_laySpread 64 = .ok (.aload_n 0, 1) := by decide +kernel
theorem dX6_laySpread_65 : decode cX6_laySpread 65 = .ok (.getfield 95, 3) := by decide +kernel
theorem dX6_laySpread_68 : decode cX6_laySpread 68 = .ok (.lmul, 1) := by decide +kernel
theorem dX6_laySpread_69 : decode cX6_laySpread 69 = .ok (.aload_n 0, 1) := by decide +kernel
theorem dX6_laySpread_70 : decode cX6_laySpread 70 = .ok (.getfield 88, 3) := by decide +kernel
theorem dX6_laySpread_73 : decode cX6_laySpread 73 = .ok (.lmul, 1) := by decide +kernel
theorem dX6_laySpread_74 : decode cX6_laySpread 74 = .ok (.invokevirtual 114, 3) := by decide +kernel
theorem dX6_laySpread_77 : decode cX6_laySpread 77 = .ok (.return_, 1) := by decide +kernel
theorem dX6_inner_0 : decode cX6_inner 0 = .ok (.lconst 0, 1) := by decide +kernel
theorem dX6_inner_1 : decode cX6_inner 1 = .ok (.lstore_n 1, 1) := by decide +kernel
theorem dX6_inner_2 : decode cX6_inner 2 = .ok (.iconst 0, 1) := by decide +kernel
theorem dX6_inner_3 : decode cX6_inner 3 = .ok (.istore_n 3, 1) := by decide +kernel
theorem dX6_inner_4 : decode cX6_inner 4 = .ok (.iload_n 3, 1) := by decide +kernel
theorem dX6_inner_5 : decode cX6_inner 5 = .ok (.bipush 16, 2) := by decide +kernel
theorem dX6_inner_7 : decode cX6_inner 7 = .ok (.if_icmp .ge 47, 3) := by decide +kernel
theorem dX6_inner_10 : decode cX6_inner 10 = .ok (.iload_n 3, 1) := by decide +kernel
theorem dX6_inner_11 : decode cX6_inner 11 = .ok (.iconst 4, 1) := by decide +kernel
theorem dX6_inner_12 : decode cX6_inner 12 = .ok (.idiv, 1) := by decide +kernel
theorem dX6_inner_13 : decode cX6_inner 13 = .ok (.istore 4, 2) := by decide +kernel
theorem dX6_inner_15 : decode cX6_inner 15 = .ok (.iload_n 3, 1) := by decide +kernel
theorem dX6_inner_16 : decode cX6_inner 16 = .ok (.iconst 4, 1) := by decide +kernel
theorem dX6_inner_17 : decode cX6_inner 17 = .ok (.irem, 1) := by decide +kernel
theorem dX6_inner_18 : decode cX6_inner 18 = .ok (.istore 5, 2) := by decide +kernel
theorem dX6_inner_20 : decode cX6_inner 20 = .ok (.lload_n 1, 1) := by decide +kernel
theorem dX6_inner_21 : decode cX6_inner 21 = .ok (.aload_n 0, 1) := by decide +kernel
theorem dX6_inner_22 : decode cX6_inner 22 = .ok (.aload_n 0, 1) := by decide +kernel
theorem dX6_inner_23 : decode cX6_inner 23 = .ok (.iload 4, 2) := by decide +kernel
theorem dX6_inner_25 : decode cX6_inner 25 = .ok (.iconst 2, 1) := by decide +kernel
theorem dX6_inner_26 : decode cX6_inner 26 = .ok (.irem, 1) := by decide +kernel
theorem dX6_inner_27 : decode cX6_inner 27 = .ok (.iload 4, 2) := by decide +kernel
theorem dX6_inner_29 : decode cX6_inner 29 = .ok (.iconst 2, 1) := by decide +kernel
theorem dX6_inner_30 : decode cX6_inner 30 = .ok (.idiv, 1) := by decide +kernel
theorem dX6_inner_31 : decode cX6_inner 31 = .ok (.iload 5, 2) := by decide +kernel
theorem dX6_inner_33 : decode cX6_inner 33 = .ok (.iconst 2, 1) := by decide +kernel
theorem dX6_inner_34 : decode cX6_inner 34 = .ok (.irem, 1) := by decide +kernel
theorem dX6_inner_35 : decode cX6_inner 35 = .ok (.iload 5, 2) := by decide +kernel
theorem dX6_inner_37 : decode cX6_inner 37 = .ok (.iconst 2, 1) := by decide +kernel
theorem dX6_inner_38 : decode cX6_inner 38 = .ok (.idiv, 1) := by decide +kernel
theorem dX6_inner_39 : decode cX6_inner 39 = .ok (.invokevirtual 54, 3) := by decide +kernel
theorem dX6_inner_42 : decode cX6_inner 42 = .ok (.invokevirtual 58, 3) := by decide +kernel
theorem dX6_inner_45 : decode cX6_inner 45 = .ok (.i2l, 1) := by decide +kernel
theorem dX6_inner_46 : decode cX6_inner 46 = .ok (.ladd, 1) := by decide +kernel
theorem dX6_inner_47 : decode cX6_inner 47 = .ok (.lstore_n 1, 1) := by decide +kernel
theorem dX6_inner_48 : decode cX6_inner 48 = .ok (.iinc 3 1, 3) := by decide +kernel
theorem dX6_inner_51 : decode cX6_inner 51 = .ok (.goto (-47), 3) := by decide +kernel
theorem dX6_inner_54 : decode cX6_inner 54 = .ok (.lload_n 1, 1) := by decide +kernel
theorem dX6_inner_55 : decode cX6_inner 55 = .ok (.lreturn, 1) := by decide +kernel
theorem dX6_negatives_0 : decode cX6_negatives 0 = .ok (.iconst 0, 1) := by decide +kernel
theorem dX6_negatives_1 : decode cX6_negatives 1 = .ok (.istore_n 1, 1) := by decide +kernel
theorem dX6_negatives_2 : decode cX6_negatives 2 = .ok (.iconst 0, 1) := by decide +kernel
theorem dX6_negatives_3 : decode cX6_negatives 3 = .ok (.istore_n 2, 1) := by decide +kernel
theorem dX6_negatives_4 : decode cX6_negatives 4 = .ok (.iload_n 2, 1) := by decide +kernel
theorem dX6_negatives_5 : decode cX6_negatives 5 = .ok (.aload_n 0, 1) := by decide +kernel
theorem dX6_negatives_6 : decode cX6_negatives 6 = .ok (.getfield 65, 3) := by decide +kernel
theorem dX6_negatives_9 : decode cX6_negatives 9 = .ok (.if_icmp .ge 68, 3) := by decide +kernel
theorem dX6_negatives_12 : decode cX6_negatives 12 = .ok (.iload_n 1, 1) := by decide +kernel
theorem dX6_negatives_13 : decode cX6_negatives 13 = .ok (.aload_n 0, 1) := by decide +kernel
theorem dX6_negatives_14 : decode cX6_negatives 14 = .ok (.getfield 41, 3) := by decide +kernel
theorem dX6_negatives_17 : decode cX6_negatives 17 = .ok (.iload_n 2, 1) := by decide +kernel
theorem dX6_negatives_18 : decode cX6_negatives 18 = .ok (.laload, 1) := by decide +kernel
theorem dX6_negatives_19 : decode cX6_negatives 19 = .ok (.lconst 0, 1) := by decide +kernel
theorem dX6_negatives_20 : decode cX6_negatives 20 = .ok (.lcmp, 1) := by decide +kernel
theorem dX6_negatives_21 : decode cX6_negatives 21 = .ok (.ifCond .ge 7, 3) := by decide +kernel
theorem dX6_negatives_24 : decode cX6_negatives 24 = .ok (.iconst 1, 1) := by decide +kernel
theorem dX6_negatives_25 : decode cX6_negatives 25 = .ok (.goto 4, 3) := by decide +kernel
theorem dX6_negatives_28 : decode cX6_negatives 28 = .ok (.iconst 0, 1) := by decide +kernel
theorem dX6_negatives_29 : decode cX6_negatives 29 = .ok (.aload_n 0, 1) := by decide +kernel
theorem dX6_negatives_30 : decode cX6_negatives 30 = .ok (.getfield 88, 3) := by decide +kernel
theorem dX6_negatives_33 : decode cX6_negatives 33 = .ok (.lconst 0, 1) := by decide +kernel
theorem dX6_negatives_34 : decode cX6_negatives 34 = .ok (.lcmp, 1) := by decide +kernel
theorem dX6_negatives_35 : decode cX6_negatives 35 = .ok (.ifCond .ge 7, 3) := by decide +kernel
theorem dX6_negatives_38 : decode cX6_negatives 38 = .ok (.iconst 1, 1) := by decide +kernel
theorem dX6_negatives_39 : decode cX6_negatives 39 = .ok (.goto 4, 3) := by decide +kernel
theorem dX6_negatives_42 : decode cX6_negatives 42 = .ok (.iconst 0, 1) := by decide +kernel
theorem dX6_negatives_43 : decode cX6_negatives 43 = .ok (.if_icmp .eq 25, 3) := by decide +kernel
theorem dX6_negatives_46 : decode cX6_negatives 46 = .ok (.aload_n 0, 1) := by decide +kernel
theorem dX6_negatives_47 : decode cX6_negatives 47 = .ok (.getfield 41, 3) := by decide +kernel
theorem dX6_negatives_50 : decode cX6_negatives 50 = .ok (.iload_n 2, 1) := by decide +kernel
theorem dX6_negatives_51 : decode cX6_negatives 51 = .ok (.laload, 1) := by decide +kernel
theorem dX6_negatives_52 : decode cX6_negatives 52 = .ok (.lconst 0, 1) := by decide +kernel
theorem dX6_negatives_53 : decode cX6_negatives 53 = .ok (.lcmp, 1) := by decide +kernel
theorem dX6_negatives_54 : decode cX6_negatives 54 = .ok (.ifCond .eq 14, 3) := by decide +kernel
theorem dX6_negatives_57 : decode cX6_negatives 57 = .ok (.iconst 1, 1) := by decide +kernel
theorem dX6_negatives_58 : decode cX6_negatives 58 = .ok (.aload_n 0, 1) := by decide +kernel
theorem dX6_negatives_59 : decode cX6_negatives 59 = .ok (.getfield 25, 3) := by decide +kernel
theorem dX6_negatives_62 : decode cX6_negatives 62 = .ok (.iload_n 2, 1) := by decide +kernel
theorem dX6_negatives_63 : decode cX6_negatives 63 = .ok (.iaload, 1) := by decide +kernel
theorem dX6_negatives_64 : decode cX6_negatives 64 = .ok (.ishl, 1) := by decide +kernel
theorem dX6_negatives_65 : decode cX6_negatives 65 = .ok (.goto 4, 3) := by decide +kernel
theorem dX6_negatives_68 : decode cX6_negatives 68 = .ok (.iconst 0, 1) := by decide +kernel
theorem dX6_negatives_69 : decode cX6_negatives 69 = .ok (.ior, 1) := by decide +kernel
theorem dX6_negatives_70 : decode cX6_negatives 70 = .ok (.istore_n 1, 1) := by decide +kernel
theorem dX6_negatives_71 : decode cX6_negatives 71 = .ok (.iinc 2 1, 3) := by decide +kernel
theorem dX6_negatives_74 : decode cX6_negatives 74 = .ok (.goto (-70), 3) := by decide +kernel
theorem dX6_negatives_77 : decode cX6_negatives 77 = .ok (.iload_n 1, 1) := by decide +kernel
theorem dX6_negatives_78 : decode cX6_negatives 78 = .ok (.ireturn, 1) := by decide +kernel
theorem dX6_isMore_0 : decode cX6_isMore 0 = .ok (.lload_n 0, 1) := by decide +kernel
theorem dX6_isMore_1 : decode cX6_isMore 1 = .ok (.lstore 8, 2) := by decide +kernel
theorem dX6_isMore_3 : decode cX6_isMore 3 = .ok (.lload_n 2, 1) := by decide +kernel
theorem dX6_isMore_4 : decode cX6_isMore 4 = .ok (.lstore 10, 2) := by decide +kernel
theorem dX6_isMore_6 : decode cX6_isMore 6 = .ok (.lload 4, 2) := by decide +kernel
theorem dX6_isMore_8 : decode cX6_isMore 8 = .ok (.lstore 12, 2) := by decide +kernel
theorem dX6_isMore_10 : decode cX6_isMore 10 = .ok (.lload 6, 2) := by decide +kernel
theorem dX6_isMore_12 : decode cX6_isMore 12 = .ok (.lstore 14, 2) := by decide +kernel
theorem dX6_isMore_14 : decode cX6_isMore 14 = .ok (.iconst 0, 1) := by decide +kernel
theorem dX6_isMore_15 : decode cX6_isMore 15 = .ok (.istore 16, 2) := by decide +kernel
theorem dX6_isMore_17 : decode cX6_isMore 17 = .ok (.iconst 0, 1) := by decide +kernel
theorem dX6_isMore_18 : decode cX6_isMore 18 = .ok (.istore 17, 2) := by decide +kernel
theorem dX6_isMore_20 : decode cX6_isMore 20 = .ok (.iload 17, 2) := by decide +kernel
theorem dX6_isMore_22 : decode cX6_isMore 22 = .ok (.sipush 200, 3) := by decide +kernel
theorem dX6_isMore_25 : decode cX6_isMore 25 = .ok (.if_icmp .ge 180, 3) := by decide +kernel
theorem dX6_isMore_28 : decode cX6_isMore 28 = .ok (.lload 8, 2) := by decide +kernel
theorem dX6_isMore_30 : decode cX6_isMore 30 = .ok (.lload 10, 2) := by decide +kernel
theorem dX6_isMore_32 : decode cX6_isMore 32 = .ok (.ldiv, 1) := by decide +kernel
theorem dX6_isMore_33 : decode cX6_isMore 33 = .ok (.lstore 18, 2) := by decide +kernel
theorem dX6_isMore_35 : decode cX6_isMore 35 = .ok (.lload 12, 2) := by decide +kernel
theorem dX6_isMore_37 : decode cX6_isMore 37 = .ok (.lload 14, 2) := by decide +kernel
theorem dX6_isMore_39 : decode cX6_isMore 39 = .ok (.ldiv, 1) := by decide +kernel
theorem dX6_isMore_40 : decode cX6_isMore 40 = .ok (.lstore 20, 2) := by decide +kernel
theorem dX6_isMore_42 : decode cX6_isMore 42 = .ok (.lload 8, 2) := by decide +kernel
theorem dX6_isMore_44 : decode cX6_isMore 44 = .ok (.lload 10, 2) := by decide +kernel
theorem dX6_isMore_46 : decode cX6_isMore 46 = .ok (.lrem, 1) := by decide +kernel
theorem dX6_isMore_47 : decode cX6_isMore 47 = .ok (.lconst 0, 1) := by decide +kernel
theorem dX6_isMore_48 : decode cX6_isMore 48 = .ok (.lcmp, 1) := by decide +kernel
theorem dX6_isMore_49 : decode cX6_isMore 49 = .ok (.ifCond .ge 9, 3) := by decide +kernel
theorem dX6_isMore_52 : decode cX6_isMore 52 = .ok (.lload 18, 2) := by decide +kernel
theorem dX6_isMore_54 : decode cX6_isMore 54 = .ok (.lconst 1, 1) := by decide +kernel
theorem dX6_isMore_55 : decode cX6_isMore 55 = .ok (.lsub, 1) := by decide +kernel
theorem dX6_isMore_56 : decode cX6_isMore 56 = .ok (.lstore 18, 2) := by decide +kernel
theorem dX6_isMore_58 : decode cX6_isMore 58 = .ok (.lload 12, 2) := by decide +kernel
theorem dX6_isMore_60 : decode cX6_isMore 60 = .ok (.lload 14, 2) := by decide +kernel
theorem dX6_isMore_62 : decode cX6_isMore 62 = .ok (.lrem, 1) := by decide +kernel
theorem dX6_isMore_63 : decode cX6_isMore 63 = .ok (.lconst 0, 1) := by decide +kernel
theorem dX6_isMore_64 : decode cX6_isMore 64 = .ok (.lcmp, 1) := by decide +kernel
theorem dX6_isMore_65 : decode cX6_isMore 65 = .ok (.ifCond .ge 9, 3) := by decide +kernel
theorem dX6_isMore_68 : decode cX6_isMore 68 = .ok (.lload 20, 2) := by decide +kernel
theorem dX6_isMore_70 : decode cX6_isMore 70 = .ok (.lconst 1, 1) := by decide +kernel
theorem dX6_isMore_71 : decode cX6_isMore 71 = .ok (.lsub, 1) := by decide +kernel
theorem dX6_isMore_72 : decode cX6_isMore 72 = .ok (.lstore 20, 2) := by decide +kernel
theorem dX6_isMore_74 : decode cX6_isMore 74 = .ok (.lload 18, 2) := by decide +kernel
theorem dX6_isMore_76 : decode cX6_isMore 76 = .ok (.lload 20, 2) := by decide +kernel
theorem dX6_isMore_78 : decode cX6_isMore 78 = .ok (.lcmp, 1) := by decide +kernel
theorem dX6_isMore_79 : decode cX6_isMore 79 = .ok (.ifCond .eq 27, 3) := by decide +kernel
theorem dX6_isMore_82 : decode cX6_isMore 82 = .ok (.lload 18, 2) := by decide +kernel
theorem dX6_isMore_84 : decode cX6_isMore 84 = .ok (.lload 20, 2) := by decide +kernel
theorem dX6_isMore_86 : decode cX6_isMore 86 = .ok (.lcmp, 1) := by decide +kernel
theorem dX6_isMore_87 : decode cX6_isMore 87 = .ok (.ifCond .le 7, 3) := by decide +kernel
theorem dX6_isMore_90 : decode cX6_isMore 90 = .ok (.iconst 1, 1) := by decide +kernel
theorem dX6_isMore_91 : decode cX6_isMore 91 = .ok (.goto 4, 3) := by decide +kernel
theorem dX6_isMore_94 : decode cX6_isMore 94 = .ok (.iconst 0, 1) := by decide +kernel
theorem dX6_isMore_95 : decode cX6_isMore 95 = .ok (.iload 16, 2) := by decide +kernel
theorem dX6_isMore_97 : decode cX6_isMore 97 = .ok (.if_icmp .eq 7, 3) := by decide +kernel
theorem dX6_isMore_100 : decode cX6_isMore 100 = .ok (.iconst 1, 1) := by decide +kernel
theorem dX6_isMore_101 : decode cX6_isMore 101 = .ok (.goto 4, 3) := by decide +kernel
theorem dX6_isMore_104 : decode cX6_isMore 104 = .ok (.iconst 0, 1) := by decide +kernel
theorem dX6_isMore_105 : decode cX6_isMore 105 = .ok (.ireturn, 1) := by decide +kernel
theorem dX6_isMore_106 : decode cX6_isMore 106 = .ok (.lload 8, 2) := by decide +kernel
theorem dX6_isMore_108 : decode cX6_isMore 108 = .ok (.lload 18, 2) := by decide +kernel
theorem dX6_isMore_110 : decode cX6_isMore 110 = .ok (.lload 10, 2) := by decide +kernel
theorem dX6_isMore_112 : decode cX6_isMore 112 = .ok (.lmul, 1) := by decide +kernel
theorem dX6_isMore_113 : decode cX6_isMore 113 = .ok (.lsub, 1) := by decide +kernel
theorem dX6_isMore_114 : decode cX6_isMore 114 = .ok (.lstore 22, 2) := by decide +kernel
theorem dX6_isMore_116 : decode cX6_isMore 116 = .ok (.lload 12, 2) := by decide +kernel
theorem dX6_isMore_118 : decode cX6_isMore 118 = .ok (.lload 20, 2) := by decide +kernel
theorem dX6_isMore_120 : decode cX6_isMore 120 = .ok (.lload 14, 2) := by decide +kernel
theorem dX6_isMore_122 : decode cX6_isMore 122 = .ok (.lmul, 1) := by decide +kernel
theorem dX6_isMore_123 : decode cX6_isMore 123 = .ok (.lsub, 1) := by decide +kernel
theorem dX6_isMore_124 : decode cX6_isMore 124 = .ok (.lstore 24, 2) := by decide +kernel
theorem dX6_isMore_126 : decode cX6_isMore 126 = .ok (.lload 22, 2) := by decide +kernel
theorem dX6_isMore_128 : decode cX6_isMore 128 = .ok (.lconst 0, 1) := by decide +kernel
theorem dX6_isMore_129 : decode cX6_isMore 129 = .ok (.lcmp, 1) := by decide +kernel
theorem dX6_isMore_130 : decode cX6_isMore 130 = .ok (.ifCond .eq 10, 3) := by decide +kernel
theorem dX6_isMore_133 : decode cX6_isMore 133 = .ok (.lload 24, 2) := by decide +kernel
theorem dX6_isMore_135 : decode cX6_isMore 135 = .ok (.lconst 0, 1) := by decide +kernel
theorem dX6_isMore_136 : decode cX6_isMore 136 = .ok (.lcmp, 1) := by decide +kernel
theorem dX6_isMore_137 : decode cX6_isMore 137 = .ok (.ifCond .ne 34, 3) := by decide +kernel
theorem dX6_isMore_140 : decode cX6_isMore 140 = .ok (.lload 22, 2) := by decide +kernel
theorem dX6_isMore_142 : decode cX6_isMore 142 = .ok (.lload 24, 2) := by decide +kernel
theorem dX6_isMore_144 : decode cX6_isMore 144 = .ok (.lcmp, 1) := by decide +kernel
theorem dX6_isMore_145 : decode cX6_isMore 145 = .ok (.ifCond .eq 24, 3) := by decide +kernel
theorem dX6_isMore_148 : decode cX6_isMore 148 = .ok (.lload 22, 2) := by decide +kernel
theorem dX6_isMore_150 : decode cX6_isMore 150 = .ok (.lconst 0, 1) := by decide +kernel
theorem dX6_isMore_151 : decode cX6_isMore 151 = .ok (.lcmp, 1) := by decide +kernel
theorem dX6_isMore_152 : decode cX6_isMore 152 = .ok (.ifCond .le 7, 3) := by decide +kernel
theorem dX6_isMore_155 : decode cX6_isMore 155 = .ok (.iconst 1, 1) := by decide +kernel
theorem dX6_isMore_156 : decode cX6_isMore 156 = .ok (.goto 4, 3) := by decide +kernel
theorem dX6_isMore_159 : decode cX6_isMore 159 = .ok (.iconst 0, 1) := by decide +kernel
theorem dX6_isMore_160 : decode cX6_isMore 160 = .ok (.iload 16, 2) := by decide +kernel
theorem dX6_isMore_162 : decode cX6_isMore 162 = .ok (.if_icmp .eq 7, 3) := by decide +kernel
theorem dX6_isMore_165 : decode cX6_isMore 165 = .ok (.iconst 1, 1) := by decide +kernel
theorem dX6_isMore_166 : decode cX6_isMore 166 = .ok (.goto 4, 3) := by decide +kernel
theorem dX6_isMore_169 : decode cX6_isMore 169 = .ok (.iconst 0, 1) := by decide +kernel
theorem dX6_isMore_170 : decode cX6_isMore 170 = .ok (.ireturn, 1) := by decide +kernel
theorem dX6_isMore_171 : decode cX6_isMore 171 = .ok (.lload 10, 2) := by decide +kernel
theorem dX6_isMore_173 : decode cX6_isMore 173 = .ok (.lstore 8, 2) := by decide +kernel
theorem dX6_isMore_175 : decode cX6_isMore 175 = .ok (.lload 14, 2) := by decide +kernel
theorem dX6_isMore_177 : decode cX6_isMore 177 = .ok (.lstore 12, 2) := by decide +kernel
theorem dX6_isMore_179 : decode cX6_isMore 179 = .ok (.lload 22, 2) := by decide +kernel
theorem dX6_isMore_181 : decode cX6_isMore 181 = .ok (.lstore 10, 2) := by decide +kernel
theorem dX6_isMore_183 : decode cX6_isMore 183 = .ok (.lload 24, 2) := by decide +kernel
theorem dX6_isMore_185 : decode cX6_isMore 185 = .ok (.lstore 14, 2) := by decide +kernel
theorem dX6_isMore_187 : decode cX6_isMore 187 = .ok (.iload 16, 2) := by decide +kernel
theorem dX6_isMore_189 : decode cX6_isMore 189 = .ok (.ifCond .ne 7, 3) := by decide +kernel
theorem dX6_isMore_192 : decode cX6_isMore 192 = .ok (.iconst 1, 1) := by decide +kernel
theorem dX6_isMore_193 : decode cX6_isMore 193 = .ok (.goto 4, 3) := by decide +kernel
theorem dX6_isMore_196 : decode cX6_isMore 196 = .ok (.iconst 0, 1) := by decide +kernel
theorem dX6_isMore_197 : decode cX6_isMore 197 = .ok (.istore 16, 2) := by decide +kernel
theorem dX6_isMore_199 : decode cX6_isMore 199 = .ok (.iinc 17 1, 3) := by decide +kernel
theorem dX6_isMore_202 : decode cX6_isMore 202 = .ok (.goto (-182), 3) := by decide +kernel
theorem dX6_isMore_205 : decode cX6_isMore 205 = .ok (.iconst 0, 1) := by decide +kernel
theorem dX6_isMore_206 : decode cX6_isMore 206 = .ok (.ireturn, 1) := by decide +kernel
theorem dX6_leftOut_0 : decode cX6_leftOut 0 = .ok (.aload_n 0, 1) := by decide +kernel
theorem dX6_leftOut_1 : decode cX6_leftOut 1 = .ok (.aload_n 0, 1) := by decide +kernel
theorem dX6_leftOut_2 : decode cX6_leftOut 2 = .ok (.getfield 7, 3) := by decide +kernel
theorem dX6_leftOut_5 : decode cX6_leftOut 5 = .ok (.iload_n 1, 1) := by decide +kernel
theorem dX6_leftOut_6 : decode cX6_leftOut 6 = .ok (.invokestatic 50, 3) := by decide +kernel
theorem dX6_leftOut_9 : decode cX6_leftOut 9 = .ok (.iaload, 1) := by decide +kernel
theorem dX6_leftOut_10 : decode cX6_leftOut 10 = .ok (.aload_n 0, 1) := by decide +kernel
theorem dX6_leftOut_11 : decode cX6_leftOut 11 = .ok (.getfield 7, 3) := by decide +kernel
theorem dX6_leftOut_14 : decode cX6_leftOut 14 = .ok (.iload_n 1, 1) := by decide +kernel
theorem dX6_leftOut_15 : decode cX6_leftOut 15 = .ok (.invokestatic 50, 3) := by decide +kernel
theorem dX6_leftOut_18 : decode cX6_leftOut 18 = .ok (.iconst 1, 1) := by decide +kernel
theorem dX6_leftOut_19 : decode cX6_leftOut 19 = .ok (.iadd, 1) := by decide +kernel
theorem dX6_leftOut_20 : decode cX6_leftOut 20 = .ok (.iaload, 1) := by decide +kernel
theorem dX6_leftOut_21 : decode cX6_leftOut 21 = .ok (.iload_n 1, 1) := by decide +kernel
theorem dX6_leftOut_22 : decode cX6_leftOut 22 = .ok (.invokevirtual 118, 3) := by decide +kernel
theorem dX6_leftOut_25 : decode cX6_leftOut 25 = .ok (.istore_n 2, 1) := by decide +kernel
theorem dX6_leftOut_26 : decode cX6_leftOut 26 = .ok (.iload_n 2, 1) := by decide +kernel
theorem dX6_leftOut_27 : decode cX6_leftOut 27 = .ok (.ifCond .eq 33, 3) := by decide +kernel
theorem dX6_leftOut_30 : decode cX6_leftOut 30 = .ok (.aload_n 0, 1) := by decide +kernel
theorem dX6_leftOut_31 : decode cX6_leftOut 31 = .ok (.invokevirtual 122, 3) := by decide +kernel
theorem dX6_leftOut_34 : decode cX6_leftOut 34 = .ok (.aload_n 0, 1) := by decide +kernel
theorem dX6_leftOut_35 : decode cX6_leftOut 35 = .ok (.dup, 1) := by decide +kernel
theorem dX6_leftOut_36 : decode cX6_leftOut 36 = .ok (.getfield 108, 3) := by decide +kernel
theorem dX6_leftOut_39 : decode cX6_leftOut 39 = .ok (.aload_n 0, 1) := by decide +kernel
theorem dX6_leftOut_40 : decode cX6_leftOut 40 = .ok (.getfield 7, 3) := by decide +kernel
theorem dX6_leftOut_43 : decode cX6_leftOut 43 = .ok (.iload_n 1, 1) := by decide +kernel
theorem dX6_leftOut_44 : decode cX6_leftOut 44 = .ok (.invokestatic 50, 3) := by decide +kernel
theorem dX6_leftOut_47 : decode cX6_leftOut 47 = .ok (.iconst 2, 1) := by decide +kernel
theorem dX6_leftOut_48 : decode cX6_leftOut 48 = .ok (.iadd, 1) := by decide +kernel
theorem dX6_leftOut_49 : decode cX6_leftOut 49 = .ok (.iaload, 1) := by decide +kernel
theorem dX6_leftOut_50 : decode cX6_leftOut 50 = .ok (.i2l, 1) := by decide +kernel
theorem dX6_leftOut_51 : decode cX6_leftOut 51 = .ok (.aload_n 0, 1) := by decide +kernel
theorem dX6_leftOut_52 : decode cX6_leftOut 52 = .ok (.getfield 111, 3) := by decide +kernel
theorem dX6_leftOut_55 : decode cX6_leftOut 55 = .ok (.lmul, 1) := by decide +kernel
theorem dX6_leftOut_56 : decode cX6_leftOut 56 = .ok (.lsub, 1) := by decide +kernel
theorem dX6_leftOut_57 : decode cX6_leftOut 57 = .ok (.putfield 108, 3) := by decide +kernel
theorem dX6_leftOut_60 : decode cX6_leftOut 60 = .ok (.iload_n 2, 1) := by decide +kernel
theorem dX6_leftOut_61 : decode cX6_leftOut 61 = .ok (.ireturn, 1) := by decide +kernel
theorem dX6_withoutGuess_0 : decode cX6_withoutGuess 0 = .ok (.iconst 0, 1) := by decide +kernel
theorem dX6_withoutGuess_1 : decode cX6_withoutGuess 1 = .ok (.istore_n 1, 1) := by decide +kernel
theorem dX6_withoutGuess_2 : decode cX6_withoutGuess 2 = .ok (.iconst 0, 1) := by decide +kernel
theorem dX6_withoutGuess_3 : decode cX6_withoutGuess 3 = .ok (.istore_n 2, 1) := by decide +kernel
theorem dX6_withoutGuess_4 : decode cX6_withoutGuess 4 = .ok (.iload_n 2, 1) := by decide +kernel
theorem dX6_withoutGuess_5 : decode cX6_withoutGuess 5 = .ok (.aload_n 0, 1) := by decide +kernel
theorem dX6_withoutGuess_6 : decode cX6_withoutGuess 6 = .ok (.getfield 7, 3) := by decide +kernel
theorem dX6_withoutGuess_9 : decode cX6_withoutGuess 9 = .ok (.iconst 0, 1) := by decide +kernel
theorem dX6_withoutGuess_10 : decode cX6_withoutGuess 10 = .ok (.iaload, 1) := by decide +kernel
theorem dX6_withoutGuess_11 : decode cX6_withoutGuess 11 = .ok (.if_icmp .ge 25, 3) := by decide +kernel
theorem dX6_withoutGuess_14 : decode cX6_withoutGuess 14 = .ok (.iload_n 1, 1) := by decide +kernel
theorem dX6_withoutGuess_15 : decode cX6_withoutGuess 15 = .ok (.aload_n 0, 1) := by decide +kernel
theorem dX6_withoutGuess_16 : decode cX6_withoutGuess 16 = .ok (.iload_n 2, 1) := by decide +kernel
theorem dX6_withoutGuess_17 : decode cX6_withoutGuess 17 = .ok (.invokevirtual 125, 3) := by decide +kernel
theorem dX6_withoutGuess_20 : decode cX6_withoutGuess 20 = .ok (.ifCond .eq 7, 3) := by decide +kernel
theorem dX6_withoutGuess_23 : decode cX6_withoutGuess 23 = .ok (.iconst 0, 1) := by decide +kernel
theorem dX6_withoutGuess_24 : decode cX6_withoutGuess 24 = .ok (.goto 4, 3) := by decide +kernel
theorem dX6_withoutGuess_27 : decode cX6_withoutGuess 27 = .ok (.iconst 1, 1) := by decide +kernel
theorem dX6_withoutGuess_28 : decode cX6_withoutGuess 28 = .ok (.iadd, 1) := by decide +kernel
theorem dX6_withoutGuess_29 : decode cX6_withoutGuess 29 = .ok (.istore_n 1, 1) := by decide +kernel
theorem dX6_withoutGuess_30 : decode cX6_withoutGuess 30 = .ok (.iinc 2 1, 3) := by decide +kernel
theorem dX6_withoutGuess_33 : decode cX6_withoutGuess 33 = .ok (.goto (-29), 3) := by decide +kernel
theorem dX6_withoutGuess_36 : decode cX6_withoutGuess 36 = .ok (.iload_n 1, 1) := by decide +kernel
theorem dX6_withoutGuess_37 : decode cX6_withoutGuess 37 = .ok (.ireturn, 1) := by decide +kernel
theorem dX6_farthestOff_0 : decode cX6_farthestOff 0 = .ok (.iconst (-1), 1) := by decide +kernel
theorem dX6_farthestOff_1 : decode cX6_farthestOff 1 = .ok (.istore_n 1, 1) := by decide +kernel
theorem dX6_farthestOff_2 : decode cX6_farthestOff 2 = .ok (.lconst 0, 1) := by decide +kernel
theorem dX6_farthestOff_3 : decode cX6_farthestOff 3 = .ok (.lstore_n 2, 1) := by decide +kernel
theorem dX6_farthestOff_4 : decode cX6_farthestOff 4 = .ok (.lconst 1, 1) := by decide +kernel
theorem dX6_farthestOff_5 : decode cX6_farthestOff 5 = .ok (.lstore 4, 2) := by decide +kernel
theorem dX6_farthestOff_7 : decode cX6_farthestOff 7 = .ok (.iconst 0, 1) := by decide +kernel
theorem dX6_farthestOff_8 : decode cX6_farthestOff 8 = .ok (.istore 6, 2) := by decide +kernel
theorem dX6_farthestOff_10 : decode cX6_farthestOff 10 = .ok (.iload 6, 2) := by decide +kernel
theorem dX6_farthestOff_12 : decode cX6_farthestOff 12 = .ok (.aload_n 0, 1) := by decide +kernel
theorem dX6_farthestOff_13 : decode cX6_farthestOff 13 = .ok (.getfield 7, 3) := by decide +kernel
theorem dX6_farthestOff_16 : decode cX6_farthestOff 16 = .ok (.iconst 0, 1) := by decide +kernel
theorem dX6_farthestOff_17 : decode cX6_farthestOff 17 = .ok (.iaload, 1) := by decide +kernel
theorem dX6_farthestOff_18 : decode cX6_farthestOff 18 = .ok (.if_icmp .ge 60, 3) := by decide +kernel
theorem dX6_farthestOff_21 : decode cX6_farthestOff 21 = .ok (.aload_n 0, 1) := by decide +kernel
theorem dX6_farthestOff_22 : decode cX6_farthestOff 22 = .ok (.iload 6, 2) := by decide +kernel
theorem dX6_farthestOff_24 : decode cX6_farthestOff 24 = .ok (.invokevirtual 125, 3) := by decide +kernel
theorem dX6_farthestOff_27 : decode cX6_farthestOff 27 = .ok (.ifCond .eq 45, 3) := by decide +kernel
theorem dX6_farthestOff_30 : decode cX6_farthestOff 30 = .ok (.iload_n 1, 1) := by decide +kernel
theorem dX6_farthestOff_31 : decode cX6_farthestOff 31 = .ok (.iconst (-1), 1) := by decide +kernel
theorem dX6_farthestOff_32 : decode cX6_farthestOff 32 = .ok (.if_icmp .eq 23, 3) := by decide +kernel
theorem dX6_farthestOff_35 : decode cX6_farthestOff 35 = .ok (.aload_n 0, 1) := by decide +kernel
theorem dX6_farthestOff_36 : decode cX6_farthestOff 36 = .ok (.getfield 108, 3) := by decide +kernel
theorem dX6_farthestOff_39 : decode cX6_farthestOff 39 = .ok (.invokestatic 104, 3) := by decide +kernel
theorem dX6_farthestOff_42 : decode cX6_farthestOff 42 = .ok (.aload_n 0, 1) := by decide +kernel
theorem dX6_farthestOff_43 : decode cX6_farthestOff 43 = .ok (.getfield 111, 3) := by decide +kernel
theorem dX6_farthestOff_46 : decode cX6_farthestOff 46 = .ok (.lload_n 2, 1) := by decide +kernel
theorem dX6_farthestOff_47 : decode cX6_farthestOff 47 = .ok (.lload 4, 2) := by decide +kernel
theorem dX6_farthestOff_49 : decode cX6_farthestOff 49 = .ok (.invokestatic 129, 3) := by decide +kernel
theorem dX6_farthestOff_52 : decode cX6_farthestOff 52 = .ok (.ifCond .eq 20, 3) := by decide +kernel
theorem dX6_farthestOff_55 : decode cX6_farthestOff 55 = .ok (.iload 6, 2) := by decide +kernel
theorem dX6_farthestOff_57 : decode cX6_farthestOff 57 = .ok (.istore_n 1, 1) := by decide +kernel
theorem dX6_farthestOff_58 : decode cX6_farthestOff 58 = .ok (.aload_n 0, 1) := by decide +kernel
theorem dX6_farthestOff_59 : decode cX6_farthestOff 59 = .ok (.getfield 108, 3) := by decide +kernel
theorem dX6_farthestOff_62 : decode cX6_farthestOff 62 = .ok (.invokestatic 104, 3) := by decide +kernel
theorem dX6_farthestOff_65 : decode cX6_farthestOff 65 = .ok (.lstore_n 2, 1) := by decide +kernel
theorem dX6_farthestOff_66 : decode cX6_farthestOff 66 = .ok (.aload_n 0, 1) := by decide +kernel
theorem dX6_farthestOff_67 : decode cX6_farthestOff 67 = .ok (.getfield 111, 3) := by decide +kernel
theorem dX6_farthestOff_70 : decode cX6_farthestOff 70 = .ok (.lstore 4, 2) := by decide +kernel
theorem dX6_farthestOff_72 : decode cX6_farthestOff 72 = .ok (.iinc 6 1, 3) := by decide +kernel
theorem dX6_farthestOff_75 : decode cX6_farthestOff 75 = .ok (.goto (-65), 3) := by decide +kernel
theorem dX6_farthestOff_78 : decode cX6_farthestOff 78 = .ok (.iload_n 1, 1) := by decide +kernel
theorem dX6_farthestOff_79 : decode cX6_farthestOff 79 = .ok (.ireturn, 1) := by decide +kernel
theorem dX6_cutAt_0 : decode cX6_cutAt 0 = .ok (.aload_n 0, 1) := by decide +kernel
theorem dX6_cutAt_1 : decode cX6_cutAt 1 = .ok (.iload_n 1, 1) := by decide +kernel
theorem dX6_cutAt_2 : decode cX6_cutAt 2 = .ok (.iload_n 2, 1) := by decide +kernel
theorem dX6_cutAt_3 : decode cX6_cutAt 3 = .ok (.iconst (-1), 1) := by decide +kernel
theorem dX6_cutAt_4 : decode cX6_cutAt 4 = .ok (.invokevirtual 118, 3) := by decide +kernel
theorem dX6_cutAt_7 : decode cX6_cutAt 7 = .ok (.ifCond .ne 7, 3) := by decide +kernel
theorem dX6_cutAt_10 : decode cX6_cutAt 10 = .ok (.ldc2_w 133, 3) := by decide +kernel
theorem dX6_cutAt_13 : decode cX6_cutAt 13 = .ok (.lreturn, 1) := by decide +kernel
theorem dX6_cutAt_14 : decode cX6_cutAt 14 = .ok (.aload_n 0, 1) := by decide +kernel
theorem dX6_cutAt_15 : decode cX6_cutAt 15 = .ok (.invokevirtual 122, 3) := by decide +kernel
theorem dX6_cutAt_18 : decode cX6_cutAt 18 = .ok (.aload_n 0, 1) := by decide +kernel
theorem dX6_cutAt_19 : decode cX6_cutAt 19 = .ok (.getfield 108, 3) := by decide +kernel
theorem dX6_cutAt_22 : decode cX6_cutAt 22 = .ok (.aload_n 0, 1) := by decide +kernel
theorem dX6_cutAt_23 : decode cX6_cutAt 23 = .ok (.getfield 111, 3) := by decide +kernel
theorem dX6_cutAt_26 : decode cX6_cutAt 26 = .ok (.ldiv, 1) := by decide +kernel
theorem dX6_cutAt_27 : decode cX6_cutAt 27 = .ok (.lreturn, 1) := by decide +kernel
theorem dX6_wrongEntry_0 : decode cX6_wrongEntry 0 = .ok (.iconst 0, 1) := by decide +kernel
theorem dX6_wrongEntry_1 : decode cX6_wrongEntry 1 = .ok (.istore_n 1, 1) := by decide +kernel
theorem dX6_wrongEntry_2 : decode cX6_wrongEntry 2 = .ok (.iload_n 1, 1) := by decide +kernel
theorem dX6_wrongEntry_3 : decode cX6_wrongEntry 3 = .ok (.aload_n 0, 1) := by decide +kernel
theorem dX6_wrongEntry_4 : decode cX6_wrongEntry 4 = .ok (.getfield 135, 3) := by decide +kernel
theorem dX6_wrongEntry_7 : decode cX6_wrongEntry 7 = .ok (.if_icmp .ge 38, 3) := by decide +kernel
theorem dX6_wrongEntry_10 : decode cX6_wrongEntry 10 = .ok (.aload_n 0, 1) := by decide +kernel
theorem dX6_wrongEntry_11 : decode cX6_wrongEntry 11 = .ok (.aload_n 0, 1) := by decide +kernel
theorem dX6_wrongEntry_12 : decode cX6_wrongEntry 12 = .ok (.getfield 16, 3) := by decide +kernel
theorem dX6_wrongEntry_15 : decode cX6_wrongEntry 15 = .ok (.iload_n 1, 1) := by decide +kernel
theorem dX6_wrongEntry_16 : decode cX6_wrongEntry 16 = .ok (.iaload, 1) := by decide +kernel
theorem dX6_wrongEntry_17 : decode cX6_wrongEntry 17 = .ok (.aload_n 0, 1) := by decide +kernel
theorem dX6_wrongEntry_18 : decode cX6_wrongEntry 18 = .ok (.getfield 19, 3) := by decide +kernel
theorem dX6_wrongEntry_21 : decode cX6_wrongEntry 21 = .ok (.iload_n 1, 1) := by decide +kernel
theorem dX6_wrongEntry_22 : decode cX6_wrongEntry 22 = .ok (.iaload, 1) := by decide +kernel
theorem dX6_wrongEntry_23 : decode cX6_wrongEntry 23 = .ok (.invokevirtual 138, 3) := by decide +kernel
theorem dX6_wrongEntry_26 : decode cX6_wrongEntry 26 = .ok (.aload_n 0, 1) := by decide +kernel
theorem dX6_wrongEntry_27 : decode cX6_wrongEntry 27 = .ok (.getfield 22, 3) := by decide +kernel
theorem dX6_wrongEntry_30 : decode cX6_wrongEntry 30 = .ok (.iload_n 1, 1) := by decide +kernel
theorem dX6_wrongEntry_31 : decode cX6_wrongEntry 31 = .ok (.iaload, 1) := by decide +kernel
theorem dX6_wrongEntry_32 : decode cX6_wrongEntry 32 = .ok (.i2l, 1) := by decide +kernel
theorem dX6_wrongEntry_33 : decode cX6_wrongEntry 33 = .ok (.lcmp, 1) := by decide +kernel
theorem dX6_wrongEntry_34 : decode cX6_wrongEntry 34 = .ok (.ifCond .eq 5, 3) := by decide +kernel
theorem dX6_wrongEntry_37 : decode cX6_wrongEntry 37 = .ok (.iload_n 1, 1) := by decide +kernel
theorem dX6_wrongEntry_38 : decode cX6_wrongEntry 38 = .ok (.ireturn, 1) := by decide +kernel
theorem dX6_wrongEntry_39 : decode cX6_wrongEntry 39 = .ok (.iinc 1 1, 3) := by decide +kernel
theorem dX6_wrongEntry_42 : decode cX6_wrongEntry 42 = .ok (.goto (-40), 3) := by decide +kernel
theorem dX6_wrongEntry_45 : decode cX6_wrongEntry 45 = .ok (.iconst (-1), 1) := by decide +kernel
theorem dX6_wrongEntry_46 : decode cX6_wrongEntry 46 = .ok (.ireturn, 1) := by decide +kernel
theorem dX6_told_0 : decode cX6_told 0 = .ok (.iload_n 1, 1) := by decide +kernel
theorem dX6_told_1 : decode cX6_told 1 = .ok (.i2l, 1) := by decide +kernel
theorem dX6_told_2 : decode cX6_told 2 = .ok (.lconst 0, 1) := by decide +kernel
theorem dX6_told_3 : decode cX6_told 3 = .ok (.ldc2_w 141, 3) := by decide +kernel
theorem dX6_told_6 : decode cX6_told 6 = .ok (.invokestatic 44, 3) := by decide +kernel
theorem dX6_told_9 : decode cX6_told 9 = .ok (.ifCond .eq 10, 3) := by decide +kernel
theorem dX6_told_12 : decode cX6_told 12 = .ok (.aload_n 0, 1) := by decide +kernel
theorem dX6_told_13 : decode cX6_told 13 = .ok (.getfield 7, 3) := by decide +kernel
theorem dX6_told_16 : decode cX6_told 16 = .ok (.iload_n 1, 1) := by decide +kernel
theorem dX6_told_17 : decode cX6_told 17 = .ok (.iaload, 1) := by decide +kernel
theorem dX6_told_18 : decode cX6_told 18 = .ok (.ireturn, 1) := by decide +kernel
theorem dX6_told_19 : decode cX6_told 19 = .ok (.iload_n 1, 1) := by decide +kernel
theorem dX6_told_20 : decode cX6_told 20 = .ok (.tableswitch 70 10 15 #[40, 45, 50, 55, 60, 65], 40) := by decide +kernel
theorem dX6_told_60 : decode cX6_told 60 = .ok (.aload_n 0, 1) := by decide +kernel
theorem dX6_told_61 : decode cX6_told 61 = .ok (.invokevirtual 143, 3) := by decide +kernel
theorem dX6_told_64 : decode cX6_told 64 = .ok (.ireturn, 1) := by decide +kernel
theorem dX6_told_65 : decode cX6_told 65 = .ok (.aload_n 0, 1) := by decide +kernel
theorem dX6_told_66 : decode cX6_told 66 = .ok (.invokevirtual 147, 3) := by decide +kernel
theorem dX6_told_69 : decode cX6_told 69 = .ok (.ireturn, 1) := by decide +kernel
theorem dX6_told_70 : decode cX6_told 70 = .ok (.aload_n 0, 1) := by decide +kernel
theorem dX6_told_71 : decode cX6_told 71 = .ok (.getfield 135, 3) := by decide +kernel
theorem dX6_told_74 : decode cX6_told 74 = .ok (.ireturn, 1) := by decide +kernel
theorem dX6_told_75 : decode cX6_told 75 = .ok (.aload_n 0, 1) := by decide +kernel
theorem dX6_told_76 : decode cX6_told 76 = .ok (.invokevirtual 150, 3) := by decide +kernel
theorem dX6_told_79 : decode cX6_told 79 = .ok (.ireturn, 1) := by decide +kernel
theorem dX6_told_80 : decode cX6_told 80 = .ok (.aload_n 0, 1) := by decide +kernel
theorem dX6_told_81 : decode cX6_told 81 = .ok (.getfield 153, 3) := by decide +kernel
theorem dX6_told_84 : decode cX6_told 84 = .ok (.ireturn, 1) := by decide +kernel
theorem dX6_told_85 : decode cX6_told 85 = .ok (.aload_n 0, 1) := by decide +kernel
theorem dX6_told_86 : decode cX6_told 86 = .ok (.getfield 156, 3) := by decide +kernel
theorem dX6_told_89 : decode cX6_told 89 = .ok (.ireturn, 1) := by decide +kernel
theorem dX6_told_90 : decode cX6_told 90 = .ok (.ldc 159, 2) := by decide +kernel
theorem dX6_told_92 : decode cX6_told 92 = .ok (.ireturn, 1) := by decide +kernel
theorem dX6_at_0 : decode cX6_at 0 = .ok (.aload_n 0, 1) := by decide +kernel
theorem dX6_at_1 : decode cX6_at 1 = .ok (.iload_n 1, 1) := by decide +kernel
theorem dX6_at_2 : decode cX6_at 2 = .ok (.invokevirtual 160, 3) := by decide +kernel
theorem dX6_at_5 : decode cX6_at 5 = .ok (.ifCond .ne 6, 3) := by decide +kernel
theorem dX6_at_8 : decode cX6_at 8 = .ok (.ldc 163, 2) := by decide +kernel
theorem dX6_at_10 : decode cX6_at 10 = .ok (.ireturn, 1) := by decide +kernel
theorem dX6_at_11 : decode cX6_at 11 = .ok (.iload_n 2, 1) := by decide +kernel
theorem dX6_at_12 : decode cX6_at 12 = .ok (.i2l, 1) := by decide +kernel
theorem dX6_at_13 : decode cX6_at 13 = .ok (.lconst 0, 1) := by decide +kernel
theorem dX6_at_14 : decode cX6_at 14 = .ok (.ldc2_w 164, 3) := by decide +kernel
theorem dX6_at_17 : decode cX6_at 17 = .ok (.invokestatic 44, 3) := by decide +kernel
theorem dX6_at_20 : decode cX6_at 20 = .ok (.ifCond .eq 17, 3) := by decide +kernel
theorem dX6_at_23 : decode cX6_at 23 = .ok (.aload_n 0, 1) := by decide +kernel
theorem dX6_at_24 : decode cX6_at 24 = .ok (.getfield 7, 3) := by decide +kernel
theorem dX6_at_27 : decode cX6_at 27 = .ok (.iload_n 1, 1) := by decide +kernel
theorem dX6_at_28 : decode cX6_at 28 = .ok (.invokestatic 50, 3) := by decide +kernel
theorem dX6_at_31 : decode cX6_at 31 = .ok (.iload_n 2, 1) := by decide +kernel
theorem dX6_at_32 : decode cX6_at 32 = .ok (.iadd, 1) := by decide +kernel
theorem dX6_at_33 : decode cX6_at 33 = .ok (.iaload, 1) := by decide +kernel
theorem dX6_at_34 : decode cX6_at 34 = .ok (.goto 5, 3) := by decide +kernel
theorem dX6_at_37 : decode cX6_at 37 = .ok (.ldc 159, 2) := by decide +kernel
theorem dX6_at_39 : decode cX6_at 39 = .ok (.ireturn, 1) := by decide +kernel
theorem dX6_unlike_0 : decode cX6_unlike 0 = .ok (.iload_n 1, 1) := by decide +kernel
theorem dX6_unlike_1 : decode cX6_unlike 1 = .ok (.i2l, 1) := by decide +kernel
theorem dX6_unlike_2 : decode cX6_unlike 2 = .ok (.lconst 0, 1) := by decide +kernel
theorem dX6_unlike_3 : decode cX6_unlike 3 = .ok (.ldc2_w 166, 3) := by decide +kernel
theorem dX6_unlike_6 : decode cX6_unlike 6 = .ok (.invokestatic 44, 3) := by decide +kernel
theorem dX6_unlike_9 : decode cX6_unlike 9 = .ok (.ifCond .eq 11, 3) := by decide +kernel
theorem dX6_unlike_12 : decode cX6_unlike 12 = .ok (.aload_n 0, 1) := by decide +kernel
theorem dX6_unlike_13 : decode cX6_unlike 13 = .ok (.iload_n 1, 1) := by decide +kernel
theorem dX6_unlike_14 : decode cX6_unlike 14 = .ok (.invokevirtual 58, 3) := by decide +kernel
theorem dX6_unlike_17 : decode cX6_unlike 17 = .ok (.goto 5, 3) := by decide +kernel
theorem dX6_unlike_20 : decode cX6_unlike 20 = .ok (.ldc 159, 2) := by decide +kernel
theorem dX6_unlike_22 : decode cX6_unlike 22 = .ok (.ireturn, 1) := by decide +kernel
theorem dX6_place_0 : decode cX6_place 0 = .ok (.iload_n 1, 1) := by decide +kernel
theorem dX6_place_1 : decode cX6_place 1 = .ok (.iload_n 2, 1) := by decide +kernel
theorem dX6_place_2 : decode cX6_place 2 = .ok (.invokestatic 168, 3) := by decide +kernel
theorem dX6_place_5 : decode cX6_place 5 = .ok (.ifCond .eq 15, 3) := by decide +kernel
theorem dX6_place_8 : decode cX6_place 8 = .ok (.iload_n 3, 1) := by decide +kernel
theorem dX6_place_9 : decode cX6_place 9 = .ok (.i2l, 1) := by decide +kernel
theorem dX6_place_10 : decode cX6_place 10 = .ok (.lconst 0, 1) := by decide +kernel
theorem dX6_place_11 : decode cX6_place 11 = .ok (.ldc2_w 172, 3) := by decide +kernel
theorem dX6_place_14 : decode cX6_place 14 = .ok (.invokestatic 44, 3) := by decide +kernel
theorem dX6_place_17 : decode cX6_place 17 = .ok (.ifCond .ne 6, 3) := by decide +kernel
theorem dX6_place_20 : decode cX6_place 20 = .ok (.ldc 159, 2) := by decide +kernel
theorem dX6_place_22 : decode cX6_place 22 = .ok (.ireturn, 1) := by decide +kernel
theorem dX6_place_23 : decode cX6_place 23 = .ok (.aload_n 0, 1) := by decide +kernel
theorem dX6_place_24 : decode cX6_place 24 = .ok (.iload_n 1, 1) := by decide +kernel
theorem dX6_place_25 : decode cX6_place 25 = .ok (.iload_n 2, 1) := by decide +kernel
theorem dX6_place_26 : decode cX6_place 26 = .ok (.iconst (-1), 1) := by decide +kernel
theorem dX6_place_27 : decode cX6_place 27 = .ok (.invokevirtual 118, 3) := by decide +kernel
theorem dX6_place_30 : decode cX6_place 30 = .ok (.istore 4, 2) := by decide +kernel
theorem dX6_place_32 : decode cX6_place 32 = .ok (.iload_n 3, 1) := by decide +kernel
theorem dX6_place_33 : decode cX6_place 33 = .ok (.tableswitch 76 0 4 #[35, 42, 47, 52, 63], 35) := by decide +kernel
theorem dX6_place_68 : decode cX6_place 68 = .ok (.aload_n 0, 1) := by decide +kernel
theorem dX6_place_69 : decode cX6_place 69 = .ok (.iload_n 1, 1) := by decide +kernel
theorem dX6_place_70 : decode cX6_place 70 = .ok (.iload_n 2, 1) := by decide +kernel
theorem dX6_place_71 : decode cX6_place 71 = .ok (.invokevirtual 174, 3) := by decide +kernel
theorem dX6_place_74 : decode cX6_place 74 = .ok (.ireturn, 1) := by decide +kernel
theorem dX6_place_75 : decode cX6_place 75 = .ok (.aload_n 0, 1) := by decide +kernel
theorem dX6_place_76 : decode cX6_place 76 = .ok (.getfield 65, 3) := by decide +kernel
theorem dX6_place_79 : decode cX6_place 79 = .ok (.ireturn, 1) := by decide +kernel
theorem dX6_place_80 : decode cX6_place 80 = .ok (.aload_n 0, 1) := by decide +kernel
theorem dX6_place_81 : decode cX6_place 81 = .ok (.invokevirtual 177, 3) := by decide +kernel
theorem dX6_place_84 : decode cX6_place 84 = .ok (.ireturn, 1) := by decide +kernel
theorem dX6_place_85 : decode cX6_place 85 = .ok (.iload 4, 2) := by decide +kernel
theorem dX6_place_87 : decode cX6_place 87 = .ok (.ifCond .eq 7, 3) := by decide +kernel
theorem dX6_place_90 : decode cX6_place 90 = .ok (.iconst 1, 1) := by decide +kernel
theorem dX6_place_91 : decode cX6_place 91 = .ok (.goto 4, 3) := by decide +kernel
theorem dX6_place_94 : decode cX6_place 94 = .ok (.iconst 0, 1) := by decide +kernel
theorem dX6_place_95 : decode cX6_place 95 = .ok (.ireturn, 1) := by decide +kernel
theorem dX6_place_96 : decode cX6_place 96 = .ok (.aload_n 0, 1) := by decide +kernel
theorem dX6_place_97 : decode cX6_place 97 = .ok (.invokevirtual 180, 3) := by decide +kernel
theorem dX6_place_100 : decode cX6_place 100 = .ok (.ifCond .eq 7, 3) := by decide +kernel
theorem dX6_place_103 : decode cX6_place 103 = .ok (.iconst 1, 1) := by decide +kernel
theorem dX6_place_104 : decode cX6_place 104 = .ok (.goto 4, 3) := by decide +kernel
theorem dX6_place_107 : decode cX6_place 107 = .ok (.iconst 0, 1) := by decide +kernel
theorem dX6_place_108 : decode cX6_place 108 = .ok (.ireturn, 1) := by decide +kernel
theorem dX6_place_109 : decode cX6_place 109 = .ok (.iload 4, 2) := by decide +kernel
theorem dX6_place_111 : decode cX6_place 111 = .ok (.ifCond .eq 10, 3) := by decide +kernel
theorem dX6_place_114 : decode cX6_place 114 = .ok (.aload_n 0, 1) := by decide +kernel
theorem dX6_place_115 : decode cX6_place 115 = .ok (.invokevirtual 183, 3) := by decide +kernel
theorem dX6_place_118 : decode cX6_place 118 = .ok (.goto 4, 3) := by decide +kernel
theorem dX6_place_121 : decode cX6_place 121 = .ok (.iconst 0, 1) := by decide +kernel
theorem dX6_place_122 : decode cX6_place 122 = .ok (.ireturn, 1) := by decide +kernel
theorem dX6_looked_0 : decode cX6_looked 0 = .ok (.iload_n 1, 1) := by decide +kernel
theorem dX6_looked_1 : decode cX6_looked 1 = .ok (.iload_n 2, 1) := by decide +kernel
theorem dX6_looked_2 : decode cX6_looked 2 = .ok (.invokestatic 168, 3) := by decide +kernel
theorem dX6_looked_5 : decode cX6_looked 5 = .ok (.ifCond .eq 15, 3) := by decide +kernel
theorem dX6_looked_8 : decode cX6_looked 8 = .ok (.iload_n 3, 1) := by decide +kernel
theorem dX6_looked_9 : decode cX6_looked 9 = .ok (.i2l, 1) := by decide +kernel
theorem dX6_looked_10 : decode cX6_looked 10 = .ok (.lconst 0, 1) := by decide +kernel
theorem dX6_looked_11 : decode cX6_looked 11 = .ok (.ldc2_w 186, 3) := by decide +kernel
theorem dX6_looked_14 : decode cX6_looked 14 = .ok (.invokestatic 44, 3) := by decide +kernel
theorem dX6_looked_17 : decode cX6_looked 17 = .ok (.ifCond .ne 6, 3) := by decide +kernel
theorem dX6_looked_20 : decode cX6_looked 20 = .ok (.ldc 159, 2) := by decide +kernel
theorem dX6_looked_22 : decode cX6_looked 22 = .ok (.ireturn, 1) := by decide +kernel
theorem dX6_looked_23 : decode cX6_looked 23 = .ok (.aload_n 0, 1) := by decide +kernel
theorem dX6_looked_24 : decode cX6_looked 24 = .ok (.iload_n 1, 1) := by decide +kernel
theorem dX6_looked_25 : decode cX6_looked 25 = .ok (.iload_n 2, 1) := by decide +kernel
theorem dX6_looked_26 : decode cX6_looked 26 = .ok (.iconst (-1), 1) := by decide +kernel
theorem dX6_looked_27 : decode cX6_looked 27 = .ok (.invokevirtual 92, 3) := by decide +kernel
theorem dX6_looked_30 : decode cX6_looked 30 = .ok (.iload_n 3, 1) := by decide +kernel
theorem dX6_looked_31 : decode cX6_looked 31 = .ok (.aload_n 0, 1) := by decide +kernel
theorem dX6_looked_32 : decode cX6_looked 32 = .ok (.getfield 65, 3) := by decide +kernel
theorem dX6_looked_35 : decode cX6_looked 35 = .ok (.if_icmp .ge 12, 3) := by decide +kernel
theorem dX6_looked_38 : decode cX6_looked 38 = .ok (.aload_n 0, 1) := by decide +kernel
theorem dX6_looked_39 : decode cX6_looked 39 = .ok (.getfield 25, 3) := by decide +kernel
theorem dX6_looked_42 : decode cX6_looked 42 = .ok (.iload_n 3, 1) := by decide +kernel
theorem dX6_looked_43 : decode cX6_looked 43 = .ok (.iaload, 1) := by decide +kernel
theorem dX6_looked_44 : decode cX6_looked 44 = .ok (.goto 4, 3) := by decide +kernel
theorem dX6_looked_47 : decode cX6_looked 47 = .ok (.iconst (-1), 1) := by decide +kernel
theorem dX6_looked_48 : decode cX6_looked 48 = .ok (.ireturn, 1) := by decide +kernel
theorem dX6_guess_0 : decode cX6_guess 0 = .ok (.iload_n 1, 1) := by decide +kernel
theorem dX6_guess_1 : decode cX6_guess 1 = .ok (.iload_n 2, 1) := by decide +kernel
theorem dX6_guess_2 : decode cX6_guess 2 = .ok (.invokestatic 168, 3) := by decide +kernel
theorem dX6_guess_5 : decode cX6_guess 5 = .ok (.ifCond .eq 15, 3) := by decide +kernel
theorem dX6_guess_8 : decode cX6_guess 8 = .ok (.iload_n 3, 1) := by decide +kernel
theorem dX6_guess_9 : decode cX6_guess 9 = .ok (.i2l, 1) := by decide +kernel
theorem dX6_guess_10 : decode cX6_guess 10 = .ok (.lconst 0, 1) := by decide +kernel
theorem dX6_guess_11 : decode cX6_guess 11 = .ok (.ldc2_w 172, 3) := by decide +kernel
theorem dX6_guess_14 : decode cX6_guess 14 = .ok (.invokestatic 44, 3) := by decide +kernel
theorem dX6_guess_17 : decode cX6_guess 17 = .ok (.ifCond .ne 7, 3) := by decide +kernel
theorem dX6_guess_20 : decode cX6_guess 20 = .ok (.ldc2_w 188, 3) := by decide +kernel
theorem dX6_guess_23 : decode cX6_guess 23 = .ok (.lreturn, 1) := by decide +kernel
theorem dX6_guess_24 : decode cX6_guess 24 = .ok (.aload_n 0, 1) := by decide +kernel
theorem dX6_guess_25 : decode cX6_guess 25 = .ok (.iload_n 1, 1) := by decide +kernel
theorem dX6_guess_26 : decode cX6_guess 26 = .ok (.iload_n 2, 1) := by decide +kernel
theorem dX6_guess_27 : decode cX6_guess 27 = .ok (.iconst (-1), 1) := by decide +kernel
theorem dX6_guess_28 : decode cX6_guess 28 = .ok (.invokevirtual 118, 3) := by decide +kernel
theorem dX6_guess_31 : decode cX6_guess 31 = .ok (.ifCond .ne 7, 3) := by decide +kernel
theorem dX6_guess_34 : decode cX6_guess 34 = .ok (.ldc2_w 190, 3) := by decide +kernel
theorem dX6_guess_37 : decode cX6_guess 37 = .ok (.lreturn, 1) := by decide +kernel
theorem dX6_guess_38 : decode cX6_guess 38 = .ok (.iload_n 3, 1) := by decide +kernel
theorem dX6_guess_39 : decode cX6_guess 39 = .ok (.iconst 2, 1) := by decide +kernel
theorem dX6_guess_40 : decode cX6_guess 40 = .ok (.if_icmp .ge 10, 3) := by decide +kernel
theorem dX6_guess_43 : decode cX6_guess 43 = .ok (.aload_n 0, 1) := by decide +kernel
theorem dX6_guess_44 : decode cX6_guess 44 = .ok (.invokevirtual 122, 3) := by decide +kernel
theorem dX6_guess_47 : decode cX6_guess 47 = .ok (.goto 33, 3) := by decide +kernel
theorem dX6_guess_50 : decode cX6_guess 50 = .ok (.iload_n 3, 1) := by decide +kernel
theorem dX6_guess_51 : decode cX6_guess 51 = .ok (.iconst 4, 1) := by decide +kernel
theorem dX6_guess_52 : decode cX6_guess 52 = .ok (.if_icmp .ge 11, 3) := by decide +kernel
theorem dX6_guess_55 : decode cX6_guess 55 = .ok (.aload_n 0, 1) := by decide +kernel
theorem dX6_guess_56 : decode cX6_guess 56 = .ok (.lconst 0, 1) := by decide +kernel
theorem dX6_guess_57 : decode cX6_guess 57 = .ok (.invokevirtual 192, 3) := by decide +kernel
theorem dX6_guess_60 : decode cX6_guess 60 = .ok (.goto 20, 3) := by decide +kernel
theorem dX6_guess_63 : decode cX6_guess 63 = .ok (.aload_n 0, 1) := by decide +kernel
theorem dX6_guess_64 : decode cX6_guess 64 = .ok (.aload_n 0, 1) := by decide +kernel
theorem dX6_guess_65 : decode cX6_guess 65 = .ok (.getfield 41, 3) := by decide +kernel
theorem dX6_guess_68 : decode cX6_guess 68 = .ok (.aload_n 0, 1) := by decide +kernel
theorem dX6_guess_69 : decode cX6_guess 69 = .ok (.getfield 65, 3) := by decide +kernel
theorem dX6_guess_72 : decode cX6_guess 72 = .ok (.laload, 1) := by decide +kernel
theorem dX6_guess_73 : decode cX6_guess 73 = .ok (.aload_n 0, 1) := by decide +kernel
theorem dX6_guess_74 : decode cX6_guess 74 = .ok (.getfield 88, 3) := by decide +kernel
theorem dX6_guess_77 : decode cX6_guess 77 = .ok (.invokevirtual 114, 3) := by decide +kernel
theorem dX6_guess_80 : decode cX6_guess 80 = .ok (.iload_n 3, 1) := by decide +kernel
theorem dX6_guess_81 : decode cX6_guess 81 = .ok (.iconst 2, 1) := by decide +kernel
theorem dX6_guess_82 : decode cX6_guess 82 = .ok (.irem, 1) := by decide +kernel
theorem dX6_guess_83 : decode cX6_guess 83 = .ok (.ifCond .ne 10, 3) := by decide +kernel
theorem dX6_guess_86 : decode cX6_guess 86 = .ok (.aload_n 0, 1) := by decide +kernel
theorem dX6_guess_87 : decode cX6_guess 87 = .ok (.getfield 108, 3) := by decide +kernel
theorem dX6_guess_90 : decode cX6_guess 90 = .ok (.goto 7, 3) := by decide +kernel
theorem dX6_guess_93 : decode cX6_guess 93 = .ok (.aload_n 0, 1) := by decide +kernel
theorem dX6_guess_94 : decode cX6_guess 94 = .ok (.getfield 111, 3) := by decide +kernel
theorem dX6_guess_97 : decode cX6_guess 97 = .ok (.lreturn, 1) := by decide +kernel
theorem dX6_weight_0 : decode cX6_weight 0 = .ok (.iload_n 1, 1) := by decide +kernel
theorem dX6_weight_1 : decode cX6_weight 1 = .ok (.iload_n 2, 1) := by decide +kernel
theorem dX6_weight_2 : decode cX6_weight 2 = .ok (.invokestatic 168, 3) := by decide +kernel
theorem dX6_weight_5 : decode cX6_weight 5 = .ok (.ifCond .eq 26, 3) := by decide +kernel
theorem dX6_weight_8 : decode cX6_weight 8 = .ok (.iload_n 3, 1) := by decide +kernel
theorem dX6_weight_9 : decode cX6_weight 9 = .ok (.i2l, 1) := by decide +kernel
theorem dX6_weight_10 : decode cX6_weight 10 = .ok (.lconst 0, 1) := by decide +kernel
theorem dX6_weight_11 : decode cX6_weight 11 = .ok (.ldc2_w 186, 3) := by decide +kernel
theorem dX6_weight_14 : decode cX6_weight 14 = .ok (.invokestatic 44, 3) := by decide +kernel
theorem dX6_weight_17 : decode cX6_weight 17 = .ok (.ifCond .eq 14, 3) := by decide +kernel
theorem dX6_weight_20 : decode cX6_weight 20 = .ok (.iload 4, 2) := by decide +kernel
theorem dX6_weight_22 : decode cX6_weight 22 = .ok (.i2l, 1) := by decide +kernel
theorem dX6_weight_23 : decode cX6_weight 23 = .ok (.lconst 0, 1) := by decide +kernel
theorem dX6_weight_24 : decode cX6_weight 24 = .ok (.lconst 1, 1) := by decide +kernel
theorem dX6_weight_25 : decode cX6_weight 25 = .ok (.invokestatic 44, 3) := by decide +kernel
theorem dX6_weight_28 : decode cX6_weight 28 = .ok (.ifCond .ne 7, 3) := by decide +kernel
theorem dX6_weight_31 : decode cX6_weight 31 = .ok (.ldc2_w 188, 3) := by decide +kernel
theorem dX6_weight_34 : decode cX6_weight 34 = .ok (.lreturn, 1) := by decide +kernel
theorem dX6_weight_35 : decode cX6_weight 35 = .ok (.aload_n 0, 1) := by decide +kernel
theorem dX6_weight_36 : decode cX6_weight 36 = .ok (.iload_n 1, 1) := by decide +kernel
theorem dX6_weight_37 : decode cX6_weight 37 = .ok (.iload_n 2, 1) := by decide +kernel
theorem dX6_weight_38 : decode cX6_weight 38 = .ok (.iconst (-1), 1) := by decide +kernel
theorem dX6_weight_39 : decode cX6_weight 39 = .ok (.invokevirtual 118, 3) := by decide +kernel
theorem dX6_weight_42 : decode cX6_weight 42 = .ok (.ifCond .eq 11, 3) := by decide +kernel
theorem dX6_weight_45 : decode cX6_weight 45 = .ok (.iload_n 3, 1) := by decide +kernel
theorem dX6_weight_46 : decode cX6_weight 46 = .ok (.aload_n 0, 1) := by decide +kernel
theorem dX6_weight_47 : decode cX6_weight 47 = .ok (.getfield 65, 3) := by decide +kernel
theorem dX6_weight_50 : decode cX6_weight 50 = .ok (.if_icmp .lt 7, 3) := by decide +kernel
theorem dX6_weight_53 : decode cX6_weight 53 = .ok (.ldc2_w 190, 3) := by decide +kernel
theorem dX6_weight_56 : decode cX6_weight 56 = .ok (.lreturn, 1) := by decide +kernel
theorem dX6_weight_57 : decode cX6_weight 57 = .ok (.aload_n 0, 1) := by decide +kernel
theorem dX6_weight_58 : decode cX6_weight 58 = .ok (.aload_n 0, 1) := by decide +kernel
theorem dX6_weight_59 : decode cX6_weight 59 = .ok (.getfield 41, 3) := by decide +kernel
theorem dX6_weight_62 : decode cX6_weight 62 = .ok (.iload_n 3, 1) := by decide +kernel
theorem dX6_weight_63 : decode cX6_weight 63 = .ok (.laload, 1) := by decide +kernel
theorem dX6_weight_64 : decode cX6_weight 64 = .ok (.aload_n 0, 1) := by decide +kernel
theorem dX6_weight_65 : decode cX6_weight 65 = .ok (.getfield 88, 3) := by decide +kernel
theorem dX6_weight_68 : decode cX6_weight 68 = .ok (.invokevirtual 114, 3) := by decide +kernel
theorem dX6_weight_71 : decode cX6_weight 71 = .ok (.iload 4, 2) := by decide +kernel
theorem dX6_weight_73 : decode cX6_weight 73 = .ok (.ifCond .ne 10, 3) := by decide +kernel
theorem dX6_weight_76 : decode cX6_weight 76 = .ok (.aload_n 0, 1) := by decide +kernel
theorem dX6_weight_77 : decode cX6_weight 77 = .ok (.getfield 108, 3) := by decide +kernel
theorem dX6_weight_80 : decode cX6_weight 80 = .ok (.goto 7, 3) := by decide +kernel
theorem dX6_weight_83 : decode cX6_weight 83 = .ok (.aload_n 0, 1) := by decide +kernel
theorem dX6_weight_84 : decode cX6_weight 84 = .ok (.getfield 111, 3) := by decide +kernel
theorem dX6_weight_87 : decode cX6_weight 87 = .ok (.lreturn, 1) := by decide +kernel
theorem dX6_block_0 : decode cX6_block 0 = .ok (.iload_n 1, 1) := by decide +kernel
theorem dX6_block_1 : decode cX6_block 1 = .ok (.i2l, 1) := by decide +kernel
theorem dX6_block_2 : decode cX6_block 2 = .ok (.lconst 0, 1) := by decide +kernel
theorem dX6_block_3 : decode cX6_block 3 = .ok (.ldc2_w 196, 3) := by decide +kernel
theorem dX6_block_6 : decode cX6_block 6 = .ok (.invokestatic 44, 3) := by decide +kernel
theorem dX6_block_9 : decode cX6_block 9 = .ok (.ifCond .eq 27, 3) := by decide +kernel
theorem dX6_block_12 : decode cX6_block 12 = .ok (.iload_n 2, 1) := by decide +kernel
theorem dX6_block_13 : decode cX6_block 13 = .ok (.i2l, 1) := by decide +kernel
theorem dX6_block_14 : decode cX6_block 14 = .ok (.lconst 0, 1) := by decide +kernel
theorem dX6_block_15 : decode cX6_block 15 = .ok (.ldc2_w 196, 3) := by decide +kernel
theorem dX6_block_18 : decode cX6_block 18 = .ok (.invokestatic 44, 3) := by decide +kernel
theorem dX6_block_21 : decode cX6_block 21 = .ok (.ifCond .eq 15, 3) := by decide +kernel
theorem dX6_block_24 : decode cX6_block 24 = .ok (.iload_n 3, 1) := by decide +kernel
theorem dX6_block_25 : decode cX6_block 25 = .ok (.i2l, 1) := by decide +kernel
theorem dX6_block_26 : decode cX6_block 26 = .ok (.lconst 0, 1) := by decide +kernel
theorem dX6_block_27 : decode cX6_block 27 = .ok (.ldc2_w 186, 3) := by decide +kernel
theorem dX6_block_30 : decode cX6_block 30 = .ok (.invokestatic 44, 3) := by decide +kernel
theorem dX6_block_33 : decode cX6_block 33 = .ok (.ifCond .ne 7, 3) := by decide +kernel
theorem dX6_block_36 : decode cX6_block 36 = .ok (.ldc2_w 188, 3) := by decide +kernel
theorem dX6_block_39 : decode cX6_block 39 = .ok (.lreturn, 1) := by decide +kernel
theorem dX6_block_40 : decode cX6_block 40 = .ok (.aload_n 0, 1) := by decide +kernel
theorem dX6_block_41 : decode cX6_block 41 = .ok (.iload_n 1, 1) := by decide +kernel
theorem dX6_block_42 : decode cX6_block 42 = .ok (.iload_n 2, 1) := by decide +kernel
theorem dX6_block_43 : decode cX6_block 43 = .ok (.invokevirtual 198, 3) := by decide +kernel
theorem dX6_block_46 : decode cX6_block 46 = .ok (.ifCond .ne 7, 3) := by decide +kernel
theorem dX6_block_49 : decode cX6_block 49 = .ok (.ldc2_w 190, 3) := by decide +kernel
theorem dX6_block_52 : decode cX6_block 52 = .ok (.lreturn, 1) := by decide +kernel
theorem dX6_block_53 : decode cX6_block 53 = .ok (.iload_n 3, 1) := by decide +kernel
theorem dX6_block_54 : decode cX6_block 54 = .ok (.iconst 2, 1) := by decide +kernel
theorem dX6_block_55 : decode cX6_block 55 = .ok (.if_icmp .ge 10, 3) := by decide +kernel
theorem dX6_block_58 : decode cX6_block 58 = .ok (.aload_n 0, 1) := by decide +kernel
theorem dX6_block_59 : decode cX6_block 59 = .ok (.invokevirtual 122, 3) := by decide +kernel
theorem dX6_block_62 : decode cX6_block 62 = .ok (.goto 11, 3) := by decide +kernel
theorem dX6_block_65 : decode cX6_block 65 = .ok (.aload_n 0, 1) := by decide +kernel
theorem dX6_block_66 : decode cX6_block 66 = .ok (.aload_n 0, 1) := by decide +kernel
theorem dX6_block_67 : decode cX6_block 67 = .ok (.invokevirtual 201, 3) := by decide +kernel
theorem dX6_block_70 : decode cX6_block 70 = .ok (.invokevirtual 192, 3) := by decide +kernel
theorem dX6_block_73 : decode cX6_block 73 = .ok (.iload_n 3, 1) := by decide +kernel
theorem dX6_block_74 : decode cX6_block 74 = .ok (.iconst 2, 1) := by decide +kernel
theorem dX6_block_75 : decode cX6_block 75 = .ok (.irem, 1) := by decide +kernel
theorem dX6_block_76 : decode cX6_block 76 = .ok (.ifCond .ne 10, 3) := by decide +kernel
theorem dX6_block_79 : decode cX6_block 79 = .ok (.aload_n 0, 1) := by decide +kernel
theorem dX6_block_80 : decode cX6_block 80 = .ok (.getfield 108, 3) := by decide +kernel
theorem dX6_block_83 : decode cX6_block 83 = .ok (.goto 7, 3) := by decide +kernel
theorem dX6_block_86 : decode cX6_block 86 = .ok (.aload_n 0, 1) := by decide +kernel
theorem dX6_block_87 : decode cX6_block 87 = .ok (.getfield 111, 3) := by decide +kernel
theorem dX6_block_90 : decode cX6_block 90 = .ok (.lreturn, 1) := by decide +kernel
theorem dX6_error_0 : decode cX6_error 0 = .ok (.aload_n 0, 1) := by decide +kernel
theorem dX6_error_1 : decode cX6_error 1 = .ok (.iload_n 1, 1) := by decide +kernel
theorem dX6_error_2 : decode cX6_error 2 = .ok (.invokevirtual 160, 3) := by decide +kernel
theorem dX6_error_5 : decode cX6_error 5 = .ok (.ifCond .ne 7, 3) := by decide +kernel
theorem dX6_error_8 : decode cX6_error 8 = .ok (.ldc2_w 205, 3) := by decide +kernel
theorem dX6_error_11 : decode cX6_error 11 = .ok (.lreturn, 1) := by decide +kernel
theorem dX6_error_12 : decode cX6_error 12 = .ok (.iload_n 2, 1) := by decide +kernel
theorem dX6_error_13 : decode cX6_error 13 = .ok (.i2l, 1) := by decide +kernel
theorem dX6_error_14 : decode cX6_error 14 = .ok (.lconst 0, 1) := by decide +kernel
theorem dX6_error_15 : decode cX6_error 15 = .ok (.lconst 1, 1) := by decide +kernel
theorem dX6_error_16 : decode cX6_error 16 = .ok (.invokestatic 44, 3) := by decide +kernel
theorem dX6_error_19 : decode cX6_error 19 = .ok (.ifCond .ne 7, 3) := by decide +kernel
theorem dX6_error_22 : decode cX6_error 22 = .ok (.ldc2_w 188, 3) := by decide +kernel
theorem dX6_error_25 : decode cX6_error 25 = .ok (.lreturn, 1) := by decide +kernel
theorem dX6_error_26 : decode cX6_error 26 = .ok (.aload_n 0, 1) := by decide +kernel
theorem dX6_error_27 : decode cX6_error 27 = .ok (.iload_n 1, 1) := by decide +kernel
theorem dX6_error_28 : decode cX6_error 28 = .ok (.invokevirtual 125, 3) := by decide +kernel
theorem dX6_error_31 : decode cX6_error 31 = .ok (.ifCond .ne 7, 3) := by decide +kernel
theorem dX6_error_34 : decode cX6_error 34 = .ok (.ldc2_w 190, 3) := by decide +kernel
theorem dX6_error_37 : decode cX6_error 37 = .ok (.lreturn, 1) := by decide +kernel
theorem dX6_error_38 : decode cX6_error 38 = .ok (.iload_n 2, 1) := by decide +kernel
theorem dX6_error_39 : decode cX6_error 39 = .ok (.ifCond .ne 10, 3) := by decide +kernel
theorem dX6_error_42 : decode cX6_error 42 = .ok (.aload_n 0, 1) := by decide +kernel
theorem dX6_error_43 : decode cX6_error 43 = .ok (.getfield 108, 3) := by decide +kernel
theorem dX6_error_46 : decode cX6_error 46 = .ok (.goto 7, 3) := by decide +kernel
theorem dX6_error_49 : decode cX6_error 49 = .ok (.aload_n 0, 1) := by decide +kernel
theorem dX6_error_50 : decode cX6_error 50 = .ok (.getfield 111, 3) := by decide +kernel
theorem dX6_error_53 : decode cX6_error 53 = .ok (.lreturn, 1) := by decide +kernel
theorem dX6_hole_0 : decode cX6_hole 0 = .ok (.iload_n 1, 1) := by decide +kernel
theorem dX6_hole_1 : decode cX6_hole 1 = .ok (.iload_n 2, 1) := by decide +kernel
theorem dX6_hole_2 : decode cX6_hole 2 = .ok (.invokestatic 168, 3) := by decide +kernel
theorem dX6_hole_5 : decode cX6_hole 5 = .ok (.ifCond .eq 41, 3) := by decide +kernel
theorem dX6_hole_8 : decode cX6_hole 8 = .ok (.iload_n 3, 1) := by decide +kernel
theorem dX6_hole_9 : decode cX6_hole 9 = .ok (.iload 4, 2) := by decide +kernel
theorem dX6_hole_11 : decode cX6_hole 11 = .ok (.invokestatic 168, 3) := by decide +kernel
theorem dX6_hole_14 : decode cX6_hole 14 = .ok (.ifCond .eq 32, 3) := by decide +kernel
theorem dX6_hole_17 : decode cX6_hole 17 = .ok (.iload_n 3, 1) := by decide +kernel
theorem dX6_hole_18 : decode cX6_hole 18 = .ok (.iload_n 1, 1) := by decide +kernel
theorem dX6_hole_19 : decode cX6_hole 19 = .ok (.isub, 1) := by decide +kernel
theorem dX6_hole_20 : decode cX6_hole 20 = .ok (.i2l, 1) := by decide +kernel
theorem dX6_hole_21 : decode cX6_hole 21 = .ok (.lconst 0, 1) := by decide +kernel
theorem dX6_hole_22 : decode cX6_hole 22 = .ok (.ldc2_w 207, 3) := by decide +kernel
theorem dX6_hole_25 : decode cX6_hole 25 = .ok (.invokestatic 44, 3) := by decide +kernel
theorem dX6_hole_28 : decode cX6_hole 28 = .ok (.ifCond .eq 18, 3) := by decide +kernel
theorem dX6_hole_31 : decode cX6_hole 31 = .ok (.iload 4, 2) := by decide +kernel
theorem dX6_hole_33 : decode cX6_hole 33 = .ok (.iload_n 2, 1) := by decide +kernel
theorem dX6_hole_34 : decode cX6_hole 34 = .ok (.isub, 1) := by decide +kernel
theorem dX6_hole_35 : decode cX6_hole 35 = .ok (.i2l, 1) := by decide +kernel
theorem dX6_hole_36 : decode cX6_hole 36 = .ok (.lconst 0, 1) := by decide +kernel
theorem dX6_hole_37 : decode cX6_hole 37 = .ok (.ldc2_w 207, 3) := by decide +kernel
theorem dX6_hole_40 : decode cX6_hole 40 = .ok (.invokestatic 44, 3) := by decide +kernel
theorem dX6_hole_43 : decode cX6_hole 43 = .ok (.ifCond .ne 6, 3) := by decide +kernel
theorem dX6_hole_46 : decode cX6_hole 46 = .ok (.ldc 159, 2) := by decide +kernel
theorem dX6_hole_48 : decode cX6_hole 48 = .ok (.ireturn, 1) := by decide +kernel
theorem dX6_hole_49 : decode cX6_hole 49 = .ok (.iconst (-1), 1) := by decide +kernel
theorem dX6_hole_50 : decode cX6_hole 50 = .ok (.istore 5, 2) := by decide +kernel
theorem dX6_hole_52 : decode cX6_hole 52 = .ok (.lconst 0, 1) := by decide +kernel
theorem dX6_hole_53 : decode cX6_hole 53 = .ok (.lstore 6, 2) := by decide +kernel
theorem dX6_hole_55 : decode cX6_hole 55 = .ok (.lconst 1, 1) := by decide +kernel
theorem dX6_hole_56 : decode cX6_hole 56 = .ok (.lstore 8, 2) := by decide +kernel
theorem dX6_hole_58 : decode cX6_hole 58 = .ok (.iconst 0, 1) := by decide +kernel
theorem dX6_hole_59 : decode cX6_hole 59 = .ok (.istore 10, 2) := by decide +kernel
theorem dX6_hole_61 : decode cX6_hole 61 = .ok (.iload 10, 2) := by decide +kernel
theorem dX6_hole_63 : decode cX6_hole 63 = .ok (.iload_n 3, 1) := by decide +kernel
theorem dX6_hole_64 : decode cX6_hole 64 = .ok (.iload_n 1, 1) := by decide +kernel
theorem dX6_hole_65 : decode cX6_hole 65 = .ok (.isub, 1) := by decide +kernel
theorem dX6_hole_66 : decode cX6_hole 66 = .ok (.iconst 1, 1) := by decide +kernel
theorem dX6_hole_67 : decode cX6_hole 67 = .ok (.iadd, 1) := by decide +kernel
theorem dX6_hole_68 : decode cX6_hole 68 = .ok (.iload 4, 2) := by decide +kernel
theorem dX6_hole_70 : decode cX6_hole 70 = .ok (.iload_n 2, 1) := by decide +kernel
theorem dX6_hole_71 : decode cX6_hole 71 = .ok (.isub, 1) := by decide +kernel
theorem dX6_hole_72 : decode cX6_hole 72 = .ok (.iconst 1, 1) := by decide +kernel
theorem dX6_hole_73 : decode cX6_hole 73 = .ok (.iadd, 1) := by decide +kernel
theorem dX6_hole_74 : decode cX6_hole 74 = .ok (.imul, 1) := by decide +kernel
theorem dX6_hole_75 : decode cX6_hole 75 = .ok (.if_icmp .ge 108, 3) := by decide +kernel
theorem dX6_hole_78 : decode cX6_hole 78 = .ok (.iload_n 1, 1) := by decide +kernel
theorem dX6_hole_79 : decode cX6_hole 79 = .ok (.iload 10, 2) := by decide +kernel
theorem dX6_hole_81 : decode cX6_hole 81 = .ok (.iload_n 3, 1) := by decide +kernel
theorem dX6_hole_82 : decode cX6_hole 82 = .ok (.iload_n 1, 1) := by decide +kernel
theorem dX6_hole_83 : decode cX6_hole 83 = .ok (.isub, 1) := by decide +kernel
theorem dX6_hole_84 : decode cX6_hole 84 = .ok (.iconst 1, 1) := by decide +kernel
theorem dX6_hole_85 : decode cX6_hole 85 = .ok (.iadd, 1) := by decide +kernel
theorem dX6_hole_86 : decode cX6_hole 86 = .ok (.irem, 1) := by decide +kernel
theorem dX6_hole_87 : decode cX6_hole 87 = .ok (.iadd, 1) := by decide +kernel
theorem dX6_hole_88 : decode cX6_hole 88 = .ok (.istore 11, 2) := by decide +kernel
theorem dX6_hole_90 : decode cX6_hole 90 = .ok (.iload_n 2, 1) := by decide +kernel
theorem dX6_hole_91 : decode cX6_hole 91 = .ok (.iload 10, 2) := by decide +kernel
theorem dX6_hole_93 : decode cX6_hole 93 = .ok (.iload_n 3, 1) := by decide +kernel
theorem dX6_hole_94 : decode cX6_hole 94 = .ok (.iload_n 1, 1) := by decide +kernel
theorem dX6_hole_95 : decode cX6_hole 95 = .ok (.isub, 1) := by decide +kernel
theorem dX6_hole_96 : decode cX6_hole 96 = .ok (.iconst 1, 1) := by decide +kernel
theorem dX6_hole_97 : decode cX6_hole 97 = .ok (.iadd, 1) := by decide +kernel
theorem dX6_hole_98 : decode cX6_hole 98 = .ok (.idiv, 1) := by decide +kernel
theorem dX6_hole_99 : decode cX6_hole 99 = .ok (.iadd, 1) := by decide +kernel
theorem dX6_hole_100 : decode cX6_hole 100 = .ok (.istore 12, 2) := by decide +kernel
theorem dX6_hole_102 : decode cX6_hole 102 = .ok (.aload_n 0, 1) := by decide +kernel
theorem dX6_hole_103 : decode cX6_hole 103 = .ok (.iload 11, 2) := by decide +kernel
theorem dX6_hole_105 : decode cX6_hole 105 = .ok (.iload 12, 2) := by decide +kernel
theorem dX6_hole_107 : decode cX6_hole 107 = .ok (.invokevirtual 174, 3) := by decide +kernel
theorem dX6_hole_110 : decode cX6_hole 110 = .ok (.iconst (-1), 1) := by decide +kernel
theorem dX6_hole_111 : decode cX6_hole 111 = .ok (.if_icmp .ne 66, 3) := by decide +kernel
theorem dX6_hole_114 : decode cX6_hole 114 = .ok (.aload_n 0, 1) := by decide +kernel
theorem dX6_hole_115 : decode cX6_hole 115 = .ok (.iload 11, 2) := by decide +kernel
theorem dX6_hole_117 : decode cX6_hole 117 = .ok (.iload 12, 2) := by decide +kernel
theorem dX6_hole_119 : decode cX6_hole 119 = .ok (.iconst (-1), 1) := by decide +kernel
theorem dX6_hole_120 : decode cX6_hole 120 = .ok (.invokevirtual 118, 3) := by decide +kernel
theorem dX6_hole_123 : decode cX6_hole 123 = .ok (.ifCond .eq 54, 3) := by decide +kernel
theorem dX6_hole_126 : decode cX6_hole 126 = .ok (.aload_n 0, 1) := by decide +kernel
theorem dX6_hole_127 : decode cX6_hole 127 = .ok (.lconst 0, 1) := by decide +kernel
theorem dX6_hole_128 : decode cX6_hole 128 = .ok (.invokevirtual 192, 3) := by decide +kernel
theorem dX6_hole_131 : decode cX6_hole 131 = .ok (.iload 5, 2) := by decide +kernel
theorem dX6_hole_133 : decode cX6_hole 133 = .ok (.iconst (-1), 1) := by decide +kernel
theorem dX6_hole_134 : decode cX6_hole 134 = .ok (.if_icmp .eq 21, 3) := by decide +kernel
theorem dX6_hole_137 : decode cX6_hole 137 = .ok (.aload_n 0, 1) := by decide +kernel
theorem dX6_hole_138 : decode cX6_hole 138 = .ok (.getfield 108, 3) := by decide +kernel
theorem dX6_hole_141 : decode cX6_hole 141 = .ok (.aload_n 0, 1) := by decide +kernel
theorem dX6_hole_142 : decode cX6_hole 142 = .ok (.getfield 111, 3) := by decide +kernel
theorem dX6_hole_145 : decode cX6_hole 145 = .ok (.lload 6, 2) := by decide +kernel
theorem dX6_hole_147 : decode cX6_hole 147 = .ok (.lload 8, 2) := by decide +kernel
theorem dX6_hole_149 : decode cX6_hole 149 = .ok (.invokestatic 129, 3) := by decide +kernel
theorem dX6_hole_152 : decode cX6_hole 152 = .ok (.ifCond .eq 25, 3) := by decide +kernel
theorem dX6_hole_155 : decode cX6_hole 155 = .ok (.bipush 100, 2) := by decide +kernel
theorem dX6_hole_157 : decode cX6_hole 157 = .ok (.iload 12, 2) := by decide +kernel
theorem dX6_hole_159 : decode cX6_hole 159 = .ok (.imul, 1) := by decide +kernel
theorem dX6_hole_160 : decode cX6_hole 160 = .ok (.iload 11, 2) := by decide +kernel
theorem dX6_hole_162 : decode cX6_hole 162 = .ok (.iadd, 1) := by decide +kernel
theorem dX6_hole_163 : decode cX6_hole 163 = .ok (.istore 5, 2) := by decide +kernel
theorem dX6_hole_165 : decode cX6_hole 165 = .ok (.aload_n 0, 1) := by decide +kernel
theorem dX6_hole_166 : decode cX6_hole 166 = .ok (.getfield 108, 3) := by decide +kernel
theorem dX6_hole_169 : decode cX6_hole 169 = .ok (.lstore 6, 2) := by decide +kernel
theorem dX6_hole_171 : decode cX6_hole 171 = .ok (.aload_n 0, 1) := by decide +kernel
theorem dX6_hole_172 : decode cX6_hole 172 = .ok (.getfield 111, 3) := by decide +kernel
theorem dX6_hole_175 : decode cX6_hole 175 = .ok (.lstore 8, 2) := by decide +kernel
theorem dX6_hole_177 : decode cX6_hole 177 = .ok (.iinc 10 1, 3) := by decide +kernel
theorem dX6_hole_180 : decode cX6_hole 180 = .ok (.goto (-119), 3) := by decide +kernel
theorem dX6_hole_183 : decode cX6_hole 183 = .ok (.iload 5, 2) := by decide +kernel
theorem dX6_hole_185 : decode cX6_hole 185 = .ok (.ireturn, 1) := by decide +kernel
theorem dX6_remember_0 : decode cX6_remember 0 = .ok (.aload_n 0, 1) := by decide +kernel
theorem dX6_remember_1 : decode cX6_remember 1 = .ok (.getfield 153, 3) := by decide +kernel
theorem dX6_remember_4 : decode cX6_remember 4 = .ok (.bipush 16, 2) := by decide +kernel
theorem dX6_remember_6 : decode cX6_remember 6 = .ok (.if_icmp .ne 41, 3) := by decide +kernel
theorem dX6_remember_9 : decode cX6_remember 9 = .ok (.iconst 1, 1) := by decide +kernel
theorem dX6_remember_10 : decode cX6_remember 10 = .ok (.istore_n 1, 1) := by decide +kernel
theorem dX6_remember_11 : decode cX6_remember 11 = .ok (.iload_n 1, 1) := by decide +kernel
theorem dX6_remember_12 : decode cX6_remember 12 = .ok (.bipush 16, 2) := by decide +kernel
theorem dX6_remember_14 : decode cX6_remember 14 = .ok (.if_icmp .ge 23, 3) := by decide +kernel
theorem dX6_remember_17 : decode cX6_remember 17 = .ok (.aload_n 0, 1) := by decide +kernel
theorem dX6_remember_18 : decode cX6_remember 18 = .ok (.bipush 40, 2) := by decide +kernel
theorem dX6_remember_20 : decode cX6_remember 20 = .ok (.iload_n 1, 1) := by decide +kernel
theorem dX6_remember_21 : decode cX6_remember 21 = .ok (.iconst 1, 1) := by decide +kernel
theorem dX6_remember_22 : decode cX6_remember 22 = .ok (.iadd, 1) := by decide +kernel
theorem dX6_remember_23 : decode cX6_remember 23 = .ok (.imul, 1) := by decide +kernel
theorem dX6_remember_24 : decode cX6_remember 24 = .ok (.bipush 40, 2) := by decide +kernel
theorem dX6_remember_26 : decode cX6_remember 26 = .ok (.iload_n 1, 1) := by decide +kernel
theorem dX6_remember_27 : decode cX6_remember 27 = .ok (.imul, 1) := by decide +kernel
theorem dX6_remember_28 : decode cX6_remember 28 = .ok (.invokevirtual 209, 3) := by decide +kernel
theorem dX6_remember_31 : decode cX6_remember 31 = .ok (.iinc 1 1, 3) := by decide +kernel
theorem dX6_remember_34 : decode cX6_remember 34 = .ok (.goto (-23), 3) := by decide +kernel
theorem dX6_remember_37 : decode cX6_remember 37 = .ok (.aload_n 0, 1) := by decide +kernel
theorem dX6_remember_38 : decode cX6_remember 38 = .ok (.dup, 1) := by decide +kernel
theorem dX6_remember_39 : decode cX6_remember 39 = .ok (.getfield 153, 3) := by decide +kernel
theorem dX6_remember_42 : decode cX6_remember 42 = .ok (.iconst 1, 1) := by decide +kernel
theorem dX6_remember_43 : decode cX6_remember 43 = .ok (.isub, 1) := by decide +kernel
theorem dX6_remember_44 : decode cX6_remember 44 = .ok (.putfield 153, 3) := by decide +kernel
theorem dX6_remember_47 : decode cX6_remember 47 = .ok (.aload_n 0, 1) := by decide +kernel
theorem dX6_remember_48 : decode cX6_remember 48 = .ok (.iconst 0, 1) := by decide +kernel
theorem dX6_remember_49 : decode cX6_remember 49 = .ok (.bipush 40, 2) := by decide +kernel
theorem dX6_remember_51 : decode cX6_remember 51 = .ok (.aload_n 0, 1) := by decide +kernel
theorem dX6_remember_52 : decode cX6_remember 52 = .ok (.getfield 153, 3) := by decide +kernel
theorem dX6_remember_55 : decode cX6_remember 55 = .ok (.iconst 1, 1) := by decide +kernel
theorem dX6_remember_56 : decode cX6_remember 56 = .ok (.iadd, 1) := by decide +kernel
theorem dX6_remember_57 : decode cX6_remember 57 = .ok (.imul, 1) := by decide +kernel
theorem dX6_remember_58 : decode cX6_remember 58 = .ok (.invokevirtual 209, 3) := by decide +kernel
theorem dX6_remember_61 : decode cX6_remember 61 = .ok (.aload_n 0, 1) := by decide +kernel
theorem dX6_remember_62 : decode cX6_remember 62 = .ok (.dup, 1) := by decide +kernel
theorem dX6_remember_63 : decode cX6_remember 63 = .ok (.getfield 153, 3) := by decide +kernel
theorem dX6_remember_66 : decode cX6_remember 66 = .ok (.iconst 1, 1) := by decide +kernel
theorem dX6_remember_67 : decode cX6_remember 67 = .ok (.iadd, 1) := by decide +kernel
theorem dX6_remember_68 : decode cX6_remember 68 = .ok (.putfield 153, 3) := by decide +kernel
theorem dX6_remember_71 : decode cX6_remember 71 = .ok (.return_, 1) := by decide +kernel
theorem dX6_come_0 : decode cX6_come 0 = .ok (.aload_n 0, 1) := by decide +kernel
theorem dX6_come_1 : decode cX6_come 1 = .ok (.invokevirtual 213, 3) := by decide +kernel
theorem dX6_come_4 : decode cX6_come 4 = .ok (.aload_n 0, 1) := by decide +kernel
theorem dX6_come_5 : decode cX6_come 5 = .ok (.getfield 7, 3) := by decide +kernel
theorem dX6_come_8 : decode cX6_come 8 = .ok (.iconst 0, 1) := by decide +kernel
theorem dX6_come_9 : decode cX6_come 9 = .ok (.iaload, 1) := by decide +kernel
theorem dX6_come_10 : decode cX6_come 10 = .ok (.invokestatic 50, 3) := by decide +kernel
theorem dX6_come_13 : decode cX6_come 13 = .ok (.istore 4, 2) := by decide +kernel
theorem dX6_come_15 : decode cX6_come 15 = .ok (.aload_n 0, 1) := by decide +kernel
theorem dX6_come_16 : decode cX6_come 16 = .ok (.getfield 7, 3) := by decide +kernel
theorem dX6_come_19 : decode cX6_come 19 = .ok (.iload 4, 2) := by decide +kernel
theorem dX6_come_21 : decode cX6_come 21 = .ok (.iload_n 1, 1) := by decide +kernel
theorem dX6_come_22 : decode cX6_come 22 = .ok (.iastore, 1) := by decide +kernel
theorem dX6_come_23 : decode cX6_come 23 = .ok (.aload_n 0, 1) := by decide +kernel
theorem dX6_come_24 : decode cX6_come 24 = .ok (.getfield 7, 3) := by decide +kernel
theorem dX6_come_27 : decode cX6_come 27 = .ok (.iload 4, 2) := by decide +kernel
theorem dX6_come_29 : decode cX6_come 29 = .ok (.iconst 1, 1) := by decide +kernel
theorem dX6_come_30 : decode cX6_come 30 = .ok (.iadd, 1) := by decide +kernel
theorem dX6_come_31 : decode cX6_come 31 = .ok (.iload_n 2, 1) := by decide +kernel
theorem dX6_come_32 : decode cX6_come 32 = .ok (.iastore, 1) := by decide +kernel
theorem dX6_come_33 : decode cX6_come 33 = .ok (.aload_n 0, 1) := by decide +kernel
theorem dX6_come_34 : decode cX6_come 34 = .ok (.getfield 7, 3) := by decide +kernel
theorem dX6_come_37 : decode cX6_come 37 = .ok (.iload 4, 2) := by decide +kernel
theorem dX6_come_39 : decode cX6_come 39 = .ok (.iconst 2, 1) := by decide +kernel
theorem dX6_come_40 : decode cX6_come 40 = .ok (.iadd, 1) := by decide +kernel
theorem dX6_come_41 : decode cX6_come 41 = .ok (.iload_n 3, 1) := by decide +kernel
theorem dX6_come_42 : decode cX6_come 42 = .ok (.iastore, 1) := by decide +kernel
theorem dX6_come_43 : decode cX6_come 43 = .ok (.aload_n 0, 1) := by decide +kernel
theorem dX6_come_44 : decode cX6_come 44 = .ok (.getfield 7, 3) := by decide +kernel
theorem dX6_come_47 : decode cX6_come 47 = .ok (.iconst 0, 1) := by decide +kernel
theorem dX6_come_48 : decode cX6_come 48 = .ok (.dup2, 1) := by decide +kernel
theorem dX6_come_49 : decode cX6_come 49 = .ok (.iaload, 1) := by decide +kernel
theorem dX6_come_50 : decode cX6_come 50 = .ok (.iconst 1, 1) := by decide +kernel
theorem dX6_come_51 : decode cX6_come 51 = .ok (.iadd, 1) := by decide +kernel
theorem dX6_come_52 : decode cX6_come 52 = .ok (.iastore, 1) := by decide +kernel
theorem dX6_come_53 : decode cX6_come 53 = .ok (.aload_n 0, 1) := by decide +kernel
theorem dX6_come_54 : decode cX6_come 54 = .ok (.getfield 7, 3) := by decide +kernel
theorem dX6_come_57 : decode cX6_come 57 = .ok (.iconst 0, 1) := by decide +kernel
theorem dX6_come_58 : decode cX6_come 58 = .ok (.iaload, 1) := by decide +kernel
theorem dX6_come_59 : decode cX6_come 59 = .ok (.iconst 1, 1) := by decide +kernel
theorem dX6_come_60 : decode cX6_come 60 = .ok (.isub, 1) := by decide +kernel
theorem dX6_come_61 : decode cX6_come 61 = .ok (.ireturn, 1) := by decide +kernel
theorem dX6_sample_0 : decode cX6_sample 0 = .ok (.iload_n 1, 1) := by decide +kernel
theorem dX6_sample_1 : decode cX6_sample 1 = .ok (.iload_n 2, 1) := by decide +kernel
theorem dX6_sample_2 : decode cX6_sample 2 = .ok (.invokestatic 168, 3) := by decide +kernel
theorem dX6_sample_5 : decode cX6_sample 5 = .ok (.ifCond .eq 15, 3) := by decide +kernel
theorem dX6_sample_8 : decode cX6_sample 8 = .ok (.iload_n 3, 1) := by decide +kernel
theorem dX6_sample_9 : decode cX6_sample 9 = .ok (.i2l, 1) := by decide +kernel
theorem dX6_sample_10 : decode cX6_sample 10 = .ok (.lconst 0, 1) := by decide +kernel
theorem dX6_sample_11 : decode cX6_sample 11 = .ok (.ldc2_w 216, 3) := by decide +kernel
theorem dX6_sample_14 : decode cX6_sample 14 = .ok (.invokestatic 44, 3) := by decide +kernel
theorem dX6_sample_17 : decode cX6_sample 17 = .ok (.ifCond .ne 6, 3) := by decide +kernel
theorem dX6_sample_20 : decode cX6_sample 20 = .ok (.ldc 159, 2) := by decide +kernel
theorem dX6_sample_22 : decode cX6_sample 22 = .ok (.ireturn, 1) := by decide +kernel
theorem dX6_sample_23 : decode cX6_sample 23 = .ok (.aload_n 0, 1) := by decide +kernel
theorem dX6_sample_24 : decode cX6_sample 24 = .ok (.getfield 7, 3) := by decide +kernel
theorem dX6_sample_27 : decode cX6_sample 27 = .ok (.iconst 0, 1) := by decide +kernel
theorem dX6_sample_28 : decode cX6_sample 28 = .ok (.iaload, 1) := by decide +kernel
theorem dX6_sample_29 : decode cX6_sample 29 = .ok (.bipush 10, 2) := by decide +kernel
theorem dX6_sample_31 : decode cX6_sample 31 = .ok (.if_icmp .ne 6, 3) := by decide +kernel
theorem dX6_sample_34 : decode cX6_sample 34 = .ok (.ldc 218, 2) := by decide +kernel
theorem dX6_sample_36 : decode cX6_sample 36 = .ok (.ireturn, 1) := by decide +kernel
theorem dX6_sample_37 : decode cX6_sample 37 = .ok (.aload_n 0, 1) := by decide +kernel
theorem dX6_sample_38 : decode cX6_sample 38 = .ok (.iload_n 1, 1) := by decide +kernel
theorem dX6_sample_39 : decode cX6_sample 39 = .ok (.iload_n 2, 1) := by decide +kernel
theorem dX6_sample_40 : decode cX6_sample 40 = .ok (.invokevirtual 174, 3) := by decide +kernel
theorem dX6_sample_43 : decode cX6_sample 43 = .ok (.iconst (-1), 1) := by decide +kernel
theorem dX6_sample_44 : decode cX6_sample 44 = .ok (.if_icmp .ne 13, 3) := by decide +kernel
theorem dX6_sample_47 : decode cX6_sample 47 = .ok (.aload_n 0, 1) := by decide +kernel
theorem dX6_sample_48 : decode cX6_sample 48 = .ok (.iload_n 1, 1) := by decide +kernel
theorem dX6_sample_49 : decode cX6_sample 49 = .ok (.iload_n 2, 1) := by decide +kernel
theorem dX6_sample_50 : decode cX6_sample 50 = .ok (.iload_n 3, 1) := by decide +kernel
theorem dX6_sample_51 : decode cX6_sample 51 = .ok (.invokevirtual 219, 3) := by decide +kernel
theorem dX6_sample_54 : decode cX6_sample 54 = .ok (.goto 5, 3) := by decide +kernel
theorem dX6_sample_57 : decode cX6_sample 57 = .ok (.ldc 222, 2) := by decide +kernel
theorem dX6_sample_59 : decode cX6_sample 59 = .ok (.ireturn, 1) := by decide +kernel
theorem dX6_take_0 : decode cX6_take 0 = .ok (.aload_n 0, 1) := by decide +kernel
theorem dX6_take_1 : decode cX6_take 1 = .ok (.iload_n 1, 1) := by decide +kernel
theorem dX6_take_2 : decode cX6_take 2 = .ok (.invokevirtual 160, 3) := by decide +kernel
theorem dX6_take_5 : decode cX6_take 5 = .ok (.ifCond .ne 6, 3) := by decide +kernel
theorem dX6_take_8 : decode cX6_take 8 = .ok (.ldc 163, 2) := by decide +kernel
theorem dX6_take_10 : decode cX6_take 10 = .ok (.ireturn, 1) := by decide +kernel
theorem dX6_take_11 : decode cX6_take 11 = .ok (.aload_n 0, 1) := by decide +kernel
theorem dX6_take_12 : decode cX6_take 12 = .ok (.invokevirtual 213, 3) := by decide +kernel
theorem dX6_take_15 : decode cX6_take 15 = .ok (.aload_n 0, 1) := by decide +kernel
theorem dX6_take_16 : decode cX6_take 16 = .ok (.getfield 7, 3) := by decide +kernel
theorem dX6_take_19 : decode cX6_take 19 = .ok (.iconst 0, 1) := by decide +kernel
theorem dX6_take_20 : decode cX6_take 20 = .ok (.dup2, 1) := by decide +kernel
theorem dX6_take_21 : decode cX6_take 21 = .ok (.iaload, 1) := by decide +kernel
theorem dX6_take_22 : decode cX6_take 22 = .ok (.iconst 1, 1) := by decide +kernel
theorem dX6_take_23 : decode cX6_take 23 = .ok (.isub, 1) := by decide +kernel
theorem dX6_take_24 : decode cX6_take 24 = .ok (.iastore, 1) := by decide +kernel
theorem dX6_take_25 : decode cX6_take 25 = .ok (.iload_n 1, 1) := by decide +kernel
theorem dX6_take_26 : decode cX6_take 26 = .ok (.invokestatic 50, 3) := by decide +kernel
theorem dX6_take_29 : decode cX6_take 29 = .ok (.istore_n 2, 1) := by decide +kernel
theorem dX6_take_30 : decode cX6_take 30 = .ok (.iload_n 2, 1) := by decide +kernel
theorem dX6_take_31 : decode cX6_take 31 = .ok (.aload_n 0, 1) := by decide +kernel
theorem dX6_take_32 : decode cX6_take 32 = .ok (.getfield 7, 3) := by decide +kernel
theorem dX6_take_35 : decode cX6_take 35 = .ok (.iconst 0, 1) := by decide +kernel
theorem dX6_take_36 : decode cX6_take 36 = .ok (.iaload, 1) := by decide +kernel
theorem dX6_take_37 : decode cX6_take 37 = .ok (.invokestatic 50, 3) := by decide +kernel
theorem dX6_take_40 : decode cX6_take 40 = .ok (.if_icmp .ge 23, 3) := by decide +kernel
theorem dX6_take_43 : decode cX6_take 43 = .ok (.aload_n 0, 1) := by decide +kernel
theorem dX6_take_44 : decode cX6_take 44 = .ok (.getfield 7, 3) := by decide +kernel
theorem dX6_take_47 : decode cX6_take 47 = .ok (.iload_n 2, 1) := by decide +kernel
theorem dX6_take_48 : decode cX6_take 48 = .ok (.aload_n 0, 1) := by decide +kernel
theorem dX6_take_49 : decode cX6_take 49 = .ok (.getfield 7, 3) := by decide +kernel
theorem dX6_take_52 : decode cX6_take 52 = .ok (.iload_n 2, 1) := by decide +kernel
theorem dX6_take_53 : decode cX6_take 53 = .ok (.iconst 3, 1) := by decide +kernel
theorem dX6_take_54 : decode cX6_take 54 = .ok (.iadd, 1) := by decide +kernel
theorem dX6_take_55 : decode cX6_take 55 = .ok (.iaload, 1) := by decide +kernel
theorem dX6_take_56 : decode cX6_take 56 = .ok (.iastore, 1) := by decide +kernel
theorem dX6_take_57 : decode cX6_take 57 = .ok (.iinc 2 1, 3) := by decide +kernel
theorem dX6_take_60 : decode cX6_take 60 = .ok (.goto (-30), 3) := by decide +kernel
theorem dX6_take_63 : decode cX6_take 63 = .ok (.aload_n 0, 1) := by decide +kernel
theorem dX6_take_64 : decode cX6_take 64 = .ok (.getfield 7, 3) := by decide +kernel
theorem dX6_take_67 : decode cX6_take 67 = .ok (.iconst 0, 1) := by decide +kernel
theorem dX6_take_68 : decode cX6_take 68 = .ok (.iaload, 1) := by decide +kernel
theorem dX6_take_69 : decode cX6_take 69 = .ok (.ireturn, 1) := by decide +kernel
theorem dX6_put_0 : decode cX6_put 0 = .ok (.aload_n 0, 1) := by decide +kernel
theorem dX6_put_1 : decode cX6_put 1 = .ok (.getfield 7, 3) := by decide +kernel
theorem dX6_put_4 : decode cX6_put 4 = .ok (.iload_n 1, 1) := by decide +kernel
theorem dX6_put_5 : decode cX6_put 5 = .ok (.iaload, 1) := by decide +kernel
theorem dX6_put_6 : decode cX6_put 6 = .ok (.istore_n 3, 1) := by decide +kernel
theorem dX6_put_7 : decode cX6_put 7 = .ok (.aload_n 0, 1) := by decide +kernel
theorem dX6_put_8 : decode cX6_put 8 = .ok (.getfield 7, 3) := by decide +kernel
theorem dX6_put_11 : decode cX6_put 11 = .ok (.iload_n 1, 1) := by decide +kernel
theorem dX6_put_12 : decode cX6_put 12 = .ok (.iload_n 2, 1) := by decide +kernel
theorem dX6_put_13 : decode cX6_put 13 = .ok (.iastore, 1) := by decide +kernel
theorem dX6_put_14 : decode cX6_put 14 = .ok (.iload_n 3, 1) := by decide +kernel
theorem dX6_put_15 : decode cX6_put 15 = .ok (.ireturn, 1) := by decide +kernel
theorem dX6_grade_0 : decode cX6_grade 0 = .ok (.aload_n 0, 1) := by decide +kernel
theorem dX6_grade_1 : decode cX6_grade 1 = .ok (.iload_n 1, 1) := by decide +kernel
theorem dX6_grade_2 : decode cX6_grade 2 = .ok (.invokevirtual 160, 3) := by decide +kernel
theorem dX6_grade_5 : decode cX6_grade 5 = .ok (.ifCond .ne 6, 3) := by decide +kernel
theorem dX6_grade_8 : decode cX6_grade 8 = .ok (.ldc 163, 2) := by decide +kernel
theorem dX6_grade_10 : decode cX6_grade 10 = .ok (.ireturn, 1) := by decide +kernel
theorem dX6_grade_11 : decode cX6_grade 11 = .ok (.iload_n 2, 1) := by decide +kernel
theorem dX6_grade_12 : decode cX6_grade 12 = .ok (.i2l, 1) := by decide +kernel
theorem dX6_grade_13 : decode cX6_grade 13 = .ok (.lconst 0, 1) := by decide +kernel
theorem dX6_grade_14 : decode cX6_grade 14 = .ok (.ldc2_w 216, 3) := by decide +kernel
theorem dX6_grade_17 : decode cX6_grade 17 = .ok (.invokestatic 44, 3) := by decide +kernel
theorem dX6_grade_20 : decode cX6_grade 20 = .ok (.ifCond .ne 6, 3) := by decide +kernel
theorem dX6_grade_23 : decode cX6_grade 23 = .ok (.ldc 159, 2) := by decide +kernel
theorem dX6_grade_25 : decode cX6_grade 25 = .ok (.ireturn, 1) := by decide +kernel
theorem dX6_grade_26 : decode cX6_grade 26 = .ok (.aload_n 0, 1) := by decide +kernel
theorem dX6_grade_27 : decode cX6_grade 27 = .ok (.invokevirtual 213, 3) := by decide +kernel
theorem dX6_grade_30 : decode cX6_grade 30 = .ok (.aload_n 0, 1) := by decide +kernel
theorem dX6_grade_31 : decode cX6_grade 31 = .ok (.iload_n 1, 1) := by decide +kernel
theorem dX6_grade_32 : decode cX6_grade 32 = .ok (.invokestatic 50, 3) := by decide +kernel
theorem dX6_grade_35 : decode cX6_grade 35 = .ok (.iconst 2, 1) := by decide +kernel
theorem dX6_grade_36 : decode cX6_grade 36 = .ok (.iadd, 1) := by decide +kernel
theorem dX6_grade_37 : decode cX6_grade 37 = .ok (.iload_n 2, 1) := by decide +kernel
theorem dX6_grade_38 : decode cX6_grade 38 = .ok (.invokevirtual 223, 3) := by decide +kernel
theorem dX6_grade_41 : decode cX6_grade 41 = .ok (.ireturn, 1) := by decide +kernel
theorem dX6_pieces_0 : decode cX6_pieces 0 = .ok (.iload_n 1, 1) := by decide +kernel
theorem dX6_pieces_1 : decode cX6_pieces 1 = .ok (.i2l, 1) := by decide +kernel
theorem dX6_pieces_2 : decode cX6_pieces 2 = .ok (.lconst 0, 1) := by decide +kernel
theorem dX6_pieces_3 : decode cX6_pieces 3 = .ok (.ldc2_w 141, 3) := by decide +kernel
theorem dX6_pieces_6 : decode cX6_pieces 6 = .ok (.invokestatic 44, 3) := by decide +kernel
theorem dX6_pieces_9 : decode cX6_pieces 9 = .ok (.ifCond .eq 53, 3) := by decide +kernel
theorem dX6_pieces_12 : decode cX6_pieces 12 = .ok (.iload_n 2, 1) := by decide +kernel
theorem dX6_pieces_13 : decode cX6_pieces 13 = .ok (.i2l, 1) := by decide +kernel
theorem dX6_pieces_14 : decode cX6_pieces 14 = .ok (.lconst 1, 1) := by decide +kernel
theorem dX6_pieces_15 : decode cX6_pieces 15 = .ok (.ldc2_w 141, 3) := by decide +kernel
theorem dX6_pieces_18 : decode cX6_pieces 18 = .ok (.invokestatic 44, 3) := by decide +kernel
theorem dX6_pieces_21 : decode cX6_pieces 21 = .ok (.ifCond .eq 41, 3) := by decide +kernel
theorem dX6_pieces_24 : decode cX6_pieces 24 = .ok (.iload_n 3, 1) := by decide +kernel
theorem dX6_pieces_25 : decode cX6_pieces 25 = .ok (.i2l, 1) := by decide +kernel
theorem dX6_pieces_26 : decode cX6_pieces 26 = .ok (.lconst 1, 1) := by decide +kernel
theorem dX6_pieces_27 : decode cX6_pieces 27 = .ok (.ldc2_w 226, 3) := by decide +kernel
theorem dX6_pieces_30 : decode cX6_pieces 30 = .ok (.invokestatic 44, 3) := by decide +kernel
theorem dX6_pieces_33 : decode cX6_pieces 33 = .ok (.ifCond .eq 29, 3) := by decide +kernel
theorem dX6_pieces_36 : decode cX6_pieces 36 = .ok (.iload 4, 2) := by decide +kernel
theorem dX6_pieces_38 : decode cX6_pieces 38 = .ok (.i2l, 1) := by decide +kernel
theorem dX6_pieces_39 : decode cX6_pieces 39 = .ok (.lconst 0, 1) := by decide +kernel
theorem dX6_pieces_40 : decode cX6_pieces 40 = .ok (.iload_n 2, 1) := by decide +kernel
theorem dX6_pieces_41 : decode cX6_pieces 41 = .ok (.i2l, 1) := by decide +kernel
theorem dX6_pieces_42 : decode cX6_pieces 42 = .ok (.invokestatic 44, 3) := by decide +kernel
theorem dX6_pieces_45 : decode cX6_pieces 45 = .ok (.ifCond .eq 17, 3) := by decide +kernel
theorem dX6_pieces_48 : decode cX6_pieces 48 = .ok (.iload 5, 2) := by decide +kernel
theorem dX6_pieces_50 : decode cX6_pieces 50 = .ok (.i2l, 1) := by decide +kernel
theorem dX6_pieces_51 : decode cX6_pieces 51 = .ok (.iload_n 3, 1) := by decide +kernel
theorem dX6_pieces_52 : decode cX6_pieces 52 = .ok (.i2l, 1) := by decide +kernel
theorem dX6_pieces_53 : decode cX6_pieces 53 = .ok (.ldc2_w 228, 3) := by decide +kernel
theorem dX6_pieces_56 : decode cX6_pieces 56 = .ok (.invokestatic 44, 3) := by decide +kernel
theorem dX6_pieces_59 : decode cX6_pieces 59 = .ok (.ifCond .ne 6, 3) := by decide +kernel
theorem dX6_pieces_62 : decode cX6_pieces 62 = .ok (.ldc 159, 2) := by decide +kernel
theorem dX6_pieces_64 : decode cX6_pieces 64 = .ok (.ireturn, 1) := by decide +kernel
theorem dX6_pieces_65 : decode cX6_pieces 65 = .ok (.aload_n 0, 1) := by decide +kernel
theorem dX6_pieces_66 : decode cX6_pieces 66 = .ok (.invokevirtual 213, 3) := by decide +kernel
theorem dX6_pieces_69 : decode cX6_pieces 69 = .ok (.aload_n 0, 1) := by decide +kernel
theorem dX6_pieces_70 : decode cX6_pieces 70 = .ok (.bipush 10, 2) := by decide +kernel
theorem dX6_pieces_72 : decode cX6_pieces 72 = .ok (.invokevirtual 58, 3) := by decide +kernel
theorem dX6_pieces_75 : decode cX6_pieces 75 = .ok (.istore 6, 2) := by decide +kernel
theorem dX6_pieces_77 : decode cX6_pieces 77 = .ok (.aload_n 0, 1) := by decide +kernel
theorem dX6_pieces_78 : decode cX6_pieces 78 = .ok (.getfield 7, 3) := by decide +kernel
theorem dX6_pieces_81 : decode cX6_pieces 81 = .ok (.iconst 2, 1) := by decide +kernel
theorem dX6_pieces_82 : decode cX6_pieces 82 = .ok (.iload_n 1, 1) := by decide +kernel
theorem dX6_pieces_83 : decode cX6_pieces 83 = .ok (.iastore, 1) := by decide +kernel
theorem dX6_pieces_84 : decode cX6_pieces 84 = .ok (.aload_n 0, 1) := by decide +kernel
theorem dX6_pieces_85 : decode cX6_pieces 85 = .ok (.getfield 7, 3) := by decide +kernel
theorem dX6_pieces_88 : decode cX6_pieces 88 = .ok (.iconst 3, 1) := by decide +kernel
theorem dX6_pieces_89 : decode cX6_pieces 89 = .ok (.iload_n 2, 1) := by decide +kernel
theorem dX6_pieces_90 : decode cX6_pieces 90 = .ok (.iastore, 1) := by decide +kernel
theorem dX6_pieces_91 : decode cX6_pieces 91 = .ok (.aload_n 0, 1) := by decide +kernel
theorem dX6_pieces_92 : decode cX6_pieces 92 = .ok (.getfield 7, 3) := by decide +kernel
theorem dX6_pieces_95 : decode cX6_pieces 95 = .ok (.iconst 4, 1) := by decide +kernel
theorem dX6_pieces_96 : decode cX6_pieces 96 = .ok (.iload_n 3, 1) := by decide +kernel
theorem dX6_pieces_97 : decode cX6_pieces 97 = .ok (.iastore, 1) := by decide +kernel
theorem dX6_pieces_98 : decode cX6_pieces 98 = .ok (.aload_n 0, 1) := by decide +kernel
theorem dX6_pieces_99 : decode cX6_pieces 99 = .ok (.getfield 7, 3) := by decide +kernel
theorem dX6_pieces_102 : decode cX6_pieces 102 = .ok (.iconst 5, 1) := by decide +kernel
theorem dX6_pieces_103 : decode cX6_pieces 103 = .ok (.iload 4, 2) := by decide +kernel
theorem dX6_pieces_105 : decode cX6_pieces 105 = .ok (.iastore, 1) := by decide +kernel
theorem dX6_pieces_106 : decode cX6_pieces 106 = .ok (.aload_n 0, 1) := by decide +kernel
theorem dX6_pieces_107 : decode cX6_pieces 107 = .ok (.getfield 7, 3) := by decide +kernel
theorem dX6_pieces_110 : decode cX6_pieces 110 = .ok (.bipush 6, 2) := by decide +kernel
theorem dX6_pieces_112 : decode cX6_pieces 112 = .ok (.iload 5, 2) := by decide +kernel
theorem dX6_pieces_114 : decode cX6_pieces 114 = .ok (.iastore, 1) := by decide +kernel
theorem dX6_pieces_115 : decode cX6_pieces 115 = .ok (.iload 6, 2) := by decide +kernel
theorem dX6_pieces_117 : decode cX6_pieces 117 = .ok (.ireturn, 1) := by decide +kernel
theorem dX6_search_0 : decode cX6_search 0 = .ok (.iload_n 1, 1) := by decide +kernel
theorem dX6_search_1 : decode cX6_search 1 = .ok (.i2l, 1) := by decide +kernel
theorem dX6_search_2 : decode cX6_search 2 = .ok (.lconst 1, 1) := by decide +kernel
theorem dX6_search_3 : decode cX6_search 3 = .ok (.ldc2_w 102, 3) := by decide +kernel
theorem dX6_search_6 : decode cX6_search 6 = .ok (.invokestatic 44, 3) := by decide +kernel
theorem dX6_search_9 : decode cX6_search 9 = .ok (.ifCond .eq 27, 3) := by decide +kernel
theorem dX6_search_12 : decode cX6_search 12 = .ok (.iload_n 2, 1) := by decide +kernel
theorem dX6_search_13 : decode cX6_search 13 = .ok (.i2l, 1) := by decide +kernel
theorem dX6_search_14 : decode cX6_search 14 = .ok (.lconst 1, 1) := by decide +kernel
theorem dX6_search_15 : decode cX6_search 15 = .ok (.ldc2_w 102, 3) := by decide +kernel
theorem dX6_search_18 : decode cX6_search 18 = .ok (.invokestatic 44, 3) := by decide +kernel
theorem dX6_search_21 : decode cX6_search 21 = .ok (.ifCond .eq 15, 3) := by decide +kernel
theorem dX6_search_24 : decode cX6_search 24 = .ok (.iload_n 3, 1) := by decide +kernel
theorem dX6_search_25 : decode cX6_search 25 = .ok (.i2l, 1) := by decide +kernel
theorem dX6_search_26 : decode cX6_search 26 = .ok (.lconst 1, 1) := by decide +kernel
theorem dX6_search_27 : decode cX6_search 27 = .ok (.ldc2_w 166, 3) := by decide +kernel
theorem dX6_search_30 : decode cX6_search 30 = .ok (.invokestatic 44, 3) := by decide +kernel
theorem dX6_search_33 : decode cX6_search 33 = .ok (.ifCond .ne 6, 3) := by decide +kernel
theorem dX6_search_36 : decode cX6_search 36 = .ok (.ldc 159, 2) := by decide +kernel
theorem dX6_search_38 : decode cX6_search 38 = .ok (.ireturn, 1) := by decide +kernel
theorem dX6_search_39 : decode cX6_search 39 = .ok (.aload_n 0, 1) := by decide +kernel
theorem dX6_search_40 : decode cX6_search 40 = .ok (.invokevirtual 213, 3) := by decide +kernel
theorem dX6_search_43 : decode cX6_search 43 = .ok (.aload_n 0, 1) := by decide +kernel
theorem dX6_search_44 : decode cX6_search 44 = .ok (.getfield 7, 3) := by decide +kernel
theorem dX6_search_47 : decode cX6_search 47 = .ok (.bipush 8, 2) := by decide +kernel
theorem dX6_search_49 : decode cX6_search 49 = .ok (.iload_n 2, 1) := by decide +kernel
theorem dX6_search_50 : decode cX6_search 50 = .ok (.iastore, 1) := by decide +kernel
theorem dX6_search_51 : decode cX6_search 51 = .ok (.aload_n 0, 1) := by decide +kernel
theorem dX6_search_52 : decode cX6_search 52 = .ok (.getfield 7, 3) := by decide +kernel
theorem dX6_search_55 : decode cX6_search 55 = .ok (.bipush 9, 2) := by decide +kernel
theorem dX6_search_57 : decode cX6_search 57 = .ok (.iload_n 3, 1) := by decide +kernel
theorem dX6_search_58 : decode cX6_search 58 = .ok (.iastore, 1) := by decide +kernel
theorem dX6_search_59 : decode cX6_search 59 = .ok (.aload_n 0, 1) := by decide +kernel
theorem dX6_search_60 : decode cX6_search 60 = .ok (.bipush 7, 2) := by decide +kernel
theorem dX6_search_62 : decode cX6_search 62 = .ok (.iload_n 1, 1) := by decide +kernel
theorem dX6_search_63 : decode cX6_search 63 = .ok (.invokevirtual 223, 3) := by decide +kernel
theorem dX6_search_66 : decode cX6_search 66 = .ok (.ireturn, 1) := by decide +kernel
theorem dX6_metric_0 : decode cX6_metric 0 = .ok (.iload_n 1, 1) := by decide +kernel
theorem dX6_metric_1 : decode cX6_metric 1 = .ok (.i2l, 1) := by decide +kernel
theorem dX6_metric_2 : decode cX6_metric 2 = .ok (.lconst 0, 1) := by decide +kernel
theorem dX6_metric_3 : decode cX6_metric 3 = .ok (.lconst 1, 1) := by decide +kernel
theorem dX6_metric_4 : decode cX6_metric 4 = .ok (.invokestatic 44, 3) := by decide +kernel
theorem dX6_metric_7 : decode cX6_metric 7 = .ok (.ifCond .ne 6, 3) := by decide +kernel
theorem dX6_metric_10 : decode cX6_metric 10 = .ok (.ldc 159, 2) := by decide +kernel
theorem dX6_metric_12 : decode cX6_metric 12 = .ok (.ireturn, 1) := by decide +kernel
theorem dX6_metric_13 : decode cX6_metric 13 = .ok (.aload_n 0, 1) := by decide +kernel
theorem dX6_metric_14 : decode cX6_metric 14 = .ok (.invokevirtual 213, 3) := by decide +kernel
theorem dX6_metric_17 : decode cX6_metric 17 = .ok (.aload_n 0, 1) := by decide +kernel
theorem dX6_metric_18 : decode cX6_metric 18 = .ok (.iconst 1, 1) := by decide +kernel
theorem dX6_metric_19 : decode cX6_metric 19 = .ok (.iload_n 1, 1) := by decide +kernel
theorem dX6_metric_20 : decode cX6_metric 20 = .ok (.invokevirtual 223, 3) := by decide +kernel
theorem dX6_metric_23 : decode cX6_metric 23 = .ok (.ireturn, 1) := by decide +kernel
theorem dX6_draw_0 : decode cX6_draw 0 = .ok (.aload_n 0, 1) := by decide +kernel
theorem dX6_draw_1 : decode cX6_draw 1 = .ok (.getfield 156, 3) := by decide +kernel
theorem dX6_draw_4 : decode cX6_draw 4 = .ok (.i2l, 1) := by decide +kernel
theorem dX6_draw_5 : decode cX6_draw 5 = .ok (.ldc2_w 230, 3) := by decide +kernel
theorem dX6_draw_8 : decode cX6_draw 8 = .ok (.lmul, 1) := by decide +kernel
theorem dX6_draw_9 : decode cX6_draw 9 = .ok (.ldc2_w 232, 3) := by decide +kernel
theorem dX6_draw_12 : decode cX6_draw 12 = .ok (.ladd, 1) := by decide +kernel
theorem dX6_draw_13 : decode cX6_draw 13 = .ok (.ldc2_w 234, 3) := by decide +kernel
theorem dX6_draw_16 : decode cX6_draw 16 = .ok (.lrem, 1) := by decide +kernel
theorem dX6_draw_17 : decode cX6_draw 17 = .ok (.lstore_n 2, 1) := by decide +kernel
theorem dX6_draw_18 : decode cX6_draw 18 = .ok (.aload_n 0, 1) := by decide +kernel
theorem dX6_draw_19 : decode cX6_draw 19 = .ok (.lload_n 2, 1) := by decide +kernel
theorem dX6_draw_20 : decode cX6_draw 20 = .ok (.l2i, 1) := by decide +kernel
theorem dX6_draw_21 : decode cX6_draw 21 = .ok (.putfield 156, 3) := by decide +kernel
theorem dX6_draw_24 : decode cX6_draw 24 = .ok (.aload_n 0, 1) := by decide +kernel
theorem dX6_draw_25 : decode cX6_draw 25 = .ok (.getfield 156, 3) := by decide +kernel
theorem dX6_draw_28 : decode cX6_draw 28 = .ok (.ldc 236, 2) := by decide +kernel
theorem dX6_draw_30 : decode cX6_draw 30 = .ok (.idiv, 1) := by decide +kernel
theorem dX6_draw_31 : decode cX6_draw 31 = .ok (.iload_n 1, 1) := by decide +kernel
theorem dX6_draw_32 : decode cX6_draw 32 = .ok (.irem, 1) := by decide +kernel
theorem dX6_draw_33 : decode cX6_draw 33 = .ok (.ireturn, 1) := by decide +kernel
theorem dX6_drift_0 : decode cX6_drift 0 = .ok (.iload_n 1, 1) := by decide +kernel
theorem dX6_drift_1 : decode cX6_drift 1 = .ok (.i2l, 1) := by decide +kernel
theorem dX6_drift_2 : decode cX6_drift 2 = .ok (.lconst 1, 1) := by decide +kernel
theorem dX6_drift_3 : decode cX6_drift 3 = .ok (.ldc2_w 226, 3) := by decide +kernel
theorem dX6_drift_6 : decode cX6_drift 6 = .ok (.invokestatic 44, 3) := by decide +kernel
theorem dX6_drift_9 : decode cX6_drift 9 = .ok (.ifCond .ne 6, 3) := by decide +kernel
theorem dX6_drift_12 : decode cX6_drift 12 = .ok (.ldc 159, 2) := by decide +kernel
theorem dX6_drift_14 : decode cX6_drift 14 = .ok (.ireturn, 1) := by decide +kernel
theorem dX6_drift_15 : decode cX6_drift 15 = .ok (.iconst 0, 1) := by decide +kernel
theorem dX6_drift_16 : decode cX6_drift 16 = .ok (.istore_n 2, 1) := by decide +kernel
theorem dX6_drift_17 : decode cX6_drift 17 = .ok (.iload_n 2, 1) := by decide +kernel
theorem dX6_drift_18 : decode cX6_drift 18 = .ok (.iload_n 1, 1) := by decide +kernel
theorem dX6_drift_19 : decode cX6_drift 19 = .ok (.if_icmp .ge 65, 3) := by decide +kernel
theorem dX6_drift_22 : decode cX6_drift 22 = .ok (.aload_n 0, 1) := by decide +kernel
theorem dX6_drift_23 : decode cX6_drift 23 = .ok (.getfield 7, 3) := by decide +kernel
theorem dX6_drift_26 : decode cX6_drift 26 = .ok (.iconst 0, 1) := by decide +kernel
theorem dX6_drift_27 : decode cX6_drift 27 = .ok (.iaload, 1) := by decide +kernel
theorem dX6_drift_28 : decode cX6_drift 28 = .ok (.bipush 10, 2) := by decide +kernel
theorem dX6_drift_30 : decode cX6_drift 30 = .ok (.if_icmp .ge 54, 3) := by decide +kernel
theorem dX6_drift_33 : decode cX6_drift 33 = .ok (.aload_n 0, 1) := by decide +kernel
theorem dX6_drift_34 : decode cX6_drift 34 = .ok (.bipush 32, 2) := by decide +kernel
theorem dX6_drift_36 : decode cX6_drift 36 = .ok (.invokevirtual 237, 3) := by decide +kernel
theorem dX6_drift_39 : decode cX6_drift 39 = .ok (.istore_n 3, 1) := by decide +kernel
theorem dX6_drift_40 : decode cX6_drift 40 = .ok (.aload_n 0, 1) := by decide +kernel
theorem dX6_drift_41 : decode cX6_drift 41 = .ok (.bipush 32, 2) := by decide +kernel
theorem dX6_drift_43 : decode cX6_drift 43 = .ok (.invokevirtual 237, 3) := by decide +kernel
theorem dX6_drift_46 : decode cX6_drift 46 = .ok (.istore 4, 2) := by decide +kernel
theorem dX6_drift_48 : decode cX6_drift 48 = .ok (.aload_n 0, 1) := by decide +kernel
theorem dX6_drift_49 : decode cX6_drift 49 = .ok (.sipush 1000, 3) := by decide +kernel
theorem dX6_drift_52 : decode cX6_drift 52 = .ok (.invokevirtual 237, 3) := by decide +kernel
theorem dX6_drift_55 : decode cX6_drift 55 = .ok (.istore 5, 2) := by decide +kernel
theorem dX6_drift_57 : decode cX6_drift 57 = .ok (.aload_n 0, 1) := by decide +kernel
theorem dX6_drift_58 : decode cX6_drift 58 = .ok (.iload_n 3, 1) := by decide +kernel
theorem dX6_drift_59 : decode cX6_drift 59 = .ok (.iload 4, 2) := by decide +kernel
theorem dX6_drift_61 : decode cX6_drift 61 = .ok (.invokevirtual 174, 3) := by decide +kernel
theorem dX6_drift_64 : decode cX6_drift 64 = .ok (.iconst (-1), 1) := by decide +kernel
theorem dX6_drift_65 : decode cX6_drift 65 = .ok (.if_icmp .ne 13, 3) := by decide +kernel
theorem dX6_drift_68 : decode cX6_drift 68 = .ok (.aload_n 0, 1) := by decide +kernel
theorem dX6_drift_69 : decode cX6_drift 69 = .ok (.iload_n 3, 1) := by decide +kernel
theorem dX6_drift_70 : decode cX6_drift 70 = .ok (.iload 4, 2) := by decide +kernel
theorem dX6_drift_72 : decode cX6_drift 72 = .ok (.iload 5, 2) := by decide +kernel
theorem dX6_drift_74 : decode cX6_drift 74 = .ok (.invokevirtual 219, 3) := by decide +kernel
theorem dX6_drift_77 : decode cX6_drift 77 = .ok (.pop, 1) := by decide +kernel
theorem dX6_drift_78 : decode cX6_drift 78 = .ok (.iinc 2 1, 3) := by decide +kernel
theorem dX6_drift_81 : decode cX6_drift 81 = .ok (.goto (-64), 3) := by decide +kernel
theorem dX6_drift_84 : decode cX6_drift 84 = .ok (.aload_n 0, 1) := by decide +kernel
theorem dX6_drift_85 : decode cX6_drift 85 = .ok (.getfield 7, 3) := by decide +kernel
theorem dX6_drift_88 : decode cX6_drift 88 = .ok (.iconst 0, 1) := by decide +kernel
theorem dX6_drift_89 : decode cX6_drift 89 = .ok (.iaload, 1) := by decide +kernel
theorem dX6_drift_90 : decode cX6_drift 90 = .ok (.ireturn, 1) := by decide +kernel
theorem dX6_undo_0 : decode cX6_undo 0 = .ok (.iload_n 1, 1) := by decide +kernel
theorem dX6_undo_1 : decode cX6_undo 1 = .ok (.i2l, 1) := by decide +kernel
theorem dX6_undo_2 : decode cX6_undo 2 = .ok (.lconst 1, 1) := by decide +kernel
theorem dX6_undo_3 : decode cX6_undo 3 = .ok (.ldc2_w 240, 3) := by decide +kernel
theorem dX6_undo_6 : decode cX6_undo 6 = .ok (.invokestatic 44, 3) := by decide +kernel
theorem dX6_undo_9 : decode cX6_undo 9 = .ok (.ifCond .ne 6, 3) := by decide +kernel
theorem dX6_undo_12 : decode cX6_undo 12 = .ok (.ldc 159, 2) := by decide +kernel
theorem dX6_undo_14 : decode cX6_undo 14 = .ok (.ireturn, 1) := by decide +kernel
theorem dX6_undo_15 : decode cX6_undo 15 = .ok (.iload_n 1, 1) := by decide +kernel
theorem dX6_undo_16 : decode cX6_undo 16 = .ok (.aload_n 0, 1) := by decide +kernel
theorem dX6_undo_17 : decode cX6_undo 17 = .ok (.getfield 153, 3) := by decide +kernel
theorem dX6_undo_20 : decode cX6_undo 20 = .ok (.if_icmp .le 6, 3) := by decide +kernel
theorem dX6_undo_23 : decode cX6_undo 23 = .ok (.ldc 222, 2) := by decide +kernel
theorem dX6_undo_25 : decode cX6_undo 25 = .ok (.ireturn, 1) := by decide +kernel
theorem dX6_undo_26 : decode cX6_undo 26 = .ok (.aload_n 0, 1) := by decide +kernel
theorem dX6_undo_27 : decode cX6_undo 27 = .ok (.dup, 1) := by decide +kernel
theorem dX6_undo_28 : decode cX6_undo 28 = .ok (.getfield 153, 3) := by decide +kernel
theorem dX6_undo_31 : decode cX6_undo 31 = .ok (.iload_n 1, 1) := by decide +kernel
theorem dX6_undo_32 : decode cX6_undo 32 = .ok (.isub, 1) := by decide +kernel
theorem dX6_undo_33 : decode cX6_undo 33 = .ok (.putfield 153, 3) := by decide +kernel
theorem dX6_undo_36 : decode cX6_undo 36 = .ok (.aload_n 0, 1) := by decide +kernel
theorem dX6_undo_37 : decode cX6_undo 37 = .ok (.bipush 40, 2) := by decide +kernel
theorem dX6_undo_39 : decode cX6_undo 39 = .ok (.aload_n 0, 1) := by decide +kernel
theorem dX6_undo_40 : decode cX6_undo 40 = .ok (.getfield 153, 3) := by decide +kernel
theorem dX6_undo_43 : decode cX6_undo 43 = .ok (.iconst 1, 1) := by decide +kernel
theorem dX6_undo_44 : decode cX6_undo 44 = .ok (.iadd, 1) := by decide +kernel
theorem dX6_undo_45 : decode cX6_undo 45 = .ok (.imul, 1) := by decide +kernel
theorem dX6_undo_46 : decode cX6_undo 46 = .ok (.iconst 0, 1) := by decide +kernel
theorem dX6_undo_47 : decode cX6_undo 47 = .ok (.invokevirtual 209, 3) := by decide +kernel
theorem dX6_undo_50 : decode cX6_undo 50 = .ok (.aload_n 0, 1) := by decide +kernel
theorem dX6_undo_51 : decode cX6_undo 51 = .ok (.getfield 153, 3) := by decide +kernel
theorem dX6_undo_54 : decode cX6_undo 54 = .ok (.ireturn, 1) := by decide +kernel
theorem dX6_write_0 : decode cX6_write 0 = .ok (.iload_n 1, 1) := by decide +kernel
theorem dX6_write_1 : decode cX6_write 1 = .ok (.iload_n 2, 1) := by decide +kernel
theorem dX6_write_2 : decode cX6_write 2 = .ok (.invokestatic 168, 3) := by decide +kernel
theorem dX6_write_5 : decode cX6_write 5 = .ok (.ifCond .ne 6, 3) := by decide +kernel
theorem dX6_write_8 : decode cX6_write 8 = .ok (.ldc 159, 2) := by decide +kernel
theorem dX6_write_10 : decode cX6_write 10 = .ok (.ireturn, 1) := by decide +kernel
theorem dX6_write_11 : decode cX6_write 11 = .ok (.aload_n 0, 1) := by decide +kernel
theorem dX6_write_12 : decode cX6_write 12 = .ok (.getfield 135, 3) := by decide +kernel
theorem dX6_write_15 : decode cX6_write 15 = .ok (.bipush 20, 2) := by decide +kernel
theorem dX6_write_17 : decode cX6_write 17 = .ok (.if_icmp .ne 6, 3) := by decide +kernel
theorem dX6_write_20 : decode cX6_write 20 = .ok (.ldc 218, 2) := by decide +kernel
theorem dX6_write_22 : decode cX6_write 22 = .ok (.ireturn, 1) := by decide +kernel
theorem dX6_write_23 : decode cX6_write 23 = .ok (.aload_n 0, 1) := by decide +kernel
theorem dX6_write_24 : decode cX6_write 24 = .ok (.getfield 16, 3) := by decide +kernel
theorem dX6_write_27 : decode cX6_write 27 = .ok (.aload_n 0, 1) := by decide +kernel
theorem dX6_write_28 : decode cX6_write 28 = .ok (.getfield 135, 3) := by decide +kernel
theorem dX6_write_31 : decode cX6_write 31 = .ok (.iload_n 1, 1) := by decide +kernel
theorem dX6_write_32 : decode cX6_write 32 = .ok (.iastore, 1) := by decide +kernel
theorem dX6_write_33 : decode cX6_write 33 = .ok (.aload_n 0, 1) := by decide +kernel
theorem dX6_write_34 : decode cX6_write 34 = .ok (.getfield 19, 3) := by decide +kernel
theorem dX6_write_37 : decode cX6_write 37 = .ok (.aload_n 0, 1) := by decide +kernel
theorem dX6_write_38 : decode cX6_write 38 = .ok (.getfield 135, 3) := by decide +kernel
theorem dX6_write_41 : decode cX6_write 41 = .ok (.iload_n 2, 1) := by decide +kernel
theorem dX6_write_42 : decode cX6_write 42 = .ok (.iastore, 1) := by decide +kernel
theorem dX6_write_43 : decode cX6_write 43 = .ok (.aload_n 0, 1) := by decide +kernel
theorem dX6_write_44 : decode cX6_write 44 = .ok (.getfield 22, 3) := by decide +kernel
theorem dX6_write_47 : decode cX6_write 47 = .ok (.aload_n 0, 1) := by decide +kernel
theorem dX6_write_48 : decode cX6_write 48 = .ok (.getfield 135, 3) := by decide +kernel
theorem dX6_write_51 : decode cX6_write 51 = .ok (.iload_n 3, 1) := by decide +kernel
theorem dX6_write_52 : decode cX6_write 52 = .ok (.iastore, 1) := by decide +kernel
theorem dX6_write_53 : decode cX6_write 53 = .ok (.aload_n 0, 1) := by decide +kernel
theorem dX6_write_54 : decode cX6_write 54 = .ok (.dup, 1) := by decide +kernel
theorem dX6_write_55 : decode cX6_write 55 = .ok (.getfield 135, 3) := by decide +kernel
theorem dX6_write_58 : decode cX6_write 58 = .ok (.iconst 1, 1) := by decide +kernel
theorem dX6_write_59 : decode cX6_write 59 = .ok (.iadd, 1) := by decide +kernel
theorem dX6_write_60 : decode cX6_write 60 = .ok (.putfield 135, 3) := by decide +kernel
theorem dX6_write_63 : decode cX6_write 63 = .ok (.aload_n 0, 1) := by decide +kernel
theorem dX6_write_64 : decode cX6_write 64 = .ok (.getfield 135, 3) := by decide +kernel
theorem dX6_write_67 : decode cX6_write 67 = .ok (.ireturn, 1) := by decide +kernel
theorem dX6_tear_0 : decode cX6_tear 0 = .ok (.aload_n 0, 1) := by decide +kernel
theorem dX6_tear_1 : decode cX6_tear 1 = .ok (.getfield 135, 3) := by decide +kernel
theorem dX6_tear_4 : decode cX6_tear 4 = .ok (.istore_n 1, 1) := by decide +kernel
theorem dX6_tear_5 : decode cX6_tear 5 = .ok (.aload_n 0, 1) := by decide +kernel
theorem dX6_tear_6 : decode cX6_tear 6 = .ok (.iconst 0, 1) := by decide +kernel
theorem dX6_tear_7 : decode cX6_tear 7 = .ok (.putfield 135, 3) := by decide +kernel
theorem dX6_tear_10 : decode cX6_tear 10 = .ok (.iload_n 1, 1) := by decide +kernel
theorem dX6_tear_11 : decode cX6_tear 11 = .ok (.ireturn, 1) := by decide +kernel
theorem dX6_seed_0 : decode cX6_seed 0 = .ok (.iload_n 1, 1) := by decide +kernel
theorem dX6_seed_1 : decode cX6_seed 1 = .ok (.ifCond .ge 6, 3) := by decide +kernel
theorem dX6_seed_4 : decode cX6_seed 4 = .ok (.ldc 159, 2) := by decide +kernel
theorem dX6_seed_6 : decode cX6_seed 6 = .ok (.ireturn, 1) := by decide +kernel
theorem dX6_seed_7 : decode cX6_seed 7 = .ok (.aload_n 0, 1) := by decide +kernel
theorem dX6_seed_8 : decode cX6_seed 8 = .ok (.getfield 156, 3) := by decide +kernel
theorem dX6_seed_11 : decode cX6_seed 11 = .ok (.istore_n 2, 1) := by decide +kernel
theorem dX6_seed_12 : decode cX6_seed 12 = .ok (.aload_n 0, 1) := by decide +kernel
theorem dX6_seed_13 : decode cX6_seed 13 = .ok (.iload_n 1, 1) := by decide +kernel
theorem dX6_seed_14 : decode cX6_seed 14 = .ok (.putfield 156, 3) := by decide +kernel
theorem dX6_seed_17 : decode cX6_seed 17 = .ok (.iload_n 2, 1) := by decide +kernel
theorem dX6_seed_18 : decode cX6_seed 18 = .ok (.ireturn, 1) := by decide +kernel
theorem dX6_keep_0 : decode cX6_keep 0 = .ok (.iload_n 1, 1) := by decide +kernel
theorem dX6_keep_1 : decode cX6_keep 1 = .ok (.i2l, 1) := by decide +kernel
theorem dX6_keep_2 : decode cX6_keep 2 = .ok (.lconst 0, 1) := by decide +kernel
theorem dX6_keep_3 : decode cX6_keep 3 = .ok (.lconst 1, 1) := by decide +kernel
theorem dX6_keep_4 : decode cX6_keep 4 = .ok (.invokestatic 44, 3) := by decide +kernel
theorem dX6_keep_7 : decode cX6_keep 7 = .ok (.ifCond .ne 6, 3) := by decide +kernel
theorem dX6_keep_10 : decode cX6_keep 10 = .ok (.ldc 163, 2) := by decide +kernel
theorem dX6_keep_12 : decode cX6_keep 12 = .ok (.ireturn, 1) := by decide +kernel
theorem dX6_keep_13 : decode cX6_keep 13 = .ok (.aload_n 0, 1) := by decide +kernel
theorem dX6_keep_14 : decode cX6_keep 14 = .ok (.iconst 0, 1) := by decide +kernel
theorem dX6_keep_15 : decode cX6_keep 15 = .ok (.sipush 680, 3) := by decide +kernel
theorem dX6_keep_18 : decode cX6_keep 18 = .ok (.bipush 40, 2) := by decide +kernel
theorem dX6_keep_20 : decode cX6_keep 20 = .ok (.iload_n 1, 1) := by decide +kernel
theorem dX6_keep_21 : decode cX6_keep 21 = .ok (.imul, 1) := by decide +kernel
theorem dX6_keep_22 : decode cX6_keep 22 = .ok (.iadd, 1) := by decide +kernel
theorem dX6_keep_23 : decode cX6_keep 23 = .ok (.invokevirtual 209, 3) := by decide +kernel
theorem dX6_keep_26 : decode cX6_keep 26 = .ok (.aload_n 0, 1) := by decide +kernel
theorem dX6_keep_27 : decode cX6_keep 27 = .ok (.getfield 13, 3) := by decide +kernel
theorem dX6_keep_30 : decode cX6_keep 30 = .ok (.iload_n 1, 1) := by decide +kernel
theorem dX6_keep_31 : decode cX6_keep 31 = .ok (.aload_n 0, 1) := by decide +kernel
theorem dX6_keep_32 : decode cX6_keep 32 = .ok (.getfield 156, 3) := by decide +kernel
theorem dX6_keep_35 : decode cX6_keep 35 = .ok (.iastore, 1) := by decide +kernel
theorem dX6_keep_36 : decode cX6_keep 36 = .ok (.aload_n 0, 1) := by decide +kernel
theorem dX6_keep_37 : decode cX6_keep 37 = .ok (.dup, 1) := by decide +kernel
theorem dX6_keep_38 : decode cX6_keep 38 = .ok (.getfield 242, 3) := by decide +kernel
theorem dX6_keep_41 : decode cX6_keep 41 = .ok (.iconst 1, 1) := by decide +kernel
theorem dX6_keep_42 : decode cX6_keep 42 = .ok (.iload_n 1, 1) := by decide +kernel
theorem dX6_keep_43 : decode cX6_keep 43 = .ok (.ishl, 1) := by decide +kernel
theorem dX6_keep_44 : decode cX6_keep 44 = .ok (.ior, 1) := by decide +kernel
theorem dX6_keep_45 : decode cX6_keep 45 = .ok (.putfield 242, 3) := by decide +kernel
theorem dX6_keep_48 : decode cX6_keep 48 = .ok (.aload_n 0, 1) := by decide +kernel
theorem dX6_keep_49 : decode cX6_keep 49 = .ok (.iconst 0, 1) := by decide +kernel
theorem dX6_keep_50 : decode cX6_keep 50 = .ok (.putfield 153, 3) := by decide +kernel
theorem dX6_keep_53 : decode cX6_keep 53 = .ok (.iconst 1, 1) := by decide +kernel
theorem dX6_keep_54 : decode cX6_keep 54 = .ok (.ireturn, 1) := by decide +kernel
theorem dX6_goBack_0 : decode cX6_goBack 0 = .ok (.iload_n 1, 1) := by decide +kernel
theorem dX6_goBack_1 : decode cX6_goBack 1 = .ok (.i2l, 1) := by decide +kernel
theorem dX6_goBack_2 : decode cX6_goBack 2 = .ok (.lconst 0, 1) := by decide +kernel
theorem dX6_goBack_3 : decode cX6_goBack 3 = .ok (.lconst 1, 1) := by decide +kernel
theorem dX6_goBack_4 : decode cX6_goBack 4 = .ok (.invokestatic 44, 3) := by decide +kernel
theorem dX6_goBack_7 : decode cX6_goBack 7 = .ok (.ifCond .ne 6, 3) := by decide +kernel
theorem dX6_goBack_10 : decode cX6_goBack 10 = .ok (.ldc 163, 2) := by decide +kernel
theorem dX6_goBack_12 : decode cX6_goBack 12 = .ok (.ireturn, 1) := by decide +kernel
theorem dX6_goBack_13 : decode cX6_goBack 13 = .ok (.aload_n 0, 1) := by decide +kernel
theorem dX6_goBack_14 : decode cX6_goBack 14 = .ok (.getfield 242, 3) := by decide +kernel
theorem dX6_goBack_17 : decode cX6_goBack 17 = .ok (.iload_n 1, 1) := by decide +kernel
theorem dX6_goBack_18 : decode cX6_goBack 18 = .ok (.ishr, 1) := by decide +kernel
theorem dX6_goBack_19 : decode cX6_goBack 19 = .ok (.iconst 1, 1) := by decide +kernel
theorem dX6_goBack_20 : decode cX6_goBack 20 = .ok (.iand, 1) := by decide +kernel
theorem dX6_goBack_21 : decode cX6_goBack 21 = .ok (.ifCond .ne 6, 3) := by decide +kernel
theorem dX6_goBack_24 : decode cX6_goBack 24 = .ok (.ldc 222, 2) := by decide +kernel
theorem dX6_goBack_26 : decode cX6_goBack 26 = .ok (.ireturn, 1) := by decide +kernel
theorem dX6_goBack_27 : decode cX6_goBack 27 = .ok (.aload_n 0, 1) := by decide +kernel
theorem dX6_goBack_28 : decode cX6_goBack 28 = .ok (.sipush 680, 3) := by decide +kernel
theorem dX6_goBack_31 : decode cX6_goBack 31 = .ok (.bipush 40, 2) := by decide +kernel
theorem dX6_goBack_33 : decode cX6_goBack 33 = .ok (.iload_n 1, 1) := by decide +kernel
theorem dX6_goBack_34 : decode cX6_goBack 34 = .ok (.imul, 1) := by decide +kernel
theorem dX6_goBack_35 : decode cX6_goBack 35 = .ok (.iadd, 1) := by decide +kernel
theorem dX6_goBack_36 : decode cX6_goBack 36 = .ok (.iconst 0, 1) := by decide +kernel
theorem dX6_goBack_37 : decode cX6_goBack 37 = .ok (.invokevirtual 209, 3) := by decide +kernel
theorem dX6_goBack_40 : decode cX6_goBack 40 = .ok (.aload_n 0, 1) := by decide +kernel
theorem dX6_goBack_41 : decode cX6_goBack 41 = .ok (.aload_n 0, 1) := by decide +kernel
theorem dX6_goBack_42 : decode cX6_goBack 42 = .ok (.getfield 13, 3) := by decide +kernel
theorem dX6_goBack_45 : decode cX6_goBack 45 = .ok (.iload_n 1, 1) := by decide +kernel
theorem dX6_goBack_46 : decode cX6_goBack 46 = .ok (.iaload, 1) := by decide +kernel
theorem dX6_goBack_47 : decode cX6_goBack 47 = .ok (.putfield 156, 3) := by decide +kernel
theorem dX6_goBack_50 : decode cX6_goBack 50 = .ok (.aload_n 0, 1) := by decide +kernel
theorem dX6_goBack_51 : decode cX6_goBack 51 = .ok (.iconst 0, 1) := by decide +kernel
theorem dX6_goBack_52 : decode cX6_goBack 52 = .ok (.putfield 153, 3) := by decide +kernel
theorem dX6_goBack_55 : decode cX6_goBack 55 = .ok (.iconst 1, 1) := by decide +kernel
theorem dX6_goBack_56 : decode cX6_goBack 56 = .ok (.ireturn, 1) := by decide +kernel
theorem dJ9_floorMod_7cf53_0 : decode cJ9_floorMod_7cf53 0 = .ok (.iload_n 0, 1) := by decide +kernel
theorem dJ9_floorMod_7cf53_1 : decode cJ9_floorMod_7cf53 1 = .ok (.iload_n 1, 1) := by decide +kernel
theorem dJ9_floorMod_7cf53_2 : decode cJ9_floorMod_7cf53 2 = .ok (.irem, 1) := by decide +kernel
theorem dJ9_floorMod_7cf53_3 : decode cJ9_floorMod_7cf53 3 = .ok (.istore_n 2, 1) := by decide +kernel
theorem dJ9_floorMod_7cf53_4 : decode cJ9_floorMod_7cf53 4 = .ok (.iload_n 0, 1) := by decide +kernel
theorem dJ9_floorMod_7cf53_5 : decode cJ9_floorMod_7cf53 5 = .ok (.iload_n 1, 1) := by decide +kernel
theorem dJ9_floorMod_7cf53_6 : decode cJ9_floorMod_7cf53 6 = .ok (.ixor, 1) := by decide +kernel
theorem dJ9_floorMod_7cf53_7 : decode cJ9_floorMod_7cf53 7 = .ok (.ifCond .ge 11, 3) := by decide +kernel
theorem dJ9_floorMod_7cf53_10 : decode cJ9_floorMod_7cf53 10 = .ok (.iload_n 2, 1) := by decide +kernel
theorem dJ9_floorMod_7cf53_11 : decode cJ9_floorMod_7cf53 11 = .ok (.ifCond .eq 7, 3) := by decide +kernel
theorem dJ9_floorMod_7cf53_14 : decode cJ9_floorMod_7cf53 14 = .ok (.iload_n 2, 1) := by decide +kernel
theorem dJ9_floorMod_7cf53_15 : decode cJ9_floorMod_7cf53 15 = .ok (.iload_n 1, 1) := by decide +kernel
theorem dJ9_floorMod_7cf53_16 : decode cJ9_floorMod_7cf53 16 = .ok (.iadd, 1) := by decide +kernel
theorem dJ9_floorMod_7cf53_17 : decode cJ9_floorMod_7cf53 17 = .ok (.ireturn, 1) := by decide +kernel
theorem dJ9_floorMod_7cf53_18 : decode cJ9_floorMod_7cf53 18 = .ok (.iload_n 2, 1) := by decide +kernel
theorem dJ9_floorMod_7cf53_19 : decode cJ9_floorMod_7cf53 19 = .ok (.ireturn, 1) := by decide +kernel
theorem dJ9_abs_0f7a4_0 : decode cJ9_abs_0f7a4 0 = .ok (.iload_n 0, 1) := by decide +kernel
theorem dJ9_abs_0f7a4_1 : decode cJ9_abs_0f7a4 1 = .ok (.ifCond .ge 8, 3) := by decide +kernel
theorem dJ9_abs_0f7a4_4 : decode cJ9_abs_0f7a4 4 = .ok (.iload_n 0, 1) := by decide +kernel
theorem dJ9_abs_0f7a4_5 : decode cJ9_abs_0f7a4 5 = .ok (.ineg, 1) := by decide +kernel
theorem dJ9_abs_0f7a4_6 : decode cJ9_abs_0f7a4 6 = .ok (.goto 4, 3) := by decide +kernel
theorem dJ9_abs_0f7a4_9 : decode cJ9_abs_0f7a4 9 = .ok (.iload_n 0, 1) := by decide +kernel
theorem dJ9_abs_0f7a4_10 : decode cJ9_abs_0f7a4 10 = .ok (.ireturn, 1) := by decide +kernel
theorem dJ9_abs_067f4_0 : decode cJ9_abs_067f4 0 = .ok (.lload_n 0, 1) := by decide +kernel
theorem dJ9_abs_067f4_1 : decode cJ9_abs_067f4 1 = .ok (.lconst 0, 1) := by decide +kernel
theorem dJ9_abs_067f4_2 : decode cJ9_abs_067f4 2 = .ok (.lcmp, 1) := by decide +kernel
theorem dJ9_abs_067f4_3 : decode cJ9_abs_067f4 3 = .ok (.ifCond .ge 8, 3) := by decide +kernel
theorem dJ9_abs_067f4_6 : decode cJ9_abs_067f4 6 = .ok (.lload_n 0, 1) := by decide +kernel
theorem dJ9_abs_067f4_7 : decode cJ9_abs_067f4 7 = .ok (.lneg, 1) := by decide +kernel
theorem dJ9_abs_067f4_8 : decode cJ9_abs_067f4 8 = .ok (.goto 4, 3) := by decide +kernel
theorem dJ9_abs_067f4_11 : decode cJ9_abs_067f4 11 = .ok (.lload_n 0, 1) := by decide +kernel
theorem dJ9_abs_067f4_12 : decode cJ9_abs_067f4 12 = .ok (.lreturn, 1) := by decide +kernel
theorem dJ9_max_7cf53_0 : decode cJ9_max_7cf53 0 = .ok (.iload_n 0, 1) := by decide +kernel
theorem dJ9_max_7cf53_1 : decode cJ9_max_7cf53 1 = .ok (.iload_n 1, 1) := by decide +kernel
theorem dJ9_max_7cf53_2 : decode cJ9_max_7cf53 2 = .ok (.if_icmp .lt 7, 3) := by decide +kernel
theorem dJ9_max_7cf53_5 : decode cJ9_max_7cf53 5 = .ok (.iload_n 0, 1) := by decide +kernel
theorem dJ9_max_7cf53_6 : decode cJ9_max_7cf53 6 = .ok (.goto 4, 3) := by decide +kernel
theorem dJ9_max_7cf53_9 : decode cJ9_max_7cf53 9 = .ok (.iload_n 1, 1) := by decide +kernel
theorem dJ9_max_7cf53_10 : decode cJ9_max_7cf53 10 = .ok (.ireturn, 1) := by decide +kernel
theorem dJ9_min_7cf53_0 : decode cJ9_min_7cf53 0 = .ok (.iload_n 0, 1) := by decide +kernel
theorem dJ9_min_7cf53_1 : decode cJ9_min_7cf53 1 = .ok (.iload_n 1, 1) := by decide +kernel
theorem dJ9_min_7cf53_2 : decode cJ9_min_7cf53 2 = .ok (.if_icmp .gt 7, 3) := by decide +kernel
theorem dJ9_min_7cf53_5 : decode cJ9_min_7cf53 5 = .ok (.iload_n 0, 1) := by decide +kernel
theorem dJ9_min_7cf53_6 : decode cJ9_min_7cf53 6 = .ok (.goto 4, 3) := by decide +kernel
theorem dJ9_min_7cf53_9 : decode cJ9_min_7cf53 9 = .ok (.iload_n 1, 1) := by decide +kernel
theorem dJ9_min_7cf53_10 : decode cJ9_min_7cf53 10 = .ok (.ireturn, 1) := by decide +kernel
theorem dL_law_0 : decode cL_law 0 = .ok (.new 7, 3) := by decide +kernel
theorem dL_law_3 : decode cL_law 3 = .ok (.dup, 1) := by decide +kernel
theorem dL_law_4 : decode cL_law 4 = .ok (.invokespecial 9, 3) := by decide +kernel
theorem dL_law_7 : decode cL_law 7 = .ok (.astore_n 1, 1) := by decide +kernel
theorem dL_law_8 : decode cL_law 8 = .ok (.new 10, 3) := by decide +kernel
theorem dL_law_11 : decode cL_law 11 = .ok (.dup, 1) := by decide +kernel
theorem dL_law_12 : decode cL_law 12 = .ok (.invokespecial 12, 3) := by decide +kernel
theorem dL_law_15 : decode cL_law 15 = .ok (.astore_n 2, 1) := by decide +kernel
theorem dL_law_16 : decode cL_law 16 = .ok (.iconst 0, 1) := by decide +kernel
theorem dL_law_17 : decode cL_law 17 = .ok (.istore_n 3, 1) := by decide +kernel
theorem dL_law_18 : decode cL_law 18 = .ok (.iload_n 3, 1) := by decide +kernel
theorem dL_law_19 : decode cL_law 19 = .ok (.aload_n 0, 1) := by decide +kernel
theorem dL_law_20 : decode cL_law 20 = .ok (.arraylength, 1) := by decide +kernel
theorem dL_law_21 : decode cL_law 21 = .ok (.bipush 6, 2) := by decide +kernel
theorem dL_law_23 : decode cL_law 23 = .ok (.isub, 1) := by decide +kernel
theorem dL_law_24 : decode cL_law 24 = .ok (.if_icmp .gt 915, 3) := by decide +kernel
theorem dL_law_27 : decode cL_law 27 = .ok (.aload_n 0, 1) := by decide +kernel
theorem dL_law_28 : decode cL_law 28 = .ok (.iload_n 3, 1) := by decide +kernel
theorem dL_law_29 : decode cL_law 29 = .ok (.iaload, 1) := by decide +kernel
theorem dL_law_30 : decode cL_law 30 = .ok (.bipush 31, 2) := by decide +kernel
theorem dL_law_32 : decode cL_law 32 = .ok (.iand, 1) := by decide +kernel
theorem dL_law_33 : decode cL_law 33 = .ok (.tableswitch 900 0 22 #[107, 130, 163, 186, 229, 272, 316, 370, 414, 448, 501, 544, 567, 600, 663, 706, 729, 752, 775, 818, 831, 854, 877], 107) := by decide +kernel
theorem dL_law_140 : decode cL_law 140 = .ok (.aload_n 1, 1) := by decide +kernel
theorem dL_law_141 : decode cL_law 141 = .ok (.aload_n 0, 1) := by decide +kernel
theorem dL_law_142 : decode cL_law 142 = .ok (.iload_n 3, 1) := by decide +kernel
theorem dL_law_143 : decode cL_law 143 = .ok (.iconst 1, 1) := by decide +kernel
theorem dL_law_144 : decode cL_law 144 = .ok (.iadd, 1) := by decide +kernel
theorem dL_law_145 : decode cL_law 145 = .ok (.iaload, 1) := by decide +kernel
theorem dL_law_146 : decode cL_law 146 = .ok (.invokevirtual 13, 3) := by decide +kernel
theorem dL_law_149 : decode cL_law 149 = .ok (.aload_n 2, 1) := by decide +kernel
theorem dL_law_150 : decode cL_law 150 = .ok (.aload_n 0, 1) := by decide +kernel
theorem dL_law_151 : decode cL_law 151 = .ok (.iload_n 3, 1) := by decide +kernel
theorem dL_law_152 : decode cL_law 152 = .ok (.iconst 1, 1) := by decide +kernel
theorem dL_law_153 : decode cL_law 153 = .ok (.iadd, 1) := by decide +kernel
theorem dL_law_154 : decode cL_law 154 = .ok (.iaload, 1) := by decide +kernel
theorem dL_law_155 : decode cL_law 155 = .ok (.invokevirtual 17, 3) := by decide +kernel
theorem dL_law_158 : decode cL_law 158 = .ok (.if_icmp .eq 775, 3) := by decide +kernel
theorem dL_law_161 : decode cL_law 161 = .ok (.iconst 0, 1) := by decide +kernel
theorem dL_law_162 : decode cL_law 162 = .ok (.ireturn, 1) := by decide +kernel
theorem dL_law_163 : decode cL_law 163 = .ok (.aload_n 1, 1) := by decide +kernel
theorem dL_law_164 : decode cL_law 164 = .ok (.aload_n 0, 1) := by decide +kernel
theorem dL_law_165 : decode cL_law 165 = .ok (.iload_n 3, 1) := by decide +kernel
theorem dL_law_166 : decode cL_law 166 = .ok (.iconst 1, 1) := by decide +kernel
theorem dL_law_167 : decode cL_law 167 = .ok (.iadd, 1) := by decide +kernel
theorem dL_law_168 : decode cL_law 168 = .ok (.iaload, 1) := by decide +kernel
theorem dL_law_169 : decode cL_law 169 = .ok (.aload_n 0, 1) := by decide +kernel
theorem dL_law_170 : decode cL_law 170 = .ok (.iload_n 3, 1) := by decide +kernel
theorem dL_law_171 : decode cL_law 171 = .ok (.iconst 2, 1) := by decide +kernel
theorem dL_law_172 : decode cL_law 172 = .ok (.iadd, 1) := by decide +kernel
theorem dL_law_173 : decode cL_law 173 = .ok (.iaload, 1) := by decide +kernel
theorem dL_law_174 : decode cL_law 174 = .ok (.invokevirtual 18, 3) := by decide +kernel
theorem dL_law_177 : decode cL_law 177 = .ok (.aload_n 2, 1) := by decide +kernel
theorem dL_law_178 : decode cL_law 178 = .ok (.aload_n 0, 1) := by decide +kernel
theorem dL_law_179 : decode cL_law 179 = .ok (.iload_n 3, 1) := by decide +kernel
theorem dL_law_180 : decode cL_law 180 = .ok (.iconst 1, 1) := by decide +kernel
theorem dL_law_181 : decode cL_law 181 = .ok (.iadd, 1) := by decide +kernel
theorem dL_law_182 : decode cL_law 182 = .ok (.iaload, 1) := by decide +kernel
theorem dL_law_183 : decode cL_law 183 = .ok (.aload_n 0, 1) := by decide +kernel
theorem dL_law_184 : decode cL_law 184 = .ok (.iload_n 3, 1) := by decide +kernel
theorem dL_law_185 : decode cL_law 185 = .ok (.iconst 2, 1) := by decide +kernel
theorem dL_law_186 : decode cL_law 186 = .ok (.iadd, 1) := by decide +kernel
theorem dL_law_187 : decode cL_law 187 = .ok (.iaload, 1) := by decide +kernel
theorem dL_law_188 : decode cL_law 188 = .ok (.invokevirtual 22, 3) := by decide +kernel
theorem dL_law_191 : decode cL_law 191 = .ok (.if_icmp .eq 742, 3) := by decide +kernel
theorem dL_law_194 : decode cL_law 194 = .ok (.iconst 0, 1) := by decide +kernel
theorem dL_law_195 : decode cL_law 195 = .ok (.ireturn, 1) := by decide +kernel
theorem dL_law_196 : decode cL_law 196 = .ok (.aload_n 1, 1) := by decide +kernel
theorem dL_law_197 : decode cL_law 197 = .ok (.aload_n 0, 1) := by decide +kernel
theorem dL_law_198 : decode cL_law 198 = .ok (.iload_n 3, 1) := by decide +kernel
theorem dL_law_199 : decode cL_law 199 = .ok (.iconst 1, 1) := by decide +kernel
theorem dL_law_200 : decode cL_law 200 = .ok (.iadd, 1) := by decide +kernel
theorem dL_law_201 : decode cL_law 201 = .ok (.iaload, 1) := by decide +kernel
theorem dL_law_202 : decode cL_law 202 = .ok (.invokevirtual 23, 3) := by decide +kernel
theorem dL_law_205 : decode cL_law 205 = .ok (.aload_n 2, 1) := by decide +kernel
theorem dL_law_206 : decode cL_law 206 = .ok (.aload_n 0, 1) := by decide +kernel
theorem dL_law_207 : decode cL_law 207 = .ok (.iload_n 3, 1) := by decide +kernel
theorem dL_law_208 : decode cL_law 208 = .ok (.iconst 1, 1) := by decide +kernel
theorem dL_law_209 : decode cL_law 209 = .ok (.iadd, 1) := by decide +kernel
theorem dL_law_210 : decode cL_law 210 = .ok (.iaload, 1) := by decide +kernel
theorem dL_law_211 : decode cL_law 211 = .ok (.invokevirtual 26, 3) := by decide +kernel
theorem dL_law_214 : decode cL_law 214 = .ok (.if_icmp .eq 719, 3) := by decide +kernel
theorem dL_law_217 : decode cL_law 217 = .ok (.iconst 0, 1) := by decide +kernel
theorem dL_law_218 : decode cL_law 218 = .ok (.ireturn, 1) := by decide +kernel
theorem dL_law_219 : decode cL_law 219 = .ok (.aload_n 1, 1) := by decide +kernel
theorem dL_law_220 : decode cL_law 220 = .ok (.aload_n 0, 1) := by decide +kernel
theorem dL_law_221 : decode cL_law 221 = .ok (.iload_n 3, 1) := by decide +kernel
theorem dL_law_222 : decode cL_law 222 = .ok (.iconst 1, 1) := by decide +kernel
theorem dL_law_223 : decode cL_law 223 = .ok (.iadd, 1) := by decide +kernel
theorem dL_law_224 : decode cL_law 224 = .ok (.iaload, 1) := by decide +kernel
theorem dL_law_225 : decode cL_law 225 = .ok (.aload_n 0, 1) := by decide +kernel
theorem dL_law_226 : decode cL_law 226 = .ok (.iload_n 3, 1) := by decide +kernel
theorem dL_law_227 : decode cL_law 227 = .ok (.iconst 2, 1) := by decide +kernel
theorem dL_law_228 : decode cL_law 228 = .ok (.iadd, 1) := by decide +kernel
theorem dL_law_229 : decode cL_law 229 = .ok (.iaload, 1) := by decide +kernel
theorem dL_law_230 : decode cL_law 230 = .ok (.aload_n 0, 1) := by decide +kernel
theorem dL_law_231 : decode cL_law 231 = .ok (.iload_n 3, 1) := by decide +kernel
theorem dL_law_232 : decode cL_law 232 = .ok (.iconst 3, 1) := by decide +kernel
theorem dL_law_233 : decode cL_law 233 = .ok (.iadd, 1) := by decide +kernel
theorem dL_law_234 : decode cL_law 234 = .ok (.iaload, 1) := by decide +kernel
theorem dL_law_235 : decode cL_law 235 = .ok (.invokevirtual 27, 3) := by decide +kernel
theorem dL_law_238 : decode cL_law 238 = .ok (.aload_n 2, 1) := by decide +kernel
theorem dL_law_239 : decode cL_law 239 = .ok (.aload_n 0, 1) := by decide +kernel
theorem dL_law_240 : decode cL_law 240 = .ok (.iload_n 3, 1) := by decide +kernel
theorem dL_law_241 : decode cL_law 241 = .ok (.iconst 1, 1) := by decide +kernel
theorem dL_law_242 : decode cL_law 242 = .ok (.iadd, 1) := by decide +kernel
theorem dL_law_243 : decode cL_law 243 = .ok (.iaload, 1) := by decide +kernel
theorem dL_law_244 : decode cL_law 244 = .ok (.aload_n 0, 1) := by decide +kernel
theorem dL_law_245 : decode cL_law 245 = .ok (.iload_n 3, 1) := by decide +kernel
theorem dL_law_246 : decode cL_law 246 = .ok (.iconst 2, 1) := by decide +kernel
theorem dL_law_247 : decode cL_law 247 = .ok (.iadd, 1) := by decide +kernel
theorem dL_law_248 : decode cL_law 248 = .ok (.iaload, 1) := by decide +kernel
theorem dL_law_249 : decode cL_law 249 = .ok (.aload_n 0, 1) := by decide +kernel
theorem dL_law_250 : decode cL_law 250 = .ok (.iload_n 3, 1) := by decide +kernel
theorem dL_law_251 : decode cL_law 251 = .ok (.iconst 3, 1) := by decide +kernel
theorem dL_law_252 : decode cL_law 252 = .ok (.iadd, 1) := by decide +kernel
theorem dL_law_253 : decode cL_law 253 = .ok (.iaload, 1) := by decide +kernel
theorem dL_law_254 : decode cL_law 254 = .ok (.invokevirtual 31, 3) := by decide +kernel
theorem dL_law_257 : decode cL_law 257 = .ok (.if_icmp .eq 676, 3) := by decide +kernel
theorem dL_law_260 : decode cL_law 260 = .ok (.iconst 0, 1) := by decide +kernel
theorem dL_law_261 : decode cL_law 261 = .ok (.ireturn, 1) := by decide +kernel
theorem dL_law_262 : decode cL_law 262 = .ok (.aload_n 1, 1) := by decide +kernel
theorem dL_law_263 : decode cL_law 263 = .ok (.aload_n 0, 1) := by decide +kernel
theorem dL_law_264 : decode cL_law 264 = .ok (.iload_n 3, 1) := by decide +kernel
theorem dL_law_265 : decode cL_law 265 = .ok (.iconst 1, 1) := by decide +kernel
theorem dL_law_266 : decode cL_law 266 = .ok (.iadd, 1) := by decide +kernel
theorem dL_law_267 : decode cL_law 267 = .ok (.iaload, 1) := by decide +kernel
theorem dL_law_268 : decode cL_law 268 = .ok (.aload_n 0, 1) := by decide +kernel
theorem dL_law_269 : decode cL_law 269 = .ok (.iload_n 3, 1) := by decide +kernel
theorem dL_law_270 : decode cL_law 270 = .ok (.iconst 2, 1) := by decide +kernel
theorem dL_law_271 : decode cL_law 271 = .ok (.iadd, 1) := by decide +kernel
theorem dL_law_272 : decode cL_law 272 = .ok (.iaload, 1) := by decide +kernel
theorem dL_law_273 : decode cL_law 273 = .ok (.aload_n 0, 1) := by decide +kernel
theorem dL_law_274 : decode cL_law 274 = .ok (.iload_n 3, 1) := by decide +kernel
theorem dL_law_275 : decode cL_law 275 = .ok (.iconst 3, 1) := by decide +kernel
theorem dL_law_276 : decode cL_law 276 = .ok (.iadd, 1) := by decide +kernel
theorem dL_law_277 : decode cL_law 277 = .ok (.iaload, 1) := by decide +kernel
theorem dL_law_278 : decode cL_law 278 = .ok (.invokevirtual 32, 3) := by decide +kernel
theorem dL_law_281 : decode cL_law 281 = .ok (.aload_n 2, 1) := by decide +kernel
theorem dL_law_282 : decode cL_law 282 = .ok (.aload_n 0, 1) := by decide +kernel
theorem dL_law_283 : decode cL_law 283 = .ok (.iload_n 3, 1) := by decide +kernel
theorem dL_law_284 : decode cL_law 284 = .ok (.iconst 1, 1) := by decide +kernel
theorem dL_law_285 : decode cL_law 285 = .ok (.iadd, 1) := by decide +kernel
theorem dL_law_286 : decode cL_law 286 = .ok (.iaload, 1) := by decide +kernel
theorem dL_law_287 : decode cL_law 287 = .ok (.aload_n 0, 1) := by decide +kernel
theorem dL_law_288 : decode cL_law 288 = .ok (.iload_n 3, 1) := by decide +kernel
theorem dL_law_289 : decode cL_law 289 = .ok (.iconst 2, 1) := by decide +kernel
theorem dL_law_290 : decode cL_law 290 = .ok (.iadd, 1) := by decide +kernel
theorem dL_law_291 : decode cL_law 291 = .ok (.iaload, 1) := by decide +kernel
theorem dL_law_292 : decode cL_law 292 = .ok (.aload_n 0, 1) := by decide +kernel
theorem dL_law_293 : decode cL_law 293 = .ok (.iload_n 3, 1) := by decide +kernel
theorem dL_law_294 : decode cL_law 294 = .ok (.iconst 3, 1) := by decide +kernel
theorem dL_law_295 : decode cL_law 295 = .ok (.iadd, 1) := by decide +kernel
theorem dL_law_296 : decode cL_law 296 = .ok (.iaload, 1) := by decide +kernel
theorem dL_law_297 : decode cL_law 297 = .ok (.invokevirtual 35, 3) := by decide +kernel
theorem dL_law_300 : decode cL_law 300 = .ok (.if_icmp .eq 633, 3) := by decide +kernel
theorem dL_law_303 : decode cL_law 303 = .ok (.iconst 0, 1) := by decide +kernel
theorem dL_law_304 : decode cL_law 304 = .ok (.ireturn, 1) := by decide +kernel
theorem dL_law_305 : decode cL_law 305 = .ok (.aload_n 1, 1) := by decide +kernel
theorem dL_law_306 : decode cL_law 306 = .ok (.aload_n 0, 1) := by decide +kernel
theorem dL_law_307 : decode cL_law 307 = .ok (.iload_n 3, 1) := by decide +kernel
theorem dL_law_308 : decode cL_law 308 = .ok (.iconst 1, 1) := by decide +kernel
theorem dL_law_309 : decode cL_law 309 = .ok (.iadd, 1) := by decide +kernel
theorem dL_law_310 : decode cL_law 310 = .ok (.iaload, 1) := by decide +kernel
theorem dL_law_311 : decode cL_law 311 = .ok (.aload_n 0, 1) := by decide +kernel
theorem dL_law_312 : decode cL_law 312 = .ok (.iload_n 3, 1) := by decide +kernel
theorem dL_law_313 : decode cL_law 313 = .ok (.iconst 2, 1) := by decide +kernel
theorem dL_law_314 : decode cL_law 314 = .ok (.iadd, 1) := by decide +kernel
theorem dL_law_315 : decode cL_law 315 = .ok (.iaload, 1) := by decide +kernel
theorem dL_law_316 : decode cL_law 316 = .ok (.aload_n 0, 1) := by decide +kernel
theorem dL_law_317 : decode cL_law 317 = .ok (.iload_n 3, 1) := by decide +kernel
theorem dL_law_318 : decode cL_law 318 = .ok (.iconst 3, 1) := by decide +kernel
theorem dL_law_319 : decode cL_law 319 = .ok (.iadd, 1) := by decide +kernel
theorem dL_law_320 : decode cL_law 320 = .ok (.iaload, 1) := by decide +kernel
theorem dL_law_321 : decode cL_law 321 = .ok (.invokevirtual 36, 3) := by decide +kernel
theorem dL_law_324 : decode cL_law 324 = .ok (.aload_n 2, 1) := by decide +kernel
theorem dL_law_325 : decode cL_law 325 = .ok (.aload_n 0, 1) := by decide +kernel
theorem dL_law_326 : decode cL_law 326 = .ok (.iload_n 3, 1) := by decide +kernel
theorem dL_law_327 : decode cL_law 327 = .ok (.iconst 1, 1) := by decide +kernel
theorem dL_law_328 : decode cL_law 328 = .ok (.iadd, 1) := by decide +kernel
theorem dL_law_329 : decode cL_law 329 = .ok (.iaload, 1) := by decide +kernel
theorem dL_law_330 : decode cL_law 330 = .ok (.aload_n 0, 1) := by decide +kernel
theorem dL_law_331 : decode cL_law 331 = .ok (.iload_n 3, 1) := by decide +kernel
theorem dL_law_332 : decode cL_law 332 = .ok (.iconst 2, 1) := by decide +kernel
theorem dL_law_333 : decode cL_law 333 = .ok (.iadd, 1) := by decide +kernel
theorem dL_law_334 : decode cL_law 334 = .ok (.iaload, 1) := by decide +kernel
theorem dL_law_335 : decode cL_law 335 = .ok (.aload_n 0, 1) := by decide +kernel
theorem dL_law_336 : decode cL_law 336 = .ok (.iload_n 3, 1) := by decide +kernel
theorem dL_law_337 : decode cL_law 337 = .ok (.iconst 3, 1) := by decide +kernel
theorem dL_law_338 : decode cL_law 338 = .ok (.iadd, 1) := by decide +kernel
theorem dL_law_339 : decode cL_law 339 = .ok (.iaload, 1) := by decide +kernel
theorem dL_law_340 : decode cL_law 340 = .ok (.invokevirtual 40, 3) := by decide +kernel
theorem dL_law_343 : decode cL_law 343 = .ok (.lcmp, 1) := by decide +kernel
theorem dL_law_344 : decode cL_law 344 = .ok (.ifCond .eq 589, 3) := by decide +kernel
theorem dL_law_347 : decode cL_law 347 = .ok (.iconst 0, 1) := by decide +kernel
theorem dL_law_348 : decode cL_law 348 = .ok (.ireturn, 1) := by decide +kernel
theorem dL_law_349 : decode cL_law 349 = .ok (.aload_n 1, 1) := by decide +kernel
theorem dL_law_350 : decode cL_law 350 = .ok (.aload_n 0, 1) := by decide +kernel
theorem dL_law_351 : decode cL_law 351 = .ok (.iload_n 3, 1) := by decide +kernel
theorem dL_law_352 : decode cL_law 352 = .ok (.iconst 1, 1) := by decide +kernel
theorem dL_law_353 : decode cL_law 353 = .ok (.iadd, 1) := by decide +kernel
theorem dL_law_354 : decode cL_law 354 = .ok (.iaload, 1) := by decide +kernel
theorem dL_law_355 : decode cL_law 355 = .ok (.aload_n 0, 1) := by decide +kernel
theorem dL_law_356 : decode cL_law 356 = .ok (.iload_n 3, 1) := by decide +kernel
theorem dL_law_357 : decode cL_law 357 = .ok (.iconst 2, 1) := by decide +kernel
theorem dL_law_358 : decode cL_law 358 = .ok (.iadd, 1) := by decide +kernel
theorem dL_law_359 : decode cL_law 359 = .ok (.iaload, 1) := by decide +kernel
theorem dL_law_360 : decode cL_law 360 = .ok (.aload_n 0, 1) := by decide +kernel
theorem dL_law_361 : decode cL_law 361 = .ok (.iload_n 3, 1) := by decide +kernel
theorem dL_law_362 : decode cL_law 362 = .ok (.iconst 3, 1) := by decide +kernel
theorem dL_law_363 : decode cL_law 363 = .ok (.iadd, 1) := by decide +kernel
theorem dL_law_364 : decode cL_law 364 = .ok (.iaload, 1) := by decide +kernel
theorem dL_law_365 : decode cL_law 365 = .ok (.aload_n 0, 1) := by decide +kernel
theorem dL_law_366 : decode cL_law 366 = .ok (.iload_n 3, 1) := by decide +kernel
theorem dL_law_367 : decode cL_law 367 = .ok (.iconst 4, 1) := by decide +kernel
theorem dL_law_368 : decode cL_law 368 = .ok (.iadd, 1) := by decide +kernel
theorem dL_law_369 : decode cL_law 369 = .ok (.iaload, 1) := by decide +kernel
theorem dL_law_370 : decode cL_law 370 = .ok (.invokevirtual 41, 3) := by decide +kernel
theorem dL_law_373 : decode cL_law 373 = .ok (.aload_n 2, 1) := by decide +kernel
theorem dL_law_374 : decode cL_law 374 = .ok (.aload_n 0, 1) := by decide +kernel
theorem dL_law_375 : decode cL_law 375 = .ok (.iload_n 3, 1) := by decide +kernel
theorem dL_law_376 : decode cL_law 376 = .ok (.iconst 1, 1) := by decide +kernel
theorem dL_law_377 : decode cL_law 377 = .ok (.iadd, 1) := by decide +kernel
theorem dL_law_378 : decode cL_law 378 = .ok (.iaload, 1) := by decide +kernel
theorem dL_law_379 : decode cL_law 379 = .ok (.aload_n 0, 1) := by decide +kernel
theorem dL_law_380 : decode cL_law 380 = .ok (.iload_n 3, 1) := by decide +kernel
theorem dL_law_381 : decode cL_law 381 = .ok (.iconst 2, 1) := by decide +kernel
theorem dL_law_382 : decode cL_law 382 = .ok (.iadd, 1) := by decide +kernel
theorem dL_law_383 : decode cL_law 383 = .ok (.iaload, 1) := by decide +kernel
theorem dL_law_384 : decode cL_law 384 = .ok (.aload_n 0, 1) := by decide +kernel
theorem dL_law_385 : decode cL_law 385 = .ok (.iload_n 3, 1) := by decide +kernel
theorem dL_law_386 : decode cL_law 386 = .ok (.iconst 3, 1) := by decide +kernel
theorem dL_law_387 : decode cL_law 387 = .ok (.iadd, 1) := by decide +kernel
theorem dL_law_388 : decode cL_law 388 = .ok (.iaload, 1) := by decide +kernel
theorem dL_law_389 : decode cL_law 389 = .ok (.aload_n 0, 1) := by decide +kernel
theorem dL_law_390 : decode cL_law 390 = .ok (.iload_n 3, 1) := by decide +kernel
theorem dL_law_391 : decode cL_law 391 = .ok (.iconst 4, 1) := by decide +kernel
theorem dL_law_392 : decode cL_law 392 = .ok (.iadd, 1) := by decide +kernel
theorem dL_law_393 : decode cL_law 393 = .ok (.iaload, 1) := by decide +kernel
theorem dL_law_394 : decode cL_law 394 = .ok (.invokevirtual 45, 3) := by decide +kernel
theorem dL_law_397 : decode cL_law 397 = .ok (.lcmp, 1) := by decide +kernel
theorem dL_law_398 : decode cL_law 398 = .ok (.ifCond .eq 535, 3) := by decide +kernel
theorem dL_law_401 : decode cL_law 401 = .ok (.iconst 0, 1) := by decide +kernel
theorem dL_law_402 : decode cL_law 402 = .ok (.ireturn, 1) := by decide +kernel
theorem dL_law_403 : decode cL_law 403 = .ok (.aload_n 1, 1) := by decide +kernel
theorem dL_law_404 : decode cL_law 404 = .ok (.aload_n 0, 1) := by decide +kernel
theorem dL_law_405 : decode cL_law 405 = .ok (.iload_n 3, 1) := by decide +kernel
theorem dL_law_406 : decode cL_law 406 = .ok (.iconst 1, 1) := by decide +kernel
theorem dL_law_407 : decode cL_law 407 = .ok (.iadd, 1) := by decide +kernel
theorem dL_law_408 : decode cL_law 408 = .ok (.iaload, 1) := by decide +kernel
theorem dL_law_409 : decode cL_law 409 = .ok (.aload_n 0, 1) := by decide +kernel
theorem dL_law_410 : decode cL_law 410 = .ok (.iload_n 3, 1) := by decide +kernel
theorem dL_law_411 : decode cL_law 411 = .ok (.iconst 2, 1) := by decide +kernel
theorem dL_law_412 : decode cL_law 412 = .ok (.iadd, 1) := by decide +kernel
theorem dL_law_413 : decode cL_law 413 = .ok (.iaload, 1) := by decide +kernel
theorem dL_law_414 : decode cL_law 414 = .ok (.aload_n 0, 1) := by decide +kernel
theorem dL_law_415 : decode cL_law 415 = .ok (.iload_n 3, 1) := by decide +kernel
theorem dL_law_416 : decode cL_law 416 = .ok (.iconst 3, 1) := by decide +kernel
theorem dL_law_417 : decode cL_law 417 = .ok (.iadd, 1) := by decide +kernel
theorem dL_law_418 : decode cL_law 418 = .ok (.iaload, 1) := by decide +kernel
theorem dL_law_419 : decode cL_law 419 = .ok (.invokevirtual 46, 3) := by decide +kernel
theorem dL_law_422 : decode cL_law 422 = .ok (.aload_n 2, 1) := by decide +kernel
theorem dL_law_423 : decode cL_law 423 = .ok (.aload_n 0, 1) := by decide +kernel
theorem dL_law_424 : decode cL_law 424 = .ok (.iload_n 3, 1) := by decide +kernel
theorem dL_law_425 : decode cL_law 425 = .ok (.iconst 1, 1) := by decide +kernel
theorem dL_law_426 : decode cL_law 426 = .ok (.iadd, 1) := by decide +kernel
theorem dL_law_427 : decode cL_law 427 = .ok (.iaload, 1) := by decide +kernel
theorem dL_law_428 : decode cL_law 428 = .ok (.aload_n 0, 1) := by decide +kernel
theorem dL_law_429 : decode cL_law 429 = .ok (.iload_n 3, 1) := by decide +kernel
theorem dL_law_430 : decode cL_law 430 = .ok (.iconst 2, 1) := by decide +kernel
theorem dL_law_431 : decode cL_law 431 = .ok (.iadd, 1) := by decide +kernel
theorem dL_law_432 : decode cL_law 432 = .ok (.iaload, 1) := by decide +kernel
theorem dL_law_433 : decode cL_law 433 = .ok (.aload_n 0, 1) := by decide +kernel
theorem dL_law_434 : decode cL_law 434 = .ok (.iload_n 3, 1) := by decide +kernel
theorem dL_law_435 : decode cL_law 435 = .ok (.iconst 3, 1) := by decide +kernel
theorem dL_law_436 : decode cL_law 436 = .ok (.iadd, 1) := by decide +kernel
theorem dL_law_437 : decode cL_law 437 = .ok (.iaload, 1) := by decide +kernel
theorem dL_law_438 : decode cL_law 438 = .ok (.invokevirtual 49, 3) := by decide +kernel
theorem dL_law_441 : decode cL_law 441 = .ok (.lcmp, 1) := by decide +kernel
theorem dL_law_442 : decode cL_law 442 = .ok (.ifCond .eq 491, 3) := by decide +kernel
theorem dL_law_445 : decode cL_law 445 = .ok (.iconst 0, 1) := by decide +kernel
theorem dL_law_446 : decode cL_law 446 = .ok (.ireturn, 1) := by decide +kernel
theorem dL_law_447 : decode cL_law 447 = .ok (.aload_n 1, 1) := by decide +kernel
theorem dL_law_448 : decode cL_law 448 = .ok (.aload_n 0, 1) := by decide +kernel
theorem dL_law_449 : decode cL_law 449 = .ok (.iload_n 3, 1) := by decide +kernel
theorem dL_law_450 : decode cL_law 450 = .ok (.iconst 1, 1) := by decide +kernel
theorem dL_law_451 : decode cL_law 451 = .ok (.iadd, 1) := by decide +kernel
theorem dL_law_452 : decode cL_law 452 = .ok (.iaload, 1) := by decide +kernel
theorem dL_law_453 : decode cL_law 453 = .ok (.aload_n 0, 1) := by decide +kernel
theorem dL_law_454 : decode cL_law 454 = .ok (.iload_n 3, 1) := by decide +kernel
theorem dL_law_455 : decode cL_law 455 = .ok (.iconst 2, 1) := by decide +kernel
theorem dL_law_456 : decode cL_law 456 = .ok (.iadd, 1) := by decide +kernel
theorem dL_law_457 : decode cL_law 457 = .ok (.iaload, 1) := by decide +kernel
theorem dL_law_458 : decode cL_law 458 = .ok (.invokevirtual 50, 3) := by decide +kernel
theorem dL_law_461 : decode cL_law 461 = .ok (.aload_n 2, 1) := by decide +kernel
theorem dL_law_462 : decode cL_law 462 = .ok (.aload_n 0, 1) := by decide +kernel
theorem dL_law_463 : decode cL_law 463 = .ok (.iload_n 3, 1) := by decide +kernel
theorem dL_law_464 : decode cL_law 464 = .ok (.iconst 1, 1) := by decide +kernel
theorem dL_law_465 : decode cL_law 465 = .ok (.iadd, 1) := by decide +kernel
theorem dL_law_466 : decode cL_law 466 = .ok (.iaload, 1) := by decide +kernel
theorem dL_law_467 : decode cL_law 467 = .ok (.aload_n 0, 1) := by decide +kernel
theorem dL_law_468 : decode cL_law 468 = .ok (.iload_n 3, 1) := by decide +kernel
theorem dL_law_469 : decode cL_law 469 = .ok (.iconst 2, 1) := by decide +kernel
theorem dL_law_470 : decode cL_law 470 = .ok (.iadd, 1) := by decide +kernel
theorem dL_law_471 : decode cL_law 471 = .ok (.iaload, 1) := by decide +kernel
theorem dL_law_472 : decode cL_law 472 = .ok (.invokevirtual 54, 3) := by decide +kernel
theorem dL_law_475 : decode cL_law 475 = .ok (.lcmp, 1) := by decide +kernel
theorem dL_law_476 : decode cL_law 476 = .ok (.ifCond .eq 457, 3) := by decide +kernel
theorem dL_law_479 : decode cL_law 479 = .ok (.iconst 0, 1) := by decide +kernel
theorem dL_law_480 : decode cL_law 480 = .ok (.ireturn, 1) := by decide +kernel
theorem dL_law_481 : decode cL_law 481 = .ok (.aload_n 1, 1) := by decide +kernel
theorem dL_law_482 : decode cL_law 482 = .ok (.aload_n 0, 1) := by decide +kernel
theorem dL_law_483 : decode cL_law 483 = .ok (.iload_n 3, 1) := by decide +kernel
theorem dL_law_484 : decode cL_law 484 = .ok (.iconst 1, 1) := by decide +kernel
theorem dL_law_485 : decode cL_law 485 = .ok (.iadd, 1) := by decide +kernel
theorem dL_law_486 : decode cL_law 486 = .ok (.iaload, 1) := by decide +kernel
theorem dL_law_487 : decode cL_law 487 = .ok (.aload_n 0, 1) := by decide +kernel
theorem dL_law_488 : decode cL_law 488 = .ok (.iload_n 3, 1) := by decide +kernel
theorem dL_law_489 : decode cL_law 489 = .ok (.iconst 2, 1) := by decide +kernel
theorem dL_law_490 : decode cL_law 490 = .ok (.iadd, 1) := by decide +kernel
theorem dL_law_491 : decode cL_law 491 = .ok (.iaload, 1) := by decide +kernel
theorem dL_law_492 : decode cL_law 492 = .ok (.aload_n 0, 1) := by decide +kernel
theorem dL_law_493 : decode cL_law 493 = .ok (.iload_n 3, 1) := by decide +kernel
theorem dL_law_494 : decode cL_law 494 = .ok (.iconst 3, 1) := by decide +kernel
theorem dL_law_495 : decode cL_law 495 = .ok (.iadd, 1) := by decide +kernel
theorem dL_law_496 : decode cL_law 496 = .ok (.iaload, 1) := by decide +kernel
theorem dL_law_497 : decode cL_law 497 = .ok (.aload_n 0, 1) := by decide +kernel
theorem dL_law_498 : decode cL_law 498 = .ok (.iload_n 3, 1) := by decide +kernel
theorem dL_law_499 : decode cL_law 499 = .ok (.iconst 4, 1) := by decide +kernel
theorem dL_law_500 : decode cL_law 500 = .ok (.iadd, 1) := by decide +kernel
theorem dL_law_501 : decode cL_law 501 = .ok (.iaload, 1) := by decide +kernel
theorem dL_law_502 : decode cL_law 502 = .ok (.invokevirtual 55, 3) := by decide +kernel
theorem dL_law_505 : decode cL_law 505 = .ok (.aload_n 2, 1) := by decide +kernel
theorem dL_law_506 : decode cL_law 506 = .ok (.aload_n 0, 1) := by decide +kernel
theorem dL_law_507 : decode cL_law 507 = .ok (.iload_n 3, 1) := by decide +kernel
theorem dL_law_508 : decode cL_law 508 = .ok (.iconst 1, 1) := by decide +kernel
theorem dL_law_509 : decode cL_law 509 = .ok (.iadd, 1) := by decide +kernel
theorem dL_law_510 : decode cL_law 510 = .ok (.iaload, 1) := by decide +kernel
theorem dL_law_511 : decode cL_law 511 = .ok (.aload_n 0, 1) := by decide +kernel
theorem dL_law_512 : decode cL_law 512 = .ok (.iload_n 3, 1) := by decide +kernel
theorem dL_law_513 : decode cL_law 513 = .ok (.iconst 2, 1) := by decide +kernel
theorem dL_law_514 : decode cL_law 514 = .ok (.iadd, 1) := by decide +kernel
theorem dL_law_515 : decode cL_law 515 = .ok (.iaload, 1) := by decide +kernel
theorem dL_law_516 : decode cL_law 516 = .ok (.aload_n 0, 1) := by decide +kernel
theorem dL_law_517 : decode cL_law 517 = .ok (.iload_n 3, 1) := by decide +kernel
theorem dL_law_518 : decode cL_law 518 = .ok (.iconst 3, 1) := by decide +kernel
theorem dL_law_519 : decode cL_law 519 = .ok (.iadd, 1) := by decide +kernel
theorem dL_law_520 : decode cL_law 520 = .ok (.iaload, 1) := by decide +kernel
theorem dL_law_521 : decode cL_law 521 = .ok (.aload_n 0, 1) := by decide +kernel
theorem dL_law_522 : decode cL_law 522 = .ok (.iload_n 3, 1) := by decide +kernel
theorem dL_law_523 : decode cL_law 523 = .ok (.iconst 4, 1) := by decide +kernel
theorem dL_law_524 : decode cL_law 524 = .ok (.iadd, 1) := by decide +kernel
theorem dL_law_525 : decode cL_law 525 = .ok (.iaload, 1) := by decide +kernel
theorem dL_law_526 : decode cL_law 526 = .ok (.invokevirtual 59, 3) := by decide +kernel
theorem dL_law_529 : decode cL_law 529 = .ok (.if_icmp .eq 404, 3) := by decide +kernel
theorem dL_law_532 : decode cL_law 532 = .ok (.iconst 0, 1) := by decide +kernel
theorem dL_law_533 : decode cL_law 533 = .ok (.ireturn, 1) := by decide +kernel
theorem dL_law_534 : decode cL_law 534 = .ok (.aload_n 1, 1) := by decide +kernel
theorem dL_law_535 : decode cL_law 535 = .ok (.aload_n 0, 1) := by decide +kernel
theorem dL_law_536 : decode cL_law 536 = .ok (.iload_n 3, 1) := by decide +kernel
theorem dL_law_537 : decode cL_law 537 = .ok (.iconst 1, 1) := by decide +kernel
theorem dL_law_538 : decode cL_law 538 = .ok (.iadd, 1) := by decide +kernel
theorem dL_law_539 : decode cL_law 539 = .ok (.iaload, 1) := by decide +kernel
theorem dL_law_540 : decode cL_law 540 = .ok (.aload_n 0, 1) := by decide +kernel
theorem dL_law_541 : decode cL_law 541 = .ok (.iload_n 3, 1) := by decide +kernel
theorem dL_law_542 : decode cL_law 542 = .ok (.iconst 2, 1) := by decide +kernel
theorem dL_law_543 : decode cL_law 543 = .ok (.iadd, 1) := by decide +kernel
theorem dL_law_544 : decode cL_law 544 = .ok (.iaload, 1) := by decide +kernel
theorem dL_law_545 : decode cL_law 545 = .ok (.aload_n 0, 1) := by decide +kernel
theorem dL_law_546 : decode cL_law 546 = .ok (.iload_n 3, 1) := by decide +kernel
theorem dL_law_547 : decode cL_law 547 = .ok (.iconst 3, 1) := by decide +kernel
theorem dL_law_548 : decode cL_law 548 = .ok (.iadd, 1) := by decide +kernel
theorem dL_law_549 : decode cL_law 549 = .ok (.iaload, 1) := by decide +kernel
theorem dL_law_550 : decode cL_law 550 = .ok (.invokevirtual 60, 3) := by decide +kernel
theorem dL_law_553 : decode cL_law 553 = .ok (.aload_n 2, 1) := by decide +kernel
theorem dL_law_554 : decode cL_law 554 = .ok (.aload_n 0, 1) := by decide +kernel
theorem dL_law_555 : decode cL_law 555 = .ok (.iload_n 3, 1) := by decide +kernel
theorem dL_law_556 : decode cL_law 556 = .ok (.iconst 1, 1) := by decide +kernel
theorem dL_law_557 : decode cL_law 557 = .ok (.iadd, 1) := by decide +kernel
theorem dL_law_558 : decode cL_law 558 = .ok (.iaload, 1) := by decide +kernel
theorem dL_law_559 : decode cL_law 559 = .ok (.aload_n 0, 1) := by decide +kernel
theorem dL_law_560 : decode cL_law 560 = .ok (.iload_n 3, 1) := by decide +kernel
theorem dL_law_561 : decode cL_law 561 = .ok (.iconst 2, 1) := by decide +kernel
theorem dL_law_562 : decode cL_law 562 = .ok (.iadd, 1) := by decide +kernel
theorem dL_law_563 : decode cL_law 563 = .ok (.iaload, 1) := by decide +kernel
theorem dL_law_564 : decode cL_law 564 = .ok (.aload_n 0, 1) := by decide +kernel
theorem dL_law_565 : decode cL_law 565 = .ok (.iload_n 3, 1) := by decide +kernel
theorem dL_law_566 : decode cL_law 566 = .ok (.iconst 3, 1) := by decide +kernel
theorem dL_law_567 : decode cL_law 567 = .ok (.iadd, 1) := by decide +kernel
theorem dL_law_568 : decode cL_law 568 = .ok (.iaload, 1) := by decide +kernel
theorem dL_law_569 : decode cL_law 569 = .ok (.invokevirtual 63, 3) := by decide +kernel
theorem dL_law_572 : decode cL_law 572 = .ok (.if_icmp .eq 361, 3) := by decide +kernel
theorem dL_law_575 : decode cL_law 575 = .ok (.iconst 0, 1) := by decide +kernel
theorem dL_law_576 : decode cL_law 576 = .ok (.ireturn, 1) := by decide +kernel
theorem dL_law_577 : decode cL_law 577 = .ok (.aload_n 1, 1) := by decide +kernel
theorem dL_law_578 : decode cL_law 578 = .ok (.aload_n 0, 1) := by decide +kernel
theorem dL_law_579 : decode cL_law 579 = .ok (.iload_n 3, 1) := by decide +kernel
theorem dL_law_580 : decode cL_law 580 = .ok (.iconst 1, 1) := by decide +kernel
theorem dL_law_581 : decode cL_law 581 = .ok (.iadd, 1) := by decide +kernel
theorem dL_law_582 : decode cL_law 582 = .ok (.iaload, 1) := by decide +kernel
theorem dL_law_583 : decode cL_law 583 = .ok (.invokevirtual 64, 3) := by decide +kernel
theorem dL_law_586 : decode cL_law 586 = .ok (.aload_n 2, 1) := by decide +kernel
theorem dL_law_587 : decode cL_law 587 = .ok (.aload_n 0, 1) := by decide +kernel
theorem dL_law_588 : decode cL_law 588 = .ok (.iload_n 3, 1) := by decide +kernel
theorem dL_law_589 : decode cL_law 589 = .ok (.iconst 1, 1) := by decide +kernel
theorem dL_law_590 : decode cL_law 590 = .ok (.iadd, 1) := by decide +kernel
theorem dL_law_591 : decode cL_law 591 = .ok (.iaload, 1) := by decide +kernel
theorem dL_law_592 : decode cL_law 592 = .ok (.invokevirtual 67, 3) := by decide +kernel
theorem dL_law_595 : decode cL_law 595 = .ok (.if_icmp .eq 338, 3) := by decide +kernel
theorem dL_law_598 : decode cL_law 598 = .ok (.iconst 0, 1) := by decide +kernel
theorem dL_law_599 : decode cL_law 599 = .ok (.ireturn, 1) := by decide +kernel
theorem dL_law_600 : decode cL_law 600 = .ok (.aload_n 1, 1) := by decide +kernel
theorem dL_law_601 : decode cL_law 601 = .ok (.aload_n 0, 1) := by decide +kernel
theorem dL_law_602 : decode cL_law 602 = .ok (.iload_n 3, 1) := by decide +kernel
theorem dL_law_603 : decode cL_law 603 = .ok (.iconst 1, 1) := by decide +kernel
theorem dL_law_604 : decode cL_law 604 = .ok (.iadd, 1) := by decide +kernel
theorem dL_law_605 : decode cL_law 605 = .ok (.iaload, 1) := by decide +kernel
theorem dL_law_606 : decode cL_law 606 = .ok (.aload_n 0, 1) := by decide +kernel
theorem dL_law_607 : decode cL_law 607 = .ok (.iload_n 3, 1) := by decide +kernel
theorem dL_law_608 : decode cL_law 608 = .ok (.iconst 2, 1) := by decide +kernel
theorem dL_law_609 : decode cL_law 609 = .ok (.iadd, 1) := by decide +kernel
theorem dL_law_610 : decode cL_law 610 = .ok (.iaload, 1) := by decide +kernel
theorem dL_law_611 : decode cL_law 611 = .ok (.invokevirtual 68, 3) := by decide +kernel
theorem dL_law_614 : decode cL_law 614 = .ok (.aload_n 2, 1) := by decide +kernel
theorem dL_law_615 : decode cL_law 615 = .ok (.aload_n 0, 1) := by decide +kernel
theorem dL_law_616 : decode cL_law 616 = .ok (.iload_n 3, 1) := by decide +kernel
theorem dL_law_617 : decode cL_law 617 = .ok (.iconst 1, 1) := by decide +kernel
theorem dL_law_618 : decode cL_law 618 = .ok (.iadd, 1) := by decide +kernel
theorem dL_law_619 : decode cL_law 619 = .ok (.iaload, 1) := by decide +kernel
theorem dL_law_620 : decode cL_law 620 = .ok (.aload_n 0, 1) := by decide +kernel
theorem dL_law_621 : decode cL_law 621 = .ok (.iload_n 3, 1) := by decide +kernel
theorem dL_law_622 : decode cL_law 622 = .ok (.iconst 2, 1) := by decide +kernel
theorem dL_law_623 : decode cL_law 623 = .ok (.iadd, 1) := by decide +kernel
theorem dL_law_624 : decode cL_law 624 = .ok (.iaload, 1) := by decide +kernel
theorem dL_law_625 : decode cL_law 625 = .ok (.invokevirtual 71, 3) := by decide +kernel
theorem dL_law_628 : decode cL_law 628 = .ok (.if_icmp .eq 305, 3) := by decide +kernel
theorem dL_law_631 : decode cL_law 631 = .ok (.iconst 0, 1) := by decide +kernel
theorem dL_law_632 : decode cL_law 632 = .ok (.ireturn, 1) := by decide +kernel
theorem dL_law_633 : decode cL_law 633 = .ok (.aload_n 1, 1) := by decide +kernel
theorem dL_law_634 : decode cL_law 634 = .ok (.aload_n 0, 1) := by decide +kernel
theorem dL_law_635 : decode cL_law 635 = .ok (.iload_n 3, 1) := by decide +kernel
theorem dL_law_636 : decode cL_law 636 = .ok (.iconst 1, 1) := by decide +kernel
theorem dL_law_637 : decode cL_law 637 = .ok (.iadd, 1) := by decide +kernel
theorem dL_law_638 : decode cL_law 638 = .ok (.iaload, 1) := by decide +kernel
theorem dL_law_639 : decode cL_law 639 = .ok (.aload_n 0, 1) := by decide +kernel
theorem dL_law_640 : decode cL_law 640 = .ok (.iload_n 3, 1) := by decide +kernel
theorem dL_law_641 : decode cL_law 641 = .ok (.iconst 2, 1) := by decide +kernel
theorem dL_law_642 : decode cL_law 642 = .ok (.iadd, 1) := by decide +kernel
theorem dL_law_643 : decode cL_law 643 = .ok (.iaload, 1) := by decide +kernel
theorem dL_law_644 : decode cL_law 644 = .ok (.aload_n 0, 1) := by decide +kernel
theorem dL_law_645 : decode cL_law 645 = .ok (.iload_n 3, 1) := by decide +kernel
theorem dL_law_646 : decode cL_law 646 = .ok (.iconst 3, 1) := by decide +kernel
theorem dL_law_647 : decode cL_law 647 = .ok (.iadd, 1) := by decide +kernel
theorem dL_law_648 : decode cL_law 648 = .ok (.iaload, 1) := by decide +kernel
theorem dL_law_649 : decode cL_law 649 = .ok (.aload_n 0, 1) := by decide +kernel
theorem dL_law_650 : decode cL_law 650 = .ok (.iload_n 3, 1) := by decide +kernel
theorem dL_law_651 : decode cL_law 651 = .ok (.iconst 4, 1) := by decide +kernel
theorem dL_law_652 : decode cL_law 652 = .ok (.iadd, 1) := by decide +kernel
theorem dL_law_653 : decode cL_law 653 = .ok (.iaload, 1) := by decide +kernel
theorem dL_law_654 : decode cL_law 654 = .ok (.aload_n 0, 1) := by decide +kernel
theorem dL_law_655 : decode cL_law 655 = .ok (.iload_n 3, 1) := by decide +kernel
theorem dL_law_656 : decode cL_law 656 = .ok (.iconst 5, 1) := by decide +kernel
theorem dL_law_657 : decode cL_law 657 = .ok (.iadd, 1) := by decide +kernel
theorem dL_law_658 : decode cL_law 658 = .ok (.iaload, 1) := by decide +kernel
theorem dL_law_659 : decode cL_law 659 = .ok (.invokevirtual 72, 3) := by decide +kernel
theorem dL_law_662 : decode cL_law 662 = .ok (.aload_n 2, 1) := by decide +kernel
theorem dL_law_663 : decode cL_law 663 = .ok (.aload_n 0, 1) := by decide +kernel
theorem dL_law_664 : decode cL_law 664 = .ok (.iload_n 3, 1) := by decide +kernel
theorem dL_law_665 : decode cL_law 665 = .ok (.iconst 1, 1) := by decide +kernel
theorem dL_law_666 : decode cL_law 666 = .ok (.iadd, 1) := by decide +kernel
theorem dL_law_667 : decode cL_law 667 = .ok (.iaload, 1) := by decide +kernel
theorem dL_law_668 : decode cL_law 668 = .ok (.aload_n 0, 1) := by decide +kernel
theorem dL_law_669 : decode cL_law 669 = .ok (.iload_n 3, 1) := by decide +kernel
theorem dL_law_670 : decode cL_law 670 = .ok (.iconst 2, 1) := by decide +kernel
theorem dL_law_671 : decode cL_law 671 = .ok (.iadd, 1) := by decide +kernel
theorem dL_law_672 : decode cL_law 672 = .ok (.iaload, 1) := by decide +kernel
theorem dL_law_673 : decode cL_law 673 = .ok (.aload_n 0, 1) := by decide +kernel
theorem dL_law_674 : decode cL_law 674 = .ok (.iload_n 3, 1) := by decide +kernel
theorem dL_law_675 : decode cL_law 675 = .ok (.iconst 3, 1) := by decide +kernel
theorem dL_law_676 : decode cL_law 676 = .ok (.iadd, 1) := by decide +kernel
theorem dL_law_677 : decode cL_law 677 = .ok (.iaload, 1) := by decide +kernel
theorem dL_law_678 : decode cL_law 678 = .ok (.aload_n 0, 1) := by decide +kernel
theorem dL_law_679 : decode cL_law 679 = .ok (.iload_n 3, 1) := by decide +kernel
theorem dL_law_680 : decode cL_law 680 = .ok (.iconst 4, 1) := by decide +kernel
theorem dL_law_681 : decode cL_law 681 = .ok (.iadd, 1) := by decide +kernel
theorem dL_law_682 : decode cL_law 682 = .ok (.iaload, 1) := by decide +kernel
theorem dL_law_683 : decode cL_law 683 = .ok (.aload_n 0, 1) := by decide +kernel
theorem dL_law_684 : decode cL_law 684 = .ok (.iload_n 3, 1) := by decide +kernel
theorem dL_law_685 : decode cL_law 685 = .ok (.iconst 5, 1) := by decide +kernel
theorem dL_law_686 : decode cL_law 686 = .ok (.iadd, 1) := by decide +kernel
theorem dL_law_687 : decode cL_law 687 = .ok (.iaload, 1) := by decide +kernel
theorem dL_law_688 : decode cL_law 688 = .ok (.invokevirtual 76, 3) := by decide +kernel
theorem dL_law_691 : decode cL_law 691 = .ok (.if_icmp .eq 242, 3) := by decide +kernel
theorem dL_law_694 : decode cL_law 694 = .ok (.iconst 0, 1) := by decide +kernel
theorem dL_law_695 : decode cL_law 695 = .ok (.ireturn, 1) := by decide +kernel
theorem dL_law_696 : decode cL_law 696 = .ok (.aload_n 1, 1) := by decide +kernel
theorem dL_law_697 : decode cL_law 697 = .ok (.aload_n 0, 1) := by decide +kernel
theorem dL_law_698 : decode cL_law 698 = .ok (.iload_n 3, 1) := by decide +kernel
theorem dL_law_699 : decode cL_law 699 = .ok (.iconst 1, 1) := by decide +kernel
theorem dL_law_700 : decode cL_law 700 = .ok (.iadd, 1) := by decide +kernel
theorem dL_law_701 : decode cL_law 701 = .ok (.iaload, 1) := by decide +kernel
theorem dL_law_702 : decode cL_law 702 = .ok (.aload_n 0, 1) := by decide +kernel
theorem dL_law_703 : decode cL_law 703 = .ok (.iload_n 3, 1) := by decide +kernel
theorem dL_law_704 : decode cL_law 704 = .ok (.iconst 2, 1) := by decide +kernel
theorem dL_law_705 : decode cL_law 705 = .ok (.iadd, 1) := by decide +kernel
theorem dL_law_706 : decode cL_law 706 = .ok (.iaload, 1) := by decide +kernel
theorem dL_law_707 : decode cL_law 707 = .ok (.aload_n 0, 1) := by decide +kernel
theorem dL_law_708 : decode cL_law 708 = .ok (.iload_n 3, 1) := by decide +kernel
theorem dL_law_709 : decode cL_law 709 = .ok (.iconst 3, 1) := by decide +kernel
theorem dL_law_710 : decode cL_law 710 = .ok (.iadd, 1) := by decide +kernel
theorem dL_law_711 : decode cL_law 711 = .ok (.iaload, 1) := by decide +kernel
theorem dL_law_712 : decode cL_law 712 = .ok (.invokevirtual 77, 3) := by decide +kernel
theorem dL_law_715 : decode cL_law 715 = .ok (.aload_n 2, 1) := by decide +kernel
theorem dL_law_716 : decode cL_law 716 = .ok (.aload_n 0, 1) := by decide +kernel
theorem dL_law_717 : decode cL_law 717 = .ok (.iload_n 3, 1) := by decide +kernel
theorem dL_law_718 : decode cL_law 718 = .ok (.iconst 1, 1) := by decide +kernel
theorem dL_law_719 : decode cL_law 719 = .ok (.iadd, 1) := by decide +kernel
theorem dL_law_720 : decode cL_law 720 = .ok (.iaload, 1) := by decide +kernel
theorem dL_law_721 : decode cL_law 721 = .ok (.aload_n 0, 1) := by decide +kernel
theorem dL_law_722 : decode cL_law 722 = .ok (.iload_n 3, 1) := by decide +kernel
theorem dL_law_723 : decode cL_law 723 = .ok (.iconst 2, 1) := by decide +kernel
theorem dL_law_724 : decode cL_law 724 = .ok (.iadd, 1) := by decide +kernel
theorem dL_law_725 : decode cL_law 725 = .ok (.iaload, 1) := by decide +kernel
theorem dL_law_726 : decode cL_law 726 = .ok (.aload_n 0, 1) := by decide +kernel
theorem dL_law_727 : decode cL_law 727 = .ok (.iload_n 3, 1) := by decide +kernel
theorem dL_law_728 : decode cL_law 728 = .ok (.iconst 3, 1) := by decide +kernel
theorem dL_law_729 : decode cL_law 729 = .ok (.iadd, 1) := by decide +kernel
theorem dL_law_730 : decode cL_law 730 = .ok (.iaload, 1) := by decide +kernel
theorem dL_law_731 : decode cL_law 731 = .ok (.invokevirtual 80, 3) := by decide +kernel
theorem dL_law_734 : decode cL_law 734 = .ok (.if_icmp .eq 199, 3) := by decide +kernel
theorem dL_law_737 : decode cL_law 737 = .ok (.iconst 0, 1) := by decide +kernel
theorem dL_law_738 : decode cL_law 738 = .ok (.ireturn, 1) := by decide +kernel
theorem dL_law_739 : decode cL_law 739 = .ok (.aload_n 1, 1) := by decide +kernel
theorem dL_law_740 : decode cL_law 740 = .ok (.aload_n 0, 1) := by decide +kernel
theorem dL_law_741 : decode cL_law 741 = .ok (.iload_n 3, 1) := by decide +kernel
theorem dL_law_742 : decode cL_law 742 = .ok (.iconst 1, 1) := by decide +kernel
theorem dL_law_743 : decode cL_law 743 = .ok (.iadd, 1) := by decide +kernel
theorem dL_law_744 : decode cL_law 744 = .ok (.iaload, 1) := by decide +kernel
theorem dL_law_745 : decode cL_law 745 = .ok (.invokevirtual 81, 3) := by decide +kernel
theorem dL_law_748 : decode cL_law 748 = .ok (.aload_n 2, 1) := by decide +kernel
theorem dL_law_749 : decode cL_law 749 = .ok (.aload_n 0, 1) := by decide +kernel
theorem dL_law_750 : decode cL_law 750 = .ok (.iload_n 3, 1) := by decide +kernel
theorem dL_law_751 : decode cL_law 751 = .ok (.iconst 1, 1) := by decide +kernel
theorem dL_law_752 : decode cL_law 752 = .ok (.iadd, 1) := by decide +kernel
theorem dL_law_753 : decode cL_law 753 = .ok (.iaload, 1) := by decide +kernel
theorem dL_law_754 : decode cL_law 754 = .ok (.invokevirtual 84, 3) := by decide +kernel
theorem dL_law_757 : decode cL_law 757 = .ok (.if_icmp .eq 176, 3) := by decide +kernel
theorem dL_law_760 : decode cL_law 760 = .ok (.iconst 0, 1) := by decide +kernel
theorem dL_law_761 : decode cL_law 761 = .ok (.ireturn, 1) := by decide +kernel
theorem dL_law_762 : decode cL_law 762 = .ok (.aload_n 1, 1) := by decide +kernel
theorem dL_law_763 : decode cL_law 763 = .ok (.aload_n 0, 1) := by decide +kernel
theorem dL_law_764 : decode cL_law 764 = .ok (.iload_n 3, 1) := by decide +kernel
theorem dL_law_765 : decode cL_law 765 = .ok (.iconst 1, 1) := by decide +kernel
theorem dL_law_766 : decode cL_law 766 = .ok (.iadd, 1) := by decide +kernel
theorem dL_law_767 : decode cL_law 767 = .ok (.iaload, 1) := by decide +kernel
theorem dL_law_768 : decode cL_law 768 = .ok (.invokevirtual 85, 3) := by decide +kernel
theorem dL_law_771 : decode cL_law 771 = .ok (.aload_n 2, 1) := by decide +kernel
theorem dL_law_772 : decode cL_law 772 = .ok (.aload_n 0, 1) := by decide +kernel
theorem dL_law_773 : decode cL_law 773 = .ok (.iload_n 3, 1) := by decide +kernel
theorem dL_law_774 : decode cL_law 774 = .ok (.iconst 1, 1) := by decide +kernel
theorem dL_law_775 : decode cL_law 775 = .ok (.iadd, 1) := by decide +kernel
theorem dL_law_776 : decode cL_law 776 = .ok (.iaload, 1) := by decide +kernel
theorem dL_law_777 : decode cL_law 777 = .ok (.invokevirtual 88, 3) := by decide +kernel
theorem dL_law_780 : decode cL_law 780 = .ok (.if_icmp .eq 153, 3) := by decide +kernel
theorem dL_law_783 : decode cL_law 783 = .ok (.iconst 0, 1) := by decide +kernel
theorem dL_law_784 : decode cL_law 784 = .ok (.ireturn, 1) := by decide +kernel
theorem dL_law_785 : decode cL_law 785 = .ok (.aload_n 1, 1) := by decide +kernel
theorem dL_law_786 : decode cL_law 786 = .ok (.aload_n 0, 1) := by decide +kernel
theorem dL_law_787 : decode cL_law 787 = .ok (.iload_n 3, 1) := by decide +kernel
theorem dL_law_788 : decode cL_law 788 = .ok (.iconst 1, 1) := by decide +kernel
theorem dL_law_789 : decode cL_law 789 = .ok (.iadd, 1) := by decide +kernel
theorem dL_law_790 : decode cL_law 790 = .ok (.iaload, 1) := by decide +kernel
theorem dL_law_791 : decode cL_law 791 = .ok (.invokevirtual 89, 3) := by decide +kernel
theorem dL_law_794 : decode cL_law 794 = .ok (.aload_n 2, 1) := by decide +kernel
theorem dL_law_795 : decode cL_law 795 = .ok (.aload_n 0, 1) := by decide +kernel
theorem dL_law_796 : decode cL_law 796 = .ok (.iload_n 3, 1) := by decide +kernel
theorem dL_law_797 : decode cL_law 797 = .ok (.iconst 1, 1) := by decide +kernel
theorem dL_law_798 : decode cL_law 798 = .ok (.iadd, 1) := by decide +kernel
theorem dL_law_799 : decode cL_law 799 = .ok (.iaload, 1) := by decide +kernel
theorem dL_law_800 : decode cL_law 800 = .ok (.invokevirtual 92, 3) := by decide +kernel
theorem dL_law_803 : decode cL_law 803 = .ok (.if_icmp .eq 130, 3) := by decide +kernel
theorem dL_law_806 : decode cL_law 806 = .ok (.iconst 0, 1) := by decide +kernel
theorem dL_law_807 : decode cL_law 807 = .ok (.ireturn, 1) := by decide +kernel
theorem dL_law_808 : decode cL_law 808 = .ok (.aload_n 1, 1) := by decide +kernel
theorem dL_law_809 : decode cL_law 809 = .ok (.aload_n 0, 1) := by decide +kernel
theorem dL_law_810 : decode cL_law 810 = .ok (.iload_n 3, 1) := by decide +kernel
theorem dL_law_811 : decode cL_law 811 = .ok (.iconst 1, 1) := by decide +kernel
theorem dL_law_812 : decode cL_law 812 = .ok (.iadd, 1) := by decide +kernel
theorem dL_law_813 : decode cL_law 813 = .ok (.iaload, 1) := by decide +kernel
theorem dL_law_814 : decode cL_law 814 = .ok (.aload_n 0, 1) := by decide +kernel
theorem dL_law_815 : decode cL_law 815 = .ok (.iload_n 3, 1) := by decide +kernel
theorem dL_law_816 : decode cL_law 816 = .ok (.iconst 2, 1) := by decide +kernel
theorem dL_law_817 : decode cL_law 817 = .ok (.iadd, 1) := by decide +kernel
theorem dL_law_818 : decode cL_law 818 = .ok (.iaload, 1) := by decide +kernel
theorem dL_law_819 : decode cL_law 819 = .ok (.aload_n 0, 1) := by decide +kernel
theorem dL_law_820 : decode cL_law 820 = .ok (.iload_n 3, 1) := by decide +kernel
theorem dL_law_821 : decode cL_law 821 = .ok (.iconst 3, 1) := by decide +kernel
theorem dL_law_822 : decode cL_law 822 = .ok (.iadd, 1) := by decide +kernel
theorem dL_law_823 : decode cL_law 823 = .ok (.iaload, 1) := by decide +kernel
theorem dL_law_824 : decode cL_law 824 = .ok (.invokevirtual 93, 3) := by decide +kernel
theorem dL_law_827 : decode cL_law 827 = .ok (.aload_n 2, 1) := by decide +kernel
theorem dL_law_828 : decode cL_law 828 = .ok (.aload_n 0, 1) := by decide +kernel
theorem dL_law_829 : decode cL_law 829 = .ok (.iload_n 3, 1) := by decide +kernel
theorem dL_law_830 : decode cL_law 830 = .ok (.iconst 1, 1) := by decide +kernel
theorem dL_law_831 : decode cL_law 831 = .ok (.iadd, 1) := by decide +kernel
theorem dL_law_832 : decode cL_law 832 = .ok (.iaload, 1) := by decide +kernel
theorem dL_law_833 : decode cL_law 833 = .ok (.aload_n 0, 1) := by decide +kernel
theorem dL_law_834 : decode cL_law 834 = .ok (.iload_n 3, 1) := by decide +kernel
theorem dL_law_835 : decode cL_law 835 = .ok (.iconst 2, 1) := by decide +kernel
theorem dL_law_836 : decode cL_law 836 = .ok (.iadd, 1) := by decide +kernel
theorem dL_law_837 : decode cL_law 837 = .ok (.iaload, 1) := by decide +kernel
theorem dL_law_838 : decode cL_law 838 = .ok (.aload_n 0, 1) := by decide +kernel
theorem dL_law_839 : decode cL_law 839 = .ok (.iload_n 3, 1) := by decide +kernel
theorem dL_law_840 : decode cL_law 840 = .ok (.iconst 3, 1) := by decide +kernel
theorem dL_law_841 : decode cL_law 841 = .ok (.iadd, 1) := by decide +kernel
theorem dL_law_842 : decode cL_law 842 = .ok (.iaload, 1) := by decide +kernel
theorem dL_law_843 : decode cL_law 843 = .ok (.invokevirtual 96, 3) := by decide +kernel
theorem dL_law_846 : decode cL_law 846 = .ok (.if_icmp .eq 87, 3) := by decide +kernel
theorem dL_law_849 : decode cL_law 849 = .ok (.iconst 0, 1) := by decide +kernel
theorem dL_law_850 : decode cL_law 850 = .ok (.ireturn, 1) := by decide +kernel
theorem dL_law_851 : decode cL_law 851 = .ok (.aload_n 1, 1) := by decide +kernel
theorem dL_law_852 : decode cL_law 852 = .ok (.invokevirtual 97, 3) := by decide +kernel
theorem dL_law_855 : decode cL_law 855 = .ok (.aload_n 2, 1) := by decide +kernel
theorem dL_law_856 : decode cL_law 856 = .ok (.invokevirtual 101, 3) := by decide +kernel
theorem dL_law_859 : decode cL_law 859 = .ok (.if_icmp .eq 74, 3) := by decide +kernel
theorem dL_law_862 : decode cL_law 862 = .ok (.iconst 0, 1) := by decide +kernel
theorem dL_law_863 : decode cL_law 863 = .ok (.ireturn, 1) := by decide +kernel
theorem dL_law_864 : decode cL_law 864 = .ok (.aload_n 1, 1) := by decide +kernel
theorem dL_law_865 : decode cL_law 865 = .ok (.aload_n 0, 1) := by decide +kernel
theorem dL_law_866 : decode cL_law 866 = .ok (.iload_n 3, 1) := by decide +kernel
theorem dL_law_867 : decode cL_law 867 = .ok (.iconst 1, 1) := by decide +kernel
theorem dL_law_868 : decode cL_law 868 = .ok (.iadd, 1) := by decide +kernel
theorem dL_law_869 : decode cL_law 869 = .ok (.iaload, 1) := by decide +kernel
theorem dL_law_870 : decode cL_law 870 = .ok (.invokevirtual 102, 3) := by decide +kernel
theorem dL_law_873 : decode cL_law 873 = .ok (.aload_n 2, 1) := by decide +kernel
theorem dL_law_874 : decode cL_law 874 = .ok (.aload_n 0, 1) := by decide +kernel
theorem dL_law_875 : decode cL_law 875 = .ok (.iload_n 3, 1) := by decide +kernel
theorem dL_law_876 : decode cL_law 876 = .ok (.iconst 1, 1) := by decide +kernel
theorem dL_law_877 : decode cL_law 877 = .ok (.iadd, 1) := by decide +kernel
theorem dL_law_878 : decode cL_law 878 = .ok (.iaload, 1) := by decide +kernel
theorem dL_law_879 : decode cL_law 879 = .ok (.invokevirtual 105, 3) := by decide +kernel
theorem dL_law_882 : decode cL_law 882 = .ok (.if_icmp .eq 51, 3) := by decide +kernel
theorem dL_law_885 : decode cL_law 885 = .ok (.iconst 0, 1) := by decide +kernel
theorem dL_law_886 : decode cL_law 886 = .ok (.ireturn, 1) := by decide +kernel
theorem dL_law_887 : decode cL_law 887 = .ok (.aload_n 1, 1) := by decide +kernel
theorem dL_law_888 : decode cL_law 888 = .ok (.aload_n 0, 1) := by decide +kernel
theorem dL_law_889 : decode cL_law 889 = .ok (.iload_n 3, 1) := by decide +kernel
theorem dL_law_890 : decode cL_law 890 = .ok (.iconst 1, 1) := by decide +kernel
theorem dL_law_891 : decode cL_law 891 = .ok (.iadd, 1) := by decide +kernel
theorem dL_law_892 : decode cL_law 892 = .ok (.iaload, 1) := by decide +kernel
theorem dL_law_893 : decode cL_law 893 = .ok (.invokevirtual 106, 3) := by decide +kernel
theorem dL_law_896 : decode cL_law 896 = .ok (.aload_n 2, 1) := by decide +kernel
theorem dL_law_897 : decode cL_law 897 = .ok (.aload_n 0, 1) := by decide +kernel
theorem dL_law_898 : decode cL_law 898 = .ok (.iload_n 3, 1) := by decide +kernel
theorem dL_law_899 : decode cL_law 899 = .ok (.iconst 1, 1) := by decide +kernel
theorem dL_law_900 : decode cL_law 900 = .ok (.iadd, 1) := by decide +kernel
theorem dL_law_901 : decode cL_law 901 = .ok (.iaload, 1) := by decide +kernel
theorem dL_law_902 : decode cL_law 902 = .ok (.invokevirtual 109, 3) := by decide +kernel
theorem dL_law_905 : decode cL_law 905 = .ok (.if_icmp .eq 28, 3) := by decide +kernel
theorem dL_law_908 : decode cL_law 908 = .ok (.iconst 0, 1) := by decide +kernel
theorem dL_law_909 : decode cL_law 909 = .ok (.ireturn, 1) := by decide +kernel
theorem dL_law_910 : decode cL_law 910 = .ok (.aload_n 1, 1) := by decide +kernel
theorem dL_law_911 : decode cL_law 911 = .ok (.aload_n 0, 1) := by decide +kernel
theorem dL_law_912 : decode cL_law 912 = .ok (.iload_n 3, 1) := by decide +kernel
theorem dL_law_913 : decode cL_law 913 = .ok (.iconst 1, 1) := by decide +kernel
theorem dL_law_914 : decode cL_law 914 = .ok (.iadd, 1) := by decide +kernel
theorem dL_law_915 : decode cL_law 915 = .ok (.iaload, 1) := by decide +kernel
theorem dL_law_916 : decode cL_law 916 = .ok (.invokevirtual 110, 3) := by decide +kernel
theorem dL_law_919 : decode cL_law 919 = .ok (.aload_n 2, 1) := by decide +kernel
theorem dL_law_920 : decode cL_law 920 = .ok (.aload_n 0, 1) := by decide +kernel
theorem dL_law_921 : decode cL_law 921 = .ok (.iload_n 3, 1) := by decide +kernel
theorem dL_law_922 : decode cL_law 922 = .ok (.iconst 1, 1) := by decide +kernel
theorem dL_law_923 : decode cL_law 923 = .ok (.iadd, 1) := by decide +kernel
theorem dL_law_924 : decode cL_law 924 = .ok (.iaload, 1) := by decide +kernel
theorem dL_law_925 : decode cL_law 925 = .ok (.invokevirtual 113, 3) := by decide +kernel
theorem dL_law_928 : decode cL_law 928 = .ok (.if_icmp .eq 5, 3) := by decide +kernel
theorem dL_law_931 : decode cL_law 931 = .ok (.iconst 0, 1) := by decide +kernel
theorem dL_law_932 : decode cL_law 932 = .ok (.ireturn, 1) := by decide +kernel
theorem dL_law_933 : decode cL_law 933 = .ok (.iinc 3 6, 3) := by decide +kernel
theorem dL_law_936 : decode cL_law 936 = .ok (.goto (-918), 3) := by decide +kernel
theorem dL_law_939 : decode cL_law 939 = .ok (.iconst 1, 1) := by decide +kernel
theorem dL_law_940 : decode cL_law 940 = .ok (.ireturn, 1) := by decide +kernel
