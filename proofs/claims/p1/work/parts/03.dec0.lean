theorem dX0_init_0 : decode cX0_init 0 = .ok (.aload_n 0, 1) := by decide +kernel
theorem dX0_init_1 : decode cX0_init 1 = .ok (.invokespecial 3, 3) := by decide +kernel
theorem dX0_init_4 : decode cX0_init 4 = .ok (.aload_n 0, 1) := by decide +kernel
theorem dX0_init_5 : decode cX0_init 5 = .ok (.sipush 4000, 3) := by decide +kernel
theorem dX0_init_8 : decode cX0_init 8 = .ok (.newarray .int, 2) := by decide +kernel
theorem dX0_init_10 : decode cX0_init 10 = .ok (.putfield 11, 3) := by decide +kernel
theorem dX0_init_13 : decode cX0_init 13 = .ok (.return_, 1) := by decide +kernel
theorem dX0_kept_0 : decode cX0_kept 0 = .ok (.aload_n 0, 1) := by decide +kernel
theorem dX0_kept_1 : decode cX0_kept 1 = .ok (.getfield 15, 3) := by decide +kernel
theorem dX0_kept_4 : decode cX0_kept 4 = .ok (.sipush 400, 3) := by decide +kernel
theorem dX0_kept_7 : decode cX0_kept 7 = .ok (.invokestatic 19, 3) := by decide +kernel
theorem dX0_kept_10 : decode cX0_kept 10 = .ok (.ireturn, 1) := by decide +kernel
theorem dX0_enter_0 : decode cX0_enter 0 = .ok (.aload_n 0, 1) := by decide +kernel
theorem dX0_enter_1 : decode cX0_enter 1 = .ok (.getfield 15, 3) := by decide +kernel
theorem dX0_enter_4 : decode cX0_enter 4 = .ok (.sipush 400, 3) := by decide +kernel
theorem dX0_enter_7 : decode cX0_enter 7 = .ok (.if_icmp .ge 151, 3) := by decide +kernel
theorem dX0_enter_10 : decode cX0_enter 10 = .ok (.aload_n 1, 1) := by decide +kernel
theorem dX0_enter_11 : decode cX0_enter 11 = .ok (.getfield 25, 3) := by decide +kernel
theorem dX0_enter_14 : decode cX0_enter 14 = .ok (.astore 4, 2) := by decide +kernel
theorem dX0_enter_16 : decode cX0_enter 16 = .ok (.aload_n 0, 1) := by decide +kernel
theorem dX0_enter_17 : decode cX0_enter 17 = .ok (.getfield 15, 3) := by decide +kernel
theorem dX0_enter_20 : decode cX0_enter 20 = .ok (.bipush 10, 2) := by decide +kernel
theorem dX0_enter_22 : decode cX0_enter 22 = .ok (.imul, 1) := by decide +kernel
theorem dX0_enter_23 : decode cX0_enter 23 = .ok (.istore 5, 2) := by decide +kernel
theorem dX0_enter_25 : decode cX0_enter 25 = .ok (.aload_n 0, 1) := by decide +kernel
theorem dX0_enter_26 : decode cX0_enter 26 = .ok (.getfield 11, 3) := by decide +kernel
theorem dX0_enter_29 : decode cX0_enter 29 = .ok (.iload 5, 2) := by decide +kernel
theorem dX0_enter_31 : decode cX0_enter 31 = .ok (.aload_n 1, 1) := by decide +kernel
theorem dX0_enter_32 : decode cX0_enter 32 = .ok (.getfield 31, 3) := by decide +kernel
theorem dX0_enter_35 : decode cX0_enter 35 = .ok (.iastore, 1) := by decide +kernel
theorem dX0_enter_36 : decode cX0_enter 36 = .ok (.aload_n 0, 1) := by decide +kernel
theorem dX0_enter_37 : decode cX0_enter 37 = .ok (.getfield 11, 3) := by decide +kernel
theorem dX0_enter_40 : decode cX0_enter 40 = .ok (.iload 5, 2) := by decide +kernel
theorem dX0_enter_42 : decode cX0_enter 42 = .ok (.iconst 1, 1) := by decide +kernel
theorem dX0_enter_43 : decode cX0_enter 43 = .ok (.iadd, 1) := by decide +kernel
theorem dX0_enter_44 : decode cX0_enter 44 = .ok (.aload 4, 2) := by decide +kernel
theorem dX0_enter_46 : decode cX0_enter 46 = .ok (.getfield 34, 3) := by decide +kernel
theorem dX0_enter_49 : decode cX0_enter 49 = .ok (.iastore, 1) := by decide +kernel
theorem dX0_enter_50 : decode cX0_enter 50 = .ok (.aload_n 0, 1) := by decide +kernel
theorem dX0_enter_51 : decode cX0_enter 51 = .ok (.getfield 11, 3) := by decide +kernel
theorem dX0_enter_54 : decode cX0_enter 54 = .ok (.iload 5, 2) := by decide +kernel
theorem dX0_enter_56 : decode cX0_enter 56 = .ok (.iconst 2, 1) := by decide +kernel
theorem dX0_enter_57 : decode cX0_enter 57 = .ok (.iadd, 1) := by decide +kernel
theorem dX0_enter_58 : decode cX0_enter 58 = .ok (.aload 4, 2) := by decide +kernel
theorem dX0_enter_60 : decode cX0_enter 60 = .ok (.getfield 39, 3) := by decide +kernel
theorem dX0_enter_63 : decode cX0_enter 63 = .ok (.iastore, 1) := by decide +kernel
theorem dX0_enter_64 : decode cX0_enter 64 = .ok (.aload_n 0, 1) := by decide +kernel
theorem dX0_enter_65 : decode cX0_enter 65 = .ok (.getfield 11, 3) := by decide +kernel
theorem dX0_enter_68 : decode cX0_enter 68 = .ok (.iload 5, 2) := by decide +kernel
theorem dX0_enter_70 : decode cX0_enter 70 = .ok (.iconst 3, 1) := by decide +kernel
theorem dX0_enter_71 : decode cX0_enter 71 = .ok (.iadd, 1) := by decide +kernel
theorem dX0_enter_72 : decode cX0_enter 72 = .ok (.aload 4, 2) := by decide +kernel
theorem dX0_enter_74 : decode cX0_enter 74 = .ok (.getfield 42, 3) := by decide +kernel
theorem dX0_enter_77 : decode cX0_enter 77 = .ok (.iastore, 1) := by decide +kernel
theorem dX0_enter_78 : decode cX0_enter 78 = .ok (.aload_n 0, 1) := by decide +kernel
theorem dX0_enter_79 : decode cX0_enter 79 = .ok (.getfield 11, 3) := by decide +kernel
theorem dX0_enter_82 : decode cX0_enter 82 = .ok (.iload 5, 2) := by decide +kernel
theorem dX0_enter_84 : decode cX0_enter 84 = .ok (.iconst 4, 1) := by decide +kernel
theorem dX0_enter_85 : decode cX0_enter 85 = .ok (.iadd, 1) := by decide +kernel
theorem dX0_enter_86 : decode cX0_enter 86 = .ok (.aload 4, 2) := by decide +kernel
theorem dX0_enter_88 : decode cX0_enter 88 = .ok (.getfield 45, 3) := by decide +kernel
theorem dX0_enter_91 : decode cX0_enter 91 = .ok (.iastore, 1) := by decide +kernel
theorem dX0_enter_92 : decode cX0_enter 92 = .ok (.aload_n 0, 1) := by decide +kernel
theorem dX0_enter_93 : decode cX0_enter 93 = .ok (.getfield 11, 3) := by decide +kernel
theorem dX0_enter_96 : decode cX0_enter 96 = .ok (.iload 5, 2) := by decide +kernel
theorem dX0_enter_98 : decode cX0_enter 98 = .ok (.iconst 5, 1) := by decide +kernel
theorem dX0_enter_99 : decode cX0_enter 99 = .ok (.iadd, 1) := by decide +kernel
theorem dX0_enter_100 : decode cX0_enter 100 = .ok (.aload 4, 2) := by decide +kernel
theorem dX0_enter_102 : decode cX0_enter 102 = .ok (.getfield 48, 3) := by decide +kernel
theorem dX0_enter_105 : decode cX0_enter 105 = .ok (.iastore, 1) := by decide +kernel
theorem dX0_enter_106 : decode cX0_enter 106 = .ok (.aload_n 0, 1) := by decide +kernel
theorem dX0_enter_107 : decode cX0_enter 107 = .ok (.getfield 11, 3) := by decide +kernel
theorem dX0_enter_110 : decode cX0_enter 110 = .ok (.iload 5, 2) := by decide +kernel
theorem dX0_enter_112 : decode cX0_enter 112 = .ok (.bipush 6, 2) := by decide +kernel
theorem dX0_enter_114 : decode cX0_enter 114 = .ok (.iadd, 1) := by decide +kernel
theorem dX0_enter_115 : decode cX0_enter 115 = .ok (.aload 4, 2) := by decide +kernel
theorem dX0_enter_117 : decode cX0_enter 117 = .ok (.getfield 51, 3) := by decide +kernel
theorem dX0_enter_120 : decode cX0_enter 120 = .ok (.iastore, 1) := by decide +kernel
theorem dX0_enter_121 : decode cX0_enter 121 = .ok (.aload_n 0, 1) := by decide +kernel
theorem dX0_enter_122 : decode cX0_enter 122 = .ok (.getfield 11, 3) := by decide +kernel
theorem dX0_enter_125 : decode cX0_enter 125 = .ok (.iload 5, 2) := by decide +kernel
theorem dX0_enter_127 : decode cX0_enter 127 = .ok (.bipush 7, 2) := by decide +kernel
theorem dX0_enter_129 : decode cX0_enter 129 = .ok (.iadd, 1) := by decide +kernel
theorem dX0_enter_130 : decode cX0_enter 130 = .ok (.aload 4, 2) := by decide +kernel
theorem dX0_enter_132 : decode cX0_enter 132 = .ok (.getfield 54, 3) := by decide +kernel
theorem dX0_enter_135 : decode cX0_enter 135 = .ok (.iastore, 1) := by decide +kernel
theorem dX0_enter_136 : decode cX0_enter 136 = .ok (.aload_n 0, 1) := by decide +kernel
theorem dX0_enter_137 : decode cX0_enter 137 = .ok (.getfield 11, 3) := by decide +kernel
theorem dX0_enter_140 : decode cX0_enter 140 = .ok (.iload 5, 2) := by decide +kernel
theorem dX0_enter_142 : decode cX0_enter 142 = .ok (.bipush 8, 2) := by decide +kernel
theorem dX0_enter_144 : decode cX0_enter 144 = .ok (.iadd, 1) := by decide +kernel
theorem dX0_enter_145 : decode cX0_enter 145 = .ok (.iload_n 2, 1) := by decide +kernel
theorem dX0_enter_146 : decode cX0_enter 146 = .ok (.iastore, 1) := by decide +kernel
theorem dX0_enter_147 : decode cX0_enter 147 = .ok (.aload_n 0, 1) := by decide +kernel
theorem dX0_enter_148 : decode cX0_enter 148 = .ok (.getfield 11, 3) := by decide +kernel
theorem dX0_enter_151 : decode cX0_enter 151 = .ok (.iload 5, 2) := by decide +kernel
theorem dX0_enter_153 : decode cX0_enter 153 = .ok (.bipush 9, 2) := by decide +kernel
theorem dX0_enter_155 : decode cX0_enter 155 = .ok (.iadd, 1) := by decide +kernel
theorem dX0_enter_156 : decode cX0_enter 156 = .ok (.iload_n 3, 1) := by decide +kernel
theorem dX0_enter_157 : decode cX0_enter 157 = .ok (.iastore, 1) := by decide +kernel
theorem dX0_enter_158 : decode cX0_enter 158 = .ok (.aload_n 0, 1) := by decide +kernel
theorem dX0_enter_159 : decode cX0_enter 159 = .ok (.dup, 1) := by decide +kernel
theorem dX0_enter_160 : decode cX0_enter 160 = .ok (.getfield 15, 3) := by decide +kernel
theorem dX0_enter_163 : decode cX0_enter 163 = .ok (.iconst 1, 1) := by decide +kernel
theorem dX0_enter_164 : decode cX0_enter 164 = .ok (.iadd, 1) := by decide +kernel
theorem dX0_enter_165 : decode cX0_enter 165 = .ok (.putfield 15, 3) := by decide +kernel
theorem dX0_enter_168 : decode cX0_enter 168 = .ok (.return_, 1) := by decide +kernel
theorem dX0_makeSafe_0 : decode cX0_makeSafe 0 = .ok (.aload_n 0, 1) := by decide +kernel
theorem dX0_makeSafe_1 : decode cX0_makeSafe 1 = .ok (.iload_n 1, 1) := by decide +kernel
theorem dX0_makeSafe_2 : decode cX0_makeSafe 2 = .ok (.iload_n 2, 1) := by decide +kernel
theorem dX0_makeSafe_3 : decode cX0_makeSafe 3 = .ok (.iconst 2, 1) := by decide +kernel
theorem dX0_makeSafe_4 : decode cX0_makeSafe 4 = .ok (.invokevirtual 57, 3) := by decide +kernel
theorem dX0_makeSafe_7 : decode cX0_makeSafe 7 = .ok (.return_, 1) := by decide +kernel
theorem dX0_lose_0 : decode cX0_lose 0 = .ok (.aload_n 0, 1) := by decide +kernel
theorem dX0_lose_1 : decode cX0_lose 1 = .ok (.iload_n 1, 1) := by decide +kernel
theorem dX0_lose_2 : decode cX0_lose 2 = .ok (.aload_n 0, 1) := by decide +kernel
theorem dX0_lose_3 : decode cX0_lose 3 = .ok (.getfield 15, 3) := by decide +kernel
theorem dX0_lose_6 : decode cX0_lose 6 = .ok (.iconst 3, 1) := by decide +kernel
theorem dX0_lose_7 : decode cX0_lose 7 = .ok (.invokevirtual 57, 3) := by decide +kernel
theorem dX0_lose_10 : decode cX0_lose 10 = .ok (.return_, 1) := by decide +kernel
theorem dX0_turn_0 : decode cX0_turn 0 = .ok (.iconst 0, 1) := by decide +kernel
theorem dX0_turn_1 : decode cX0_turn 1 = .ok (.istore 4, 2) := by decide +kernel
theorem dX0_turn_3 : decode cX0_turn 3 = .ok (.iload 4, 2) := by decide +kernel
theorem dX0_turn_5 : decode cX0_turn 5 = .ok (.iload_n 2, 1) := by decide +kernel
theorem dX0_turn_6 : decode cX0_turn 6 = .ok (.if_icmp .ge 60, 3) := by decide +kernel
theorem dX0_turn_9 : decode cX0_turn 9 = .ok (.iload 4, 2) := by decide +kernel
theorem dX0_turn_11 : decode cX0_turn 11 = .ok (.sipush 400, 3) := by decide +kernel
theorem dX0_turn_14 : decode cX0_turn 14 = .ok (.if_icmp .ge 52, 3) := by decide +kernel
theorem dX0_turn_17 : decode cX0_turn 17 = .ok (.iload 4, 2) := by decide +kernel
theorem dX0_turn_19 : decode cX0_turn 19 = .ok (.bipush 10, 2) := by decide +kernel
theorem dX0_turn_21 : decode cX0_turn 21 = .ok (.imul, 1) := by decide +kernel
theorem dX0_turn_22 : decode cX0_turn 22 = .ok (.istore 5, 2) := by decide +kernel
theorem dX0_turn_24 : decode cX0_turn 24 = .ok (.aload_n 0, 1) := by decide +kernel
theorem dX0_turn_25 : decode cX0_turn 25 = .ok (.getfield 11, 3) := by decide +kernel
theorem dX0_turn_28 : decode cX0_turn 28 = .ok (.iload 5, 2) := by decide +kernel
theorem dX0_turn_30 : decode cX0_turn 30 = .ok (.iaload, 1) := by decide +kernel
theorem dX0_turn_31 : decode cX0_turn 31 = .ok (.iload_n 1, 1) := by decide +kernel
theorem dX0_turn_32 : decode cX0_turn 32 = .ok (.if_icmp .ne 28, 3) := by decide +kernel
theorem dX0_turn_35 : decode cX0_turn 35 = .ok (.aload_n 0, 1) := by decide +kernel
theorem dX0_turn_36 : decode cX0_turn 36 = .ok (.getfield 11, 3) := by decide +kernel
theorem dX0_turn_39 : decode cX0_turn 39 = .ok (.iload 5, 2) := by decide +kernel
theorem dX0_turn_41 : decode cX0_turn 41 = .ok (.bipush 9, 2) := by decide +kernel
theorem dX0_turn_43 : decode cX0_turn 43 = .ok (.iadd, 1) := by decide +kernel
theorem dX0_turn_44 : decode cX0_turn 44 = .ok (.iaload, 1) := by decide +kernel
theorem dX0_turn_45 : decode cX0_turn 45 = .ok (.iconst 1, 1) := by decide +kernel
theorem dX0_turn_46 : decode cX0_turn 46 = .ok (.if_icmp .ne 14, 3) := by decide +kernel
theorem dX0_turn_49 : decode cX0_turn 49 = .ok (.aload_n 0, 1) := by decide +kernel
theorem dX0_turn_50 : decode cX0_turn 50 = .ok (.getfield 11, 3) := by decide +kernel
theorem dX0_turn_53 : decode cX0_turn 53 = .ok (.iload 5, 2) := by decide +kernel
theorem dX0_turn_55 : decode cX0_turn 55 = .ok (.bipush 9, 2) := by decide +kernel
theorem dX0_turn_57 : decode cX0_turn 57 = .ok (.iadd, 1) := by decide +kernel
theorem dX0_turn_58 : decode cX0_turn 58 = .ok (.iload_n 3, 1) := by decide +kernel
theorem dX0_turn_59 : decode cX0_turn 59 = .ok (.iastore, 1) := by decide +kernel
theorem dX0_turn_60 : decode cX0_turn 60 = .ok (.iinc 4 1, 3) := by decide +kernel
theorem dX0_turn_63 : decode cX0_turn 63 = .ok (.goto (-60), 3) := by decide +kernel
theorem dX0_turn_66 : decode cX0_turn 66 = .ok (.return_, 1) := by decide +kernel
theorem dX1_init_0 : decode cX1_init 0 = .ok (.aload_n 0, 1) := by decide +kernel
theorem dX1_init_1 : decode cX1_init 1 = .ok (.invokespecial 3, 3) := by decide +kernel
theorem dX1_init_4 : decode cX1_init 4 = .ok (.aload_n 0, 1) := by decide +kernel
theorem dX1_init_5 : decode cX1_init 5 = .ok (.sipush 10240, 3) := by decide +kernel
theorem dX1_init_8 : decode cX1_init 8 = .ok (.newarray .int, 2) := by decide +kernel
theorem dX1_init_10 : decode cX1_init 10 = .ok (.putfield 9, 3) := by decide +kernel
theorem dX1_init_13 : decode cX1_init 13 = .ok (.aload_n 0, 1) := by decide +kernel
theorem dX1_init_14 : decode cX1_init 14 = .ok (.sipush 640, 3) := by decide +kernel
theorem dX1_init_17 : decode cX1_init 17 = .ok (.newarray .boolean, 2) := by decide +kernel
theorem dX1_init_19 : decode cX1_init 19 = .ok (.putfield 15, 3) := by decide +kernel
theorem dX1_init_22 : decode cX1_init 22 = .ok (.return_, 1) := by decide +kernel
theorem dX1_admit_0 : decode cX1_admit 0 = .ok (.aload_n 0, 1) := by decide +kernel
theorem dX1_admit_1 : decode cX1_admit 1 = .ok (.getfield 15, 3) := by decide +kernel
theorem dX1_admit_4 : decode cX1_admit 4 = .ok (.iload_n 1, 1) := by decide +kernel
theorem dX1_admit_5 : decode cX1_admit 5 = .ok (.baload, 1) := by decide +kernel
theorem dX1_admit_6 : decode cX1_admit 6 = .ok (.ifCond .ne 20, 3) := by decide +kernel
theorem dX1_admit_9 : decode cX1_admit 9 = .ok (.aload_n 0, 1) := by decide +kernel
theorem dX1_admit_10 : decode cX1_admit 10 = .ok (.getfield 15, 3) := by decide +kernel
theorem dX1_admit_13 : decode cX1_admit 13 = .ok (.iload_n 1, 1) := by decide +kernel
theorem dX1_admit_14 : decode cX1_admit 14 = .ok (.iconst 1, 1) := by decide +kernel
theorem dX1_admit_15 : decode cX1_admit 15 = .ok (.bastore, 1) := by decide +kernel
theorem dX1_admit_16 : decode cX1_admit 16 = .ok (.aload_n 0, 1) := by decide +kernel
theorem dX1_admit_17 : decode cX1_admit 17 = .ok (.dup, 1) := by decide +kernel
theorem dX1_admit_18 : decode cX1_admit 18 = .ok (.getfield 19, 3) := by decide +kernel
theorem dX1_admit_21 : decode cX1_admit 21 = .ok (.iconst 1, 1) := by decide +kernel
theorem dX1_admit_22 : decode cX1_admit 22 = .ok (.iadd, 1) := by decide +kernel
theorem dX1_admit_23 : decode cX1_admit 23 = .ok (.putfield 19, 3) := by decide +kernel
theorem dX1_admit_26 : decode cX1_admit 26 = .ok (.return_, 1) := by decide +kernel
theorem dX1_drop_0 : decode cX1_drop 0 = .ok (.iload_n 1, 1) := by decide +kernel
theorem dX1_drop_1 : decode cX1_drop 1 = .ok (.ifCond .lt 36, 3) := by decide +kernel
theorem dX1_drop_4 : decode cX1_drop 4 = .ok (.iload_n 1, 1) := by decide +kernel
theorem dX1_drop_5 : decode cX1_drop 5 = .ok (.sipush 640, 3) := by decide +kernel
theorem dX1_drop_8 : decode cX1_drop 8 = .ok (.if_icmp .ge 29, 3) := by decide +kernel
theorem dX1_drop_11 : decode cX1_drop 11 = .ok (.aload_n 0, 1) := by decide +kernel
theorem dX1_drop_12 : decode cX1_drop 12 = .ok (.getfield 15, 3) := by decide +kernel
theorem dX1_drop_15 : decode cX1_drop 15 = .ok (.iload_n 1, 1) := by decide +kernel
theorem dX1_drop_16 : decode cX1_drop 16 = .ok (.baload, 1) := by decide +kernel
theorem dX1_drop_17 : decode cX1_drop 17 = .ok (.ifCond .eq 20, 3) := by decide +kernel
theorem dX1_drop_20 : decode cX1_drop 20 = .ok (.aload_n 0, 1) := by decide +kernel
theorem dX1_drop_21 : decode cX1_drop 21 = .ok (.getfield 15, 3) := by decide +kernel
theorem dX1_drop_24 : decode cX1_drop 24 = .ok (.iload_n 1, 1) := by decide +kernel
theorem dX1_drop_25 : decode cX1_drop 25 = .ok (.iconst 0, 1) := by decide +kernel
theorem dX1_drop_26 : decode cX1_drop 26 = .ok (.bastore, 1) := by decide +kernel
theorem dX1_drop_27 : decode cX1_drop 27 = .ok (.aload_n 0, 1) := by decide +kernel
theorem dX1_drop_28 : decode cX1_drop 28 = .ok (.dup, 1) := by decide +kernel
theorem dX1_drop_29 : decode cX1_drop 29 = .ok (.getfield 19, 3) := by decide +kernel
theorem dX1_drop_32 : decode cX1_drop 32 = .ok (.iconst 1, 1) := by decide +kernel
theorem dX1_drop_33 : decode cX1_drop 33 = .ok (.isub, 1) := by decide +kernel
theorem dX1_drop_34 : decode cX1_drop 34 = .ok (.putfield 19, 3) := by decide +kernel
theorem dX1_drop_37 : decode cX1_drop 37 = .ok (.return_, 1) := by decide +kernel
theorem dX1_dropResource_0 : decode cX1_dropResource 0 = .ok (.iload_n 1, 1) := by decide +kernel
theorem dX1_dropResource_1 : decode cX1_dropResource 1 = .ok (.sipush 128, 3) := by decide +kernel
theorem dX1_dropResource_4 : decode cX1_dropResource 4 = .ok (.if_icmp .lt 16, 3) := by decide +kernel
theorem dX1_dropResource_7 : decode cX1_dropResource 7 = .ok (.aload_n 0, 1) := by decide +kernel
theorem dX1_dropResource_8 : decode cX1_dropResource 8 = .ok (.iload_n 1, 1) := by decide +kernel
theorem dX1_dropResource_9 : decode cX1_dropResource 9 = .ok (.sipush 128, 3) := by decide +kernel
theorem dX1_dropResource_12 : decode cX1_dropResource 12 = .ok (.isub, 1) := by decide +kernel
theorem dX1_dropResource_13 : decode cX1_dropResource 13 = .ok (.invokestatic 23, 3) := by decide +kernel
theorem dX1_dropResource_16 : decode cX1_dropResource 16 = .ok (.invokevirtual 27, 3) := by decide +kernel
theorem dX1_dropResource_19 : decode cX1_dropResource 19 = .ok (.return_, 1) := by decide +kernel
theorem dX1_dropResource_20 : decode cX1_dropResource 20 = .ok (.iload_n 1, 1) := by decide +kernel
theorem dX1_dropResource_21 : decode cX1_dropResource 21 = .ok (.invokestatic 31, 3) := by decide +kernel
theorem dX1_dropResource_24 : decode cX1_dropResource 24 = .ok (.istore_n 2, 1) := by decide +kernel
theorem dX1_dropResource_25 : decode cX1_dropResource 25 = .ok (.aload_n 0, 1) := by decide +kernel
theorem dX1_dropResource_26 : decode cX1_dropResource 26 = .ok (.getfield 15, 3) := by decide +kernel
theorem dX1_dropResource_29 : decode cX1_dropResource 29 = .ok (.iload_n 2, 1) := by decide +kernel
theorem dX1_dropResource_30 : decode cX1_dropResource 30 = .ok (.baload, 1) := by decide +kernel
theorem dX1_dropResource_31 : decode cX1_dropResource 31 = .ok (.ifCond .ne 4, 3) := by decide +kernel
theorem dX1_dropResource_34 : decode cX1_dropResource 34 = .ok (.return_, 1) := by decide +kernel
theorem dX1_dropResource_35 : decode cX1_dropResource 35 = .ok (.aload_n 0, 1) := by decide +kernel
theorem dX1_dropResource_36 : decode cX1_dropResource 36 = .ok (.iload_n 2, 1) := by decide +kernel
theorem dX1_dropResource_37 : decode cX1_dropResource 37 = .ok (.bipush 16, 2) := by decide +kernel
theorem dX1_dropResource_39 : decode cX1_dropResource 39 = .ok (.imul, 1) := by decide +kernel
theorem dX1_dropResource_40 : decode cX1_dropResource 40 = .ok (.iconst 3, 1) := by decide +kernel
theorem dX1_dropResource_41 : decode cX1_dropResource 41 = .ok (.iadd, 1) := by decide +kernel
theorem dX1_dropResource_42 : decode cX1_dropResource 42 = .ok (.bipush 8, 2) := by decide +kernel
theorem dX1_dropResource_44 : decode cX1_dropResource 44 = .ok (.invokevirtual 34, 3) := by decide +kernel
theorem dX1_dropResource_47 : decode cX1_dropResource 47 = .ok (.aload_n 0, 1) := by decide +kernel
theorem dX1_dropResource_48 : decode cX1_dropResource 48 = .ok (.getfield 9, 3) := by decide +kernel
theorem dX1_dropResource_51 : decode cX1_dropResource 51 = .ok (.iload_n 2, 1) := by decide +kernel
theorem dX1_dropResource_52 : decode cX1_dropResource 52 = .ok (.bipush 16, 2) := by decide +kernel
theorem dX1_dropResource_54 : decode cX1_dropResource 54 = .ok (.imul, 1) := by decide +kernel
theorem dX1_dropResource_55 : decode cX1_dropResource 55 = .ok (.bipush 11, 2) := by decide +kernel
theorem dX1_dropResource_57 : decode cX1_dropResource 57 = .ok (.iadd, 1) := by decide +kernel
theorem dX1_dropResource_58 : decode cX1_dropResource 58 = .ok (.iaload, 1) := by decide +kernel
theorem dX1_dropResource_59 : decode cX1_dropResource 59 = .ok (.istore_n 3, 1) := by decide +kernel
theorem dX1_dropResource_60 : decode cX1_dropResource 60 = .ok (.iload_n 3, 1) := by decide +kernel
theorem dX1_dropResource_61 : decode cX1_dropResource 61 = .ok (.invokestatic 38, 3) := by decide +kernel
theorem dX1_dropResource_64 : decode cX1_dropResource 64 = .ok (.ifCond .eq 27, 3) := by decide +kernel
theorem dX1_dropResource_67 : decode cX1_dropResource 67 = .ok (.aload_n 0, 1) := by decide +kernel
theorem dX1_dropResource_68 : decode cX1_dropResource 68 = .ok (.getfield 15, 3) := by decide +kernel
theorem dX1_dropResource_71 : decode cX1_dropResource 71 = .ok (.iload_n 3, 1) := by decide +kernel
theorem dX1_dropResource_72 : decode cX1_dropResource 72 = .ok (.baload, 1) := by decide +kernel
theorem dX1_dropResource_73 : decode cX1_dropResource 73 = .ok (.ifCond .eq 18, 3) := by decide +kernel
theorem dX1_dropResource_76 : decode cX1_dropResource 76 = .ok (.aload_n 0, 1) := by decide +kernel
theorem dX1_dropResource_77 : decode cX1_dropResource 77 = .ok (.iload_n 3, 1) := by decide +kernel
theorem dX1_dropResource_78 : decode cX1_dropResource 78 = .ok (.bipush 16, 2) := by decide +kernel
theorem dX1_dropResource_80 : decode cX1_dropResource 80 = .ok (.imul, 1) := by decide +kernel
theorem dX1_dropResource_81 : decode cX1_dropResource 81 = .ok (.bipush 16, 2) := by decide +kernel
theorem dX1_dropResource_83 : decode cX1_dropResource 83 = .ok (.invokevirtual 34, 3) := by decide +kernel
theorem dX1_dropResource_86 : decode cX1_dropResource 86 = .ok (.aload_n 0, 1) := by decide +kernel
theorem dX1_dropResource_87 : decode cX1_dropResource 87 = .ok (.iload_n 3, 1) := by decide +kernel
theorem dX1_dropResource_88 : decode cX1_dropResource 88 = .ok (.invokevirtual 27, 3) := by decide +kernel
theorem dX1_dropResource_91 : decode cX1_dropResource 91 = .ok (.aload_n 0, 1) := by decide +kernel
theorem dX1_dropResource_92 : decode cX1_dropResource 92 = .ok (.iload_n 2, 1) := by decide +kernel
theorem dX1_dropResource_93 : decode cX1_dropResource 93 = .ok (.invokevirtual 27, 3) := by decide +kernel
theorem dX1_dropResource_96 : decode cX1_dropResource 96 = .ok (.return_, 1) := by decide +kernel
theorem dX1_dropAll_0 : decode cX1_dropAll 0 = .ok (.iconst 0, 1) := by decide +kernel
theorem dX1_dropAll_1 : decode cX1_dropAll 1 = .ok (.istore_n 3, 1) := by decide +kernel
theorem dX1_dropAll_2 : decode cX1_dropAll 2 = .ok (.iload_n 3, 1) := by decide +kernel
theorem dX1_dropAll_3 : decode cX1_dropAll 3 = .ok (.iload_n 2, 1) := by decide +kernel
theorem dX1_dropAll_4 : decode cX1_dropAll 4 = .ok (.if_icmp .ge 21, 3) := by decide +kernel
theorem dX1_dropAll_7 : decode cX1_dropAll 7 = .ok (.aload_n 0, 1) := by decide +kernel
theorem dX1_dropAll_8 : decode cX1_dropAll 8 = .ok (.aload_n 0, 1) := by decide +kernel
theorem dX1_dropAll_9 : decode cX1_dropAll 9 = .ok (.getfield 9, 3) := by decide +kernel
theorem dX1_dropAll_12 : decode cX1_dropAll 12 = .ok (.iload_n 1, 1) := by decide +kernel
theorem dX1_dropAll_13 : decode cX1_dropAll 13 = .ok (.iload_n 3, 1) := by decide +kernel
theorem dX1_dropAll_14 : decode cX1_dropAll 14 = .ok (.iadd, 1) := by decide +kernel
theorem dX1_dropAll_15 : decode cX1_dropAll 15 = .ok (.iaload, 1) := by decide +kernel
theorem dX1_dropAll_16 : decode cX1_dropAll 16 = .ok (.invokevirtual 27, 3) := by decide +kernel
theorem dX1_dropAll_19 : decode cX1_dropAll 19 = .ok (.iinc 3 1, 3) := by decide +kernel
theorem dX1_dropAll_22 : decode cX1_dropAll 22 = .ok (.goto (-20), 3) := by decide +kernel
theorem dX1_dropAll_25 : decode cX1_dropAll 25 = .ok (.return_, 1) := by decide +kernel
theorem dX1_wipe_0 : decode cX1_wipe 0 = .ok (.iconst 0, 1) := by decide +kernel
theorem dX1_wipe_1 : decode cX1_wipe 1 = .ok (.istore_n 1, 1) := by decide +kernel
theorem dX1_wipe_2 : decode cX1_wipe 2 = .ok (.iload_n 1, 1) := by decide +kernel
theorem dX1_wipe_3 : decode cX1_wipe 3 = .ok (.sipush 640, 3) := by decide +kernel
theorem dX1_wipe_6 : decode cX1_wipe 6 = .ok (.if_icmp .ge 16, 3) := by decide +kernel
theorem dX1_wipe_9 : decode cX1_wipe 9 = .ok (.aload_n 0, 1) := by decide +kernel
theorem dX1_wipe_10 : decode cX1_wipe 10 = .ok (.getfield 15, 3) := by decide +kernel
theorem dX1_wipe_13 : decode cX1_wipe 13 = .ok (.iload_n 1, 1) := by decide +kernel
theorem dX1_wipe_14 : decode cX1_wipe 14 = .ok (.iconst 0, 1) := by decide +kernel
theorem dX1_wipe_15 : decode cX1_wipe 15 = .ok (.bastore, 1) := by decide +kernel
theorem dX1_wipe_16 : decode cX1_wipe 16 = .ok (.iinc 1 1, 3) := by decide +kernel
theorem dX1_wipe_19 : decode cX1_wipe 19 = .ok (.goto (-17), 3) := by decide +kernel
theorem dX1_wipe_22 : decode cX1_wipe 22 = .ok (.aload_n 0, 1) := by decide +kernel
theorem dX1_wipe_23 : decode cX1_wipe 23 = .ok (.iconst 0, 1) := by decide +kernel
theorem dX1_wipe_24 : decode cX1_wipe 24 = .ok (.putfield 19, 3) := by decide +kernel
theorem dX1_wipe_27 : decode cX1_wipe 27 = .ok (.return_, 1) := by decide +kernel
theorem dX2_init_0 : decode cX2_init 0 = .ok (.aload_n 0, 1) := by decide +kernel
theorem dX2_init_1 : decode cX2_init 1 = .ok (.invokespecial 3, 3) := by decide +kernel
theorem dX2_init_4 : decode cX2_init 4 = .ok (.aload_n 0, 1) := by decide +kernel
theorem dX2_init_5 : decode cX2_init 5 = .ok (.sipush 640, 3) := by decide +kernel
theorem dX2_init_8 : decode cX2_init 8 = .ok (.newarray .int, 2) := by decide +kernel
theorem dX2_init_10 : decode cX2_init 10 = .ok (.putfield 9, 3) := by decide +kernel
theorem dX2_init_13 : decode cX2_init 13 = .ok (.aload_n 0, 1) := by decide +kernel
theorem dX2_init_14 : decode cX2_init 14 = .ok (.sipush 128, 3) := by decide +kernel
theorem dX2_init_17 : decode cX2_init 17 = .ok (.newarray .int, 2) := by decide +kernel
theorem dX2_init_19 : decode cX2_init 19 = .ok (.putfield 15, 3) := by decide +kernel
theorem dX2_init_22 : decode cX2_init 22 = .ok (.aload_n 0, 1) := by decide +kernel
theorem dX2_init_23 : decode cX2_init 23 = .ok (.sipush 128, 3) := by decide +kernel
theorem dX2_init_26 : decode cX2_init 26 = .ok (.newarray .boolean, 2) := by decide +kernel
theorem dX2_init_28 : decode cX2_init 28 = .ok (.putfield 18, 3) := by decide +kernel
theorem dX2_init_31 : decode cX2_init 31 = .ok (.aload_n 0, 1) := by decide +kernel
theorem dX2_init_32 : decode cX2_init 32 = .ok (.sipush 128, 3) := by decide +kernel
theorem dX2_init_35 : decode cX2_init 35 = .ok (.newarray .int, 2) := by decide +kernel
theorem dX2_init_37 : decode cX2_init 37 = .ok (.putfield 22, 3) := by decide +kernel
theorem dX2_init_40 : decode cX2_init 40 = .ok (.aload_n 0, 1) := by decide +kernel
theorem dX2_init_41 : decode cX2_init 41 = .ok (.bipush 24, 2) := by decide +kernel
theorem dX2_init_43 : decode cX2_init 43 = .ok (.newarray .int, 2) := by decide +kernel
theorem dX2_init_45 : decode cX2_init 45 = .ok (.putfield 25, 3) := by decide +kernel
theorem dX2_init_48 : decode cX2_init 48 = .ok (.aload_n 0, 1) := by decide +kernel
theorem dX2_init_49 : decode cX2_init 49 = .ok (.aload_n 1, 1) := by decide +kernel
theorem dX2_init_50 : decode cX2_init 50 = .ok (.putfield 28, 3) := by decide +kernel
theorem dX2_init_53 : decode cX2_init 53 = .ok (.return_, 1) := by decide +kernel
theorem dX2_look_0 : decode cX2_look 0 = .ok (.aload_n 0, 1) := by decide +kernel
theorem dX2_look_1 : decode cX2_look 1 = .ok (.aload_n 1, 1) := by decide +kernel
theorem dX2_look_2 : decode cX2_look 2 = .ok (.invokevirtual 31, 3) := by decide +kernel
theorem dX2_look_5 : decode cX2_look 5 = .ok (.aload_n 0, 1) := by decide +kernel
theorem dX2_look_6 : decode cX2_look 6 = .ok (.invokevirtual 35, 3) := by decide +kernel
theorem dX2_look_9 : decode cX2_look 9 = .ok (.aload_n 0, 1) := by decide +kernel
theorem dX2_look_10 : decode cX2_look 10 = .ok (.getfield 38, 3) := by decide +kernel
theorem dX2_look_13 : decode cX2_look 13 = .ok (.ifCond .eq 5, 3) := by decide +kernel
theorem dX2_look_16 : decode cX2_look 16 = .ok (.iconst 1, 1) := by decide +kernel
theorem dX2_look_17 : decode cX2_look 17 = .ok (.ireturn, 1) := by decide +kernel
theorem dX2_look_18 : decode cX2_look 18 = .ok (.aload_n 0, 1) := by decide +kernel
theorem dX2_look_19 : decode cX2_look 19 = .ok (.invokevirtual 42, 3) := by decide +kernel
theorem dX2_look_22 : decode cX2_look 22 = .ok (.ifCond .eq 5, 3) := by decide +kernel
theorem dX2_look_25 : decode cX2_look 25 = .ok (.iconst 2, 1) := by decide +kernel
theorem dX2_look_26 : decode cX2_look 26 = .ok (.ireturn, 1) := by decide +kernel
theorem dX2_look_27 : decode cX2_look 27 = .ok (.aload_n 0, 1) := by decide +kernel
theorem dX2_look_28 : decode cX2_look 28 = .ok (.invokevirtual 46, 3) := by decide +kernel
theorem dX2_look_31 : decode cX2_look 31 = .ok (.ifCond .eq 5, 3) := by decide +kernel
theorem dX2_look_34 : decode cX2_look 34 = .ok (.iconst 3, 1) := by decide +kernel
theorem dX2_look_35 : decode cX2_look 35 = .ok (.ireturn, 1) := by decide +kernel
theorem dX2_look_36 : decode cX2_look 36 = .ok (.aload_n 0, 1) := by decide +kernel
theorem dX2_look_37 : decode cX2_look 37 = .ok (.invokevirtual 49, 3) := by decide +kernel
theorem dX2_look_40 : decode cX2_look 40 = .ok (.ifCond .eq 5, 3) := by decide +kernel
theorem dX2_look_43 : decode cX2_look 43 = .ok (.iconst 4, 1) := by decide +kernel
theorem dX2_look_44 : decode cX2_look 44 = .ok (.ireturn, 1) := by decide +kernel
theorem dX2_look_45 : decode cX2_look 45 = .ok (.aload_n 0, 1) := by decide +kernel
theorem dX2_look_46 : decode cX2_look 46 = .ok (.invokevirtual 52, 3) := by decide +kernel
theorem dX2_look_49 : decode cX2_look 49 = .ok (.ifCond .ne 5, 3) := by decide +kernel
theorem dX2_look_52 : decode cX2_look 52 = .ok (.iconst 5, 1) := by decide +kernel
theorem dX2_look_53 : decode cX2_look 53 = .ok (.ireturn, 1) := by decide +kernel
theorem dX2_look_54 : decode cX2_look 54 = .ok (.aload_n 0, 1) := by decide +kernel
theorem dX2_look_55 : decode cX2_look 55 = .ok (.invokevirtual 55, 3) := by decide +kernel
theorem dX2_look_58 : decode cX2_look 58 = .ok (.ifCond .eq 8, 3) := by decide +kernel
theorem dX2_look_61 : decode cX2_look 61 = .ok (.bipush 6, 2) := by decide +kernel
theorem dX2_look_63 : decode cX2_look 63 = .ok (.goto 4, 3) := by decide +kernel
theorem dX2_look_66 : decode cX2_look 66 = .ok (.iconst 0, 1) := by decide +kernel
theorem dX2_look_67 : decode cX2_look 67 = .ok (.ireturn, 1) := by decide +kernel
theorem dX2_recoverAll_0 : decode cX2_recoverAll 0 = .ok (.iconst 0, 1) := by decide +kernel
theorem dX2_recoverAll_1 : decode cX2_recoverAll 1 = .ok (.istore_n 2, 1) := by decide +kernel
theorem dX2_recoverAll_2 : decode cX2_recoverAll 2 = .ok (.iload_n 2, 1) := by decide +kernel
theorem dX2_recoverAll_3 : decode cX2_recoverAll 3 = .ok (.sipush 640, 3) := by decide +kernel
theorem dX2_recoverAll_6 : decode cX2_recoverAll 6 = .ok (.if_icmp .ge 16, 3) := by decide +kernel
theorem dX2_recoverAll_9 : decode cX2_recoverAll 9 = .ok (.aload_n 0, 1) := by decide +kernel
theorem dX2_recoverAll_10 : decode cX2_recoverAll 10 = .ok (.getfield 9, 3) := by decide +kernel
theorem dX2_recoverAll_13 : decode cX2_recoverAll 13 = .ok (.iload_n 2, 1) := by decide +kernel
theorem dX2_recoverAll_14 : decode cX2_recoverAll 14 = .ok (.iload_n 2, 1) := by decide +kernel
theorem dX2_recoverAll_15 : decode cX2_recoverAll 15 = .ok (.iastore, 1) := by decide +kernel
theorem dX2_recoverAll_16 : decode cX2_recoverAll 16 = .ok (.iinc 2 1, 3) := by decide +kernel
theorem dX2_recoverAll_19 : decode cX2_recoverAll 19 = .ok (.goto (-17), 3) := by decide +kernel
theorem dX2_recoverAll_22 : decode cX2_recoverAll 22 = .ok (.iconst 0, 1) := by decide +kernel
theorem dX2_recoverAll_23 : decode cX2_recoverAll 23 = .ok (.istore_n 2, 1) := by decide +kernel
theorem dX2_recoverAll_24 : decode cX2_recoverAll 24 = .ok (.iload_n 2, 1) := by decide +kernel
theorem dX2_recoverAll_25 : decode cX2_recoverAll 25 = .ok (.aload_n 1, 1) := by decide +kernel
theorem dX2_recoverAll_26 : decode cX2_recoverAll 26 = .ok (.arraylength, 1) := by decide +kernel
theorem dX2_recoverAll_27 : decode cX2_recoverAll 27 = .ok (.if_icmp .ge 112, 3) := by decide +kernel
theorem dX2_recoverAll_30 : decode cX2_recoverAll 30 = .ok (.iload_n 2, 1) := by decide +kernel
theorem dX2_recoverAll_31 : decode cX2_recoverAll 31 = .ok (.invokestatic 58, 3) := by decide +kernel
theorem dX2_recoverAll_34 : decode cX2_recoverAll 34 = .ok (.istore_n 3, 1) := by decide +kernel
theorem dX2_recoverAll_35 : decode cX2_recoverAll 35 = .ok (.aload_n 1, 1) := by decide +kernel
theorem dX2_recoverAll_36 : decode cX2_recoverAll 36 = .ok (.iload_n 2, 1) := by decide +kernel
theorem dX2_recoverAll_37 : decode cX2_recoverAll 37 = .ok (.aaload, 1) := by decide +kernel
theorem dX2_recoverAll_38 : decode cX2_recoverAll 38 = .ok (.getfield 62, 3) := by decide +kernel
theorem dX2_recoverAll_41 : decode cX2_recoverAll 41 = .ok (.ifCond .eq 92, 3) := by decide +kernel
theorem dX2_recoverAll_44 : decode cX2_recoverAll 44 = .ok (.aload_n 0, 1) := by decide +kernel
theorem dX2_recoverAll_45 : decode cX2_recoverAll 45 = .ok (.getfield 28, 3) := by decide +kernel
theorem dX2_recoverAll_48 : decode cX2_recoverAll 48 = .ok (.iload_n 3, 1) := by decide +kernel
theorem dX2_recoverAll_49 : decode cX2_recoverAll 49 = .ok (.bipush 16, 2) := by decide +kernel
theorem dX2_recoverAll_51 : decode cX2_recoverAll 51 = .ok (.imul, 1) := by decide +kernel
theorem dX2_recoverAll_52 : decode cX2_recoverAll 52 = .ok (.iconst 2, 1) := by decide +kernel
theorem dX2_recoverAll_53 : decode cX2_recoverAll 53 = .ok (.iadd, 1) := by decide +kernel
theorem dX2_recoverAll_54 : decode cX2_recoverAll 54 = .ok (.iaload, 1) := by decide +kernel
theorem dX2_recoverAll_55 : decode cX2_recoverAll 55 = .ok (.iconst 1, 1) := by decide +kernel
theorem dX2_recoverAll_56 : decode cX2_recoverAll 56 = .ok (.if_icmp .eq 6, 3) := by decide +kernel
theorem dX2_recoverAll_59 : decode cX2_recoverAll 59 = .ok (.goto 74, 3) := by decide +kernel
theorem dX2_recoverAll_62 : decode cX2_recoverAll 62 = .ok (.bipush 16, 2) := by decide +kernel
theorem dX2_recoverAll_64 : decode cX2_recoverAll 64 = .ok (.aload_n 0, 1) := by decide +kernel
theorem dX2_recoverAll_65 : decode cX2_recoverAll 65 = .ok (.getfield 28, 3) := by decide +kernel
theorem dX2_recoverAll_68 : decode cX2_recoverAll 68 = .ok (.iload_n 3, 1) := by decide +kernel
theorem dX2_recoverAll_69 : decode cX2_recoverAll 69 = .ok (.bipush 16, 2) := by decide +kernel
theorem dX2_recoverAll_71 : decode cX2_recoverAll 71 = .ok (.imul, 1) := by decide +kernel
theorem dX2_recoverAll_72 : decode cX2_recoverAll 72 = .ok (.iconst 1, 1) := by decide +kernel
theorem dX2_recoverAll_73 : decode cX2_recoverAll 73 = .ok (.iadd, 1) := by decide +kernel
theorem dX2_recoverAll_74 : decode cX2_recoverAll 74 = .ok (.iaload, 1) := by decide +kernel
theorem dX2_recoverAll_75 : decode cX2_recoverAll 75 = .ok (.invokestatic 67, 3) := by decide +kernel
theorem dX2_recoverAll_78 : decode cX2_recoverAll 78 = .ok (.istore 4, 2) := by decide +kernel
theorem dX2_recoverAll_80 : decode cX2_recoverAll 80 = .ok (.iconst 0, 1) := by decide +kernel
theorem dX2_recoverAll_81 : decode cX2_recoverAll 81 = .ok (.istore 5, 2) := by decide +kernel
theorem dX2_recoverAll_83 : decode cX2_recoverAll 83 = .ok (.iload 5, 2) := by decide +kernel
theorem dX2_recoverAll_85 : decode cX2_recoverAll 85 = .ok (.iload 4, 2) := by decide +kernel
theorem dX2_recoverAll_87 : decode cX2_recoverAll 87 = .ok (.if_icmp .ge 46, 3) := by decide +kernel
theorem dX2_recoverAll_90 : decode cX2_recoverAll 90 = .ok (.aload_n 0, 1) := by decide +kernel
theorem dX2_recoverAll_91 : decode cX2_recoverAll 91 = .ok (.getfield 28, 3) := by decide +kernel
theorem dX2_recoverAll_94 : decode cX2_recoverAll 94 = .ok (.iload_n 3, 1) := by decide +kernel
theorem dX2_recoverAll_95 : decode cX2_recoverAll 95 = .ok (.iconst 1, 1) := by decide +kernel
theorem dX2_recoverAll_96 : decode cX2_recoverAll 96 = .ok (.iadd, 1) := by decide +kernel
theorem dX2_recoverAll_97 : decode cX2_recoverAll 97 = .ok (.bipush 16, 2) := by decide +kernel
theorem dX2_recoverAll_99 : decode cX2_recoverAll 99 = .ok (.imul, 1) := by decide +kernel
theorem dX2_recoverAll_100 : decode cX2_recoverAll 100 = .ok (.iload 5, 2) := by decide +kernel
theorem dX2_recoverAll_102 : decode cX2_recoverAll 102 = .ok (.iadd, 1) := by decide +kernel
theorem dX2_recoverAll_103 : decode cX2_recoverAll 103 = .ok (.iaload, 1) := by decide +kernel
theorem dX2_recoverAll_104 : decode cX2_recoverAll 104 = .ok (.istore 6, 2) := by decide +kernel
theorem dX2_recoverAll_106 : decode cX2_recoverAll 106 = .ok (.iload 6, 2) := by decide +kernel
theorem dX2_recoverAll_108 : decode cX2_recoverAll 108 = .ok (.invokestatic 73, 3) := by decide +kernel
theorem dX2_recoverAll_111 : decode cX2_recoverAll 111 = .ok (.ifCond .eq 16, 3) := by decide +kernel
theorem dX2_recoverAll_114 : decode cX2_recoverAll 114 = .ok (.aload_n 0, 1) := by decide +kernel
theorem dX2_recoverAll_115 : decode cX2_recoverAll 115 = .ok (.getfield 9, 3) := by decide +kernel
theorem dX2_recoverAll_118 : decode cX2_recoverAll 118 = .ok (.iload 6, 2) := by decide +kernel
theorem dX2_recoverAll_120 : decode cX2_recoverAll 120 = .ok (.iload_n 3, 1) := by decide +kernel
theorem dX2_recoverAll_121 : decode cX2_recoverAll 121 = .ok (.iconst 2, 1) := by decide +kernel
theorem dX2_recoverAll_122 : decode cX2_recoverAll 122 = .ok (.iadd, 1) := by decide +kernel
theorem dX2_recoverAll_123 : decode cX2_recoverAll 123 = .ok (.iload 5, 2) := by decide +kernel
theorem dX2_recoverAll_125 : decode cX2_recoverAll 125 = .ok (.iadd, 1) := by decide +kernel
theorem dX2_recoverAll_126 : decode cX2_recoverAll 126 = .ok (.iastore, 1) := by decide +kernel
theorem dX2_recoverAll_127 : decode cX2_recoverAll 127 = .ok (.iinc 5 1, 3) := by decide +kernel
theorem dX2_recoverAll_130 : decode cX2_recoverAll 130 = .ok (.goto (-47), 3) := by decide +kernel
theorem dX2_recoverAll_133 : decode cX2_recoverAll 133 = .ok (.iinc 2 1, 3) := by decide +kernel
theorem dX2_recoverAll_136 : decode cX2_recoverAll 136 = .ok (.goto (-112), 3) := by decide +kernel
theorem dX2_recoverAll_139 : decode cX2_recoverAll 139 = .ok (.return_, 1) := by decide +kernel
theorem dX2_at_0 : decode cX2_at 0 = .ok (.iload_n 1, 1) := by decide +kernel
theorem dX2_at_1 : decode cX2_at 1 = .ok (.iload_n 2, 1) := by decide +kernel
theorem dX2_at_2 : decode cX2_at 2 = .ok (.invokestatic 77, 3) := by decide +kernel
theorem dX2_at_5 : decode cX2_at 5 = .ok (.ifCond .eq 22, 3) := by decide +kernel
theorem dX2_at_8 : decode cX2_at 8 = .ok (.aload_n 0, 1) := by decide +kernel
theorem dX2_at_9 : decode cX2_at 9 = .ok (.getfield 28, 3) := by decide +kernel
theorem dX2_at_12 : decode cX2_at 12 = .ok (.aload_n 0, 1) := by decide +kernel
theorem dX2_at_13 : decode cX2_at 13 = .ok (.getfield 9, 3) := by decide +kernel
theorem dX2_at_16 : decode cX2_at 16 = .ok (.iload_n 1, 1) := by decide +kernel
theorem dX2_at_17 : decode cX2_at 17 = .ok (.iaload, 1) := by decide +kernel
theorem dX2_at_18 : decode cX2_at 18 = .ok (.bipush 16, 2) := by decide +kernel
theorem dX2_at_20 : decode cX2_at 20 = .ok (.imul, 1) := by decide +kernel
theorem dX2_at_21 : decode cX2_at 21 = .ok (.iload_n 2, 1) := by decide +kernel
theorem dX2_at_22 : decode cX2_at 22 = .ok (.iadd, 1) := by decide +kernel
theorem dX2_at_23 : decode cX2_at 23 = .ok (.iaload, 1) := by decide +kernel
theorem dX2_at_24 : decode cX2_at 24 = .ok (.goto 4, 3) := by decide +kernel
theorem dX2_at_27 : decode cX2_at 27 = .ok (.iconst 0, 1) := by decide +kernel
theorem dX2_at_28 : decode cX2_at 28 = .ok (.ireturn, 1) := by decide +kernel
theorem dX2_kindOf_0 : decode cX2_kindOf 0 = .ok (.aload_n 0, 1) := by decide +kernel
theorem dX2_kindOf_1 : decode cX2_kindOf 1 = .ok (.iload_n 1, 1) := by decide +kernel
theorem dX2_kindOf_2 : decode cX2_kindOf 2 = .ok (.invokestatic 81, 3) := by decide +kernel
theorem dX2_kindOf_5 : decode cX2_kindOf 5 = .ok (.iconst 0, 1) := by decide +kernel
theorem dX2_kindOf_6 : decode cX2_kindOf 6 = .ok (.invokevirtual 84, 3) := by decide +kernel
theorem dX2_kindOf_9 : decode cX2_kindOf 9 = .ok (.ireturn, 1) := by decide +kernel
theorem dX2_walk_0 : decode cX2_walk 0 = .ok (.aload_n 0, 1) := by decide +kernel
theorem dX2_walk_1 : decode cX2_walk 1 = .ok (.getfield 15, 3) := by decide +kernel
theorem dX2_walk_4 : decode cX2_walk 4 = .ok (.iconst 0, 1) := by decide +kernel
theorem dX2_walk_5 : decode cX2_walk 5 = .ok (.invokestatic 87, 3) := by decide +kernel
theorem dX2_walk_8 : decode cX2_walk 8 = .ok (.iconst 0, 1) := by decide +kernel
theorem dX2_walk_9 : decode cX2_walk 9 = .ok (.istore_n 1, 1) := by decide +kernel
theorem dX2_walk_10 : decode cX2_walk 10 = .ok (.iload_n 1, 1) := by decide +kernel
theorem dX2_walk_11 : decode cX2_walk 11 = .ok (.sipush 128, 3) := by decide +kernel
theorem dX2_walk_14 : decode cX2_walk 14 = .ok (.if_icmp .ge 16, 3) := by decide +kernel
theorem dX2_walk_17 : decode cX2_walk 17 = .ok (.aload_n 0, 1) := by decide +kernel
theorem dX2_walk_18 : decode cX2_walk 18 = .ok (.getfield 18, 3) := by decide +kernel
theorem dX2_walk_21 : decode cX2_walk 21 = .ok (.iload_n 1, 1) := by decide +kernel
theorem dX2_walk_22 : decode cX2_walk 22 = .ok (.iconst 0, 1) := by decide +kernel
theorem dX2_walk_23 : decode cX2_walk 23 = .ok (.bastore, 1) := by decide +kernel
theorem dX2_walk_24 : decode cX2_walk 24 = .ok (.iinc 1 1, 3) := by decide +kernel
theorem dX2_walk_27 : decode cX2_walk 27 = .ok (.goto (-17), 3) := by decide +kernel
theorem dX2_walk_30 : decode cX2_walk 30 = .ok (.aload_n 0, 1) := by decide +kernel
theorem dX2_walk_31 : decode cX2_walk 31 = .ok (.iconst 0, 1) := by decide +kernel
theorem dX2_walk_32 : decode cX2_walk 32 = .ok (.putfield 38, 3) := by decide +kernel
theorem dX2_walk_35 : decode cX2_walk 35 = .ok (.aload_n 0, 1) := by decide +kernel
theorem dX2_walk_36 : decode cX2_walk 36 = .ok (.iconst 0, 1) := by decide +kernel
theorem dX2_walk_37 : decode cX2_walk 37 = .ok (.putfield 93, 3) := by decide +kernel
theorem dX2_walk_40 : decode cX2_walk 40 = .ok (.aload_n 0, 1) := by decide +kernel
theorem dX2_walk_41 : decode cX2_walk 41 = .ok (.iconst 0, 1) := by decide +kernel
theorem dX2_walk_42 : decode cX2_walk 42 = .ok (.invokevirtual 97, 3) := by decide +kernel
theorem dX2_walk_45 : decode cX2_walk 45 = .ok (.iconst 0, 1) := by decide +kernel
theorem dX2_walk_46 : decode cX2_walk 46 = .ok (.istore_n 1, 1) := by decide +kernel
theorem dX2_walk_47 : decode cX2_walk 47 = .ok (.iload_n 1, 1) := by decide +kernel
theorem dX2_walk_48 : decode cX2_walk 48 = .ok (.aload_n 0, 1) := by decide +kernel
theorem dX2_walk_49 : decode cX2_walk 49 = .ok (.getfield 93, 3) := by decide +kernel
theorem dX2_walk_52 : decode cX2_walk 52 = .ok (.if_icmp .ge 26, 3) := by decide +kernel
theorem dX2_walk_55 : decode cX2_walk 55 = .ok (.iload_n 1, 1) := by decide +kernel
theorem dX2_walk_56 : decode cX2_walk 56 = .ok (.sipush 128, 3) := by decide +kernel
theorem dX2_walk_59 : decode cX2_walk 59 = .ok (.if_icmp .ge 19, 3) := by decide +kernel
theorem dX2_walk_62 : decode cX2_walk 62 = .ok (.aload_n 0, 1) := by decide +kernel
theorem dX2_walk_63 : decode cX2_walk 63 = .ok (.aload_n 0, 1) := by decide +kernel
theorem dX2_walk_64 : decode cX2_walk 64 = .ok (.getfield 22, 3) := by decide +kernel
theorem dX2_walk_67 : decode cX2_walk 67 = .ok (.iload_n 1, 1) := by decide +kernel
theorem dX2_walk_68 : decode cX2_walk 68 = .ok (.iaload, 1) := by decide +kernel
theorem dX2_walk_69 : decode cX2_walk 69 = .ok (.invokevirtual 101, 3) := by decide +kernel
theorem dX2_walk_72 : decode cX2_walk 72 = .ok (.iinc 1 1, 3) := by decide +kernel
theorem dX2_walk_75 : decode cX2_walk 75 = .ok (.goto (-28), 3) := by decide +kernel
theorem dX2_walk_78 : decode cX2_walk 78 = .ok (.return_, 1) := by decide +kernel
theorem dX2_reach_0 : decode cX2_reach 0 = .ok (.aload_n 0, 1) := by decide +kernel
theorem dX2_reach_1 : decode cX2_reach 1 = .ok (.getfield 18, 3) := by decide +kernel
theorem dX2_reach_4 : decode cX2_reach 4 = .ok (.iload_n 1, 1) := by decide +kernel
theorem dX2_reach_5 : decode cX2_reach 5 = .ok (.baload, 1) := by decide +kernel
theorem dX2_reach_6 : decode cX2_reach 6 = .ok (.ifCond .ne 49, 3) := by decide +kernel
theorem dX2_reach_9 : decode cX2_reach 9 = .ok (.aload_n 0, 1) := by decide +kernel
theorem dX2_reach_10 : decode cX2_reach 10 = .ok (.getfield 18, 3) := by decide +kernel
theorem dX2_reach_13 : decode cX2_reach 13 = .ok (.iload_n 1, 1) := by decide +kernel
theorem dX2_reach_14 : decode cX2_reach 14 = .ok (.iconst 1, 1) := by decide +kernel
theorem dX2_reach_15 : decode cX2_reach 15 = .ok (.bastore, 1) := by decide +kernel
theorem dX2_reach_16 : decode cX2_reach 16 = .ok (.aload_n 0, 1) := by decide +kernel
theorem dX2_reach_17 : decode cX2_reach 17 = .ok (.iload_n 1, 1) := by decide +kernel
theorem dX2_reach_18 : decode cX2_reach 18 = .ok (.invokevirtual 104, 3) := by decide +kernel
theorem dX2_reach_21 : decode cX2_reach 21 = .ok (.iconst 2, 1) := by decide +kernel
theorem dX2_reach_22 : decode cX2_reach 22 = .ok (.if_icmp .ne 33, 3) := by decide +kernel
theorem dX2_reach_25 : decode cX2_reach 25 = .ok (.aload_n 0, 1) := by decide +kernel
theorem dX2_reach_26 : decode cX2_reach 26 = .ok (.getfield 93, 3) := by decide +kernel
theorem dX2_reach_29 : decode cX2_reach 29 = .ok (.sipush 128, 3) := by decide +kernel
theorem dX2_reach_32 : decode cX2_reach 32 = .ok (.if_icmp .ge 23, 3) := by decide +kernel
theorem dX2_reach_35 : decode cX2_reach 35 = .ok (.aload_n 0, 1) := by decide +kernel
theorem dX2_reach_36 : decode cX2_reach 36 = .ok (.getfield 22, 3) := by decide +kernel
theorem dX2_reach_39 : decode cX2_reach 39 = .ok (.aload_n 0, 1) := by decide +kernel
theorem dX2_reach_40 : decode cX2_reach 40 = .ok (.getfield 93, 3) := by decide +kernel
theorem dX2_reach_43 : decode cX2_reach 43 = .ok (.iload_n 1, 1) := by decide +kernel
theorem dX2_reach_44 : decode cX2_reach 44 = .ok (.iastore, 1) := by decide +kernel
theorem dX2_reach_45 : decode cX2_reach 45 = .ok (.aload_n 0, 1) := by decide +kernel
theorem dX2_reach_46 : decode cX2_reach 46 = .ok (.dup, 1) := by decide +kernel
theorem dX2_reach_47 : decode cX2_reach 47 = .ok (.getfield 93, 3) := by decide +kernel
theorem dX2_reach_50 : decode cX2_reach 50 = .ok (.iconst 1, 1) := by decide +kernel
theorem dX2_reach_51 : decode cX2_reach 51 = .ok (.iadd, 1) := by decide +kernel
theorem dX2_reach_52 : decode cX2_reach 52 = .ok (.putfield 93, 3) := by decide +kernel
theorem dX2_reach_55 : decode cX2_reach 55 = .ok (.return_, 1) := by decide +kernel
theorem dX2_followEntries_0 : decode cX2_followEntries 0 = .ok (.iload_n 1, 1) := by decide +kernel
theorem dX2_followEntries_1 : decode cX2_followEntries 1 = .ok (.invokestatic 81, 3) := by decide +kernel
theorem dX2_followEntries_4 : decode cX2_followEntries 4 = .ok (.istore_n 2, 1) := by decide +kernel
theorem dX2_followEntries_5 : decode cX2_followEntries 5 = .ok (.sipush 384, 3) := by decide +kernel
theorem dX2_followEntries_8 : decode cX2_followEntries 8 = .ok (.aload_n 0, 1) := by decide +kernel
theorem dX2_followEntries_9 : decode cX2_followEntries 9 = .ok (.iload_n 2, 1) := by decide +kernel
theorem dX2_followEntries_10 : decode cX2_followEntries 10 = .ok (.iconst 2, 1) := by decide +kernel
theorem dX2_followEntries_11 : decode cX2_followEntries 11 = .ok (.invokevirtual 84, 3) := by decide +kernel
theorem dX2_followEntries_14 : decode cX2_followEntries 14 = .ok (.invokestatic 67, 3) := by decide +kernel
theorem dX2_followEntries_17 : decode cX2_followEntries 17 = .ok (.istore_n 3, 1) := by decide +kernel
theorem dX2_followEntries_18 : decode cX2_followEntries 18 = .ok (.aload_n 0, 1) := by decide +kernel
theorem dX2_followEntries_19 : decode cX2_followEntries 19 = .ok (.iload_n 2, 1) := by decide +kernel
theorem dX2_followEntries_20 : decode cX2_followEntries 20 = .ok (.bipush 11, 2) := by decide +kernel
theorem dX2_followEntries_22 : decode cX2_followEntries 22 = .ok (.invokevirtual 84, 3) := by decide +kernel
theorem dX2_followEntries_25 : decode cX2_followEntries 25 = .ok (.istore 4, 2) := by decide +kernel
theorem dX2_followEntries_27 : decode cX2_followEntries 27 = .ok (.iconst 0, 1) := by decide +kernel
theorem dX2_followEntries_28 : decode cX2_followEntries 28 = .ok (.istore 5, 2) := by decide +kernel
theorem dX2_followEntries_30 : decode cX2_followEntries 30 = .ok (.iload 5, 2) := by decide +kernel
theorem dX2_followEntries_32 : decode cX2_followEntries 32 = .ok (.iload_n 3, 1) := by decide +kernel
theorem dX2_followEntries_33 : decode cX2_followEntries 33 = .ok (.if_icmp .ge 136, 3) := by decide +kernel
theorem dX2_followEntries_36 : decode cX2_followEntries 36 = .ok (.iload 5, 2) := by decide +kernel
theorem dX2_followEntries_38 : decode cX2_followEntries 38 = .ok (.bipush 16, 2) := by decide +kernel
theorem dX2_followEntries_40 : decode cX2_followEntries 40 = .ok (.idiv, 1) := by decide +kernel
theorem dX2_followEntries_41 : decode cX2_followEntries 41 = .ok (.istore 6, 2) := by decide +kernel
theorem dX2_followEntries_43 : decode cX2_followEntries 43 = .ok (.iload 6, 2) := by decide +kernel
theorem dX2_followEntries_45 : decode cX2_followEntries 45 = .ok (.bipush 8, 2) := by decide +kernel
theorem dX2_followEntries_47 : decode cX2_followEntries 47 = .ok (.if_icmp .ge 15, 3) := by decide +kernel
theorem dX2_followEntries_50 : decode cX2_followEntries 50 = .ok (.aload_n 0, 1) := by decide +kernel
theorem dX2_followEntries_51 : decode cX2_followEntries 51 = .ok (.iload_n 2, 1) := by decide +kernel
theorem dX2_followEntries_52 : decode cX2_followEntries 52 = .ok (.iconst 3, 1) := by decide +kernel
theorem dX2_followEntries_53 : decode cX2_followEntries 53 = .ok (.iload 6, 2) := by decide +kernel
theorem dX2_followEntries_55 : decode cX2_followEntries 55 = .ok (.iadd, 1) := by decide +kernel
theorem dX2_followEntries_56 : decode cX2_followEntries 56 = .ok (.invokevirtual 84, 3) := by decide +kernel
theorem dX2_followEntries_59 : decode cX2_followEntries 59 = .ok (.goto 23, 3) := by decide +kernel
theorem dX2_followEntries_62 : decode cX2_followEntries 62 = .ok (.iload 4, 2) := by decide +kernel
theorem dX2_followEntries_64 : decode cX2_followEntries 64 = .ok (.ifCond .ne 7, 3) := by decide +kernel
theorem dX2_followEntries_67 : decode cX2_followEntries 67 = .ok (.iconst 0, 1) := by decide +kernel
theorem dX2_followEntries_68 : decode cX2_followEntries 68 = .ok (.goto 14, 3) := by decide +kernel
theorem dX2_followEntries_71 : decode cX2_followEntries 71 = .ok (.aload_n 0, 1) := by decide +kernel
theorem dX2_followEntries_72 : decode cX2_followEntries 72 = .ok (.iload 4, 2) := by decide +kernel
theorem dX2_followEntries_74 : decode cX2_followEntries 74 = .ok (.iload 6, 2) := by decide +kernel
theorem dX2_followEntries_76 : decode cX2_followEntries 76 = .ok (.bipush 8, 2) := by decide +kernel
theorem dX2_followEntries_78 : decode cX2_followEntries 78 = .ok (.isub, 1) := by decide +kernel
theorem dX2_followEntries_79 : decode cX2_followEntries 79 = .ok (.invokevirtual 84, 3) := by decide +kernel
theorem dX2_followEntries_82 : decode cX2_followEntries 82 = .ok (.istore 7, 2) := by decide +kernel
theorem dX2_followEntries_84 : decode cX2_followEntries 84 = .ok (.iload 7, 2) := by decide +kernel
theorem dX2_followEntries_86 : decode cX2_followEntries 86 = .ok (.ifCond .eq 77, 3) := by decide +kernel
theorem dX2_followEntries_89 : decode cX2_followEntries 89 = .ok (.aload_n 0, 1) := by decide +kernel
theorem dX2_followEntries_90 : decode cX2_followEntries 90 = .ok (.iload 7, 2) := by decide +kernel
theorem dX2_followEntries_92 : decode cX2_followEntries 92 = .ok (.iload 5, 2) := by decide +kernel
theorem dX2_followEntries_94 : decode cX2_followEntries 94 = .ok (.bipush 16, 2) := by decide +kernel
theorem dX2_followEntries_96 : decode cX2_followEntries 96 = .ok (.irem, 1) := by decide +kernel
theorem dX2_followEntries_97 : decode cX2_followEntries 97 = .ok (.invokevirtual 84, 3) := by decide +kernel
theorem dX2_followEntries_100 : decode cX2_followEntries 100 = .ok (.ifCond .ne 6, 3) := by decide +kernel
theorem dX2_followEntries_103 : decode cX2_followEntries 103 = .ok (.goto 60, 3) := by decide +kernel
theorem dX2_followEntries_106 : decode cX2_followEntries 106 = .ok (.aload_n 0, 1) := by decide +kernel
theorem dX2_followEntries_107 : decode cX2_followEntries 107 = .ok (.iload 7, 2) := by decide +kernel
theorem dX2_followEntries_109 : decode cX2_followEntries 109 = .ok (.iload 5, 2) := by decide +kernel
theorem dX2_followEntries_111 : decode cX2_followEntries 111 = .ok (.bipush 16, 2) := by decide +kernel
theorem dX2_followEntries_113 : decode cX2_followEntries 113 = .ok (.irem, 1) := by decide +kernel
theorem dX2_followEntries_114 : decode cX2_followEntries 114 = .ok (.iconst 1, 1) := by decide +kernel
theorem dX2_followEntries_115 : decode cX2_followEntries 115 = .ok (.iadd, 1) := by decide +kernel
theorem dX2_followEntries_116 : decode cX2_followEntries 116 = .ok (.invokevirtual 84, 3) := by decide +kernel
theorem dX2_followEntries_119 : decode cX2_followEntries 119 = .ok (.istore 8, 2) := by decide +kernel
theorem dX2_followEntries_121 : decode cX2_followEntries 121 = .ok (.iload 8, 2) := by decide +kernel
theorem dX2_followEntries_123 : decode cX2_followEntries 123 = .ok (.invokestatic 107, 3) := by decide +kernel
theorem dX2_followEntries_126 : decode cX2_followEntries 126 = .ok (.ifCond .eq 12, 3) := by decide +kernel
theorem dX2_followEntries_129 : decode cX2_followEntries 129 = .ok (.aload_n 0, 1) := by decide +kernel
theorem dX2_followEntries_130 : decode cX2_followEntries 130 = .ok (.iload 8, 2) := by decide +kernel
theorem dX2_followEntries_132 : decode cX2_followEntries 132 = .ok (.invokevirtual 104, 3) := by decide +kernel
theorem dX2_followEntries_135 : decode cX2_followEntries 135 = .ok (.ifCond .ne 11, 3) := by decide +kernel
theorem dX2_followEntries_138 : decode cX2_followEntries 138 = .ok (.aload_n 0, 1) := by decide +kernel
theorem dX2_followEntries_139 : decode cX2_followEntries 139 = .ok (.iconst 1, 1) := by decide +kernel
theorem dX2_followEntries_140 : decode cX2_followEntries 140 = .ok (.putfield 38, 3) := by decide +kernel
theorem dX2_followEntries_143 : decode cX2_followEntries 143 = .ok (.goto 20, 3) := by decide +kernel
theorem dX2_followEntries_146 : decode cX2_followEntries 146 = .ok (.aload_n 0, 1) := by decide +kernel
theorem dX2_followEntries_147 : decode cX2_followEntries 147 = .ok (.getfield 15, 3) := by decide +kernel
theorem dX2_followEntries_150 : decode cX2_followEntries 150 = .ok (.iload 8, 2) := by decide +kernel
theorem dX2_followEntries_152 : decode cX2_followEntries 152 = .ok (.dup2, 1) := by decide +kernel
theorem dX2_followEntries_153 : decode cX2_followEntries 153 = .ok (.iaload, 1) := by decide +kernel
theorem dX2_followEntries_154 : decode cX2_followEntries 154 = .ok (.iconst 1, 1) := by decide +kernel
theorem dX2_followEntries_155 : decode cX2_followEntries 155 = .ok (.iadd, 1) := by decide +kernel
theorem dX2_followEntries_156 : decode cX2_followEntries 156 = .ok (.iastore, 1) := by decide +kernel
theorem dX2_followEntries_157 : decode cX2_followEntries 157 = .ok (.aload_n 0, 1) := by decide +kernel
theorem dX2_followEntries_158 : decode cX2_followEntries 158 = .ok (.iload 8, 2) := by decide +kernel
theorem dX2_followEntries_160 : decode cX2_followEntries 160 = .ok (.invokevirtual 97, 3) := by decide +kernel
theorem dX2_followEntries_163 : decode cX2_followEntries 163 = .ok (.iinc 5 2, 3) := by decide +kernel
theorem dX2_followEntries_166 : decode cX2_followEntries 166 = .ok (.goto (-136), 3) := by decide +kernel
theorem dX2_followEntries_169 : decode cX2_followEntries 169 = .ok (.return_, 1) := by decide +kernel
theorem dX2_isNamedTwice_0 : decode cX2_isNamedTwice 0 = .ok (.iconst 1, 1) := by decide +kernel
theorem dX2_isNamedTwice_1 : decode cX2_isNamedTwice 1 = .ok (.istore_n 1, 1) := by decide +kernel
theorem dX2_isNamedTwice_2 : decode cX2_isNamedTwice 2 = .ok (.iload_n 1, 1) := by decide +kernel
theorem dX2_isNamedTwice_3 : decode cX2_isNamedTwice 3 = .ok (.sipush 128, 3) := by decide +kernel
theorem dX2_isNamedTwice_6 : decode cX2_isNamedTwice 6 = .ok (.if_icmp .ge 30, 3) := by decide +kernel
theorem dX2_isNamedTwice_9 : decode cX2_isNamedTwice 9 = .ok (.aload_n 0, 1) := by decide +kernel
theorem dX2_isNamedTwice_10 : decode cX2_isNamedTwice 10 = .ok (.getfield 15, 3) := by decide +kernel
theorem dX2_isNamedTwice_13 : decode cX2_isNamedTwice 13 = .ok (.iload_n 1, 1) := by decide +kernel
theorem dX2_isNamedTwice_14 : decode cX2_isNamedTwice 14 = .ok (.iaload, 1) := by decide +kernel
theorem dX2_isNamedTwice_15 : decode cX2_isNamedTwice 15 = .ok (.iconst 1, 1) := by decide +kernel
theorem dX2_isNamedTwice_16 : decode cX2_isNamedTwice 16 = .ok (.if_icmp .le 14, 3) := by decide +kernel
theorem dX2_isNamedTwice_19 : decode cX2_isNamedTwice 19 = .ok (.aload_n 0, 1) := by decide +kernel
theorem dX2_isNamedTwice_20 : decode cX2_isNamedTwice 20 = .ok (.iload_n 1, 1) := by decide +kernel
theorem dX2_isNamedTwice_21 : decode cX2_isNamedTwice 21 = .ok (.invokevirtual 104, 3) := by decide +kernel
theorem dX2_isNamedTwice_24 : decode cX2_isNamedTwice 24 = .ok (.iconst 2, 1) := by decide +kernel
theorem dX2_isNamedTwice_25 : decode cX2_isNamedTwice 25 = .ok (.if_icmp .ne 5, 3) := by decide +kernel
theorem dX2_isNamedTwice_28 : decode cX2_isNamedTwice 28 = .ok (.iconst 1, 1) := by decide +kernel
theorem dX2_isNamedTwice_29 : decode cX2_isNamedTwice 29 = .ok (.ireturn, 1) := by decide +kernel
theorem dX2_isNamedTwice_30 : decode cX2_isNamedTwice 30 = .ok (.iinc 1 1, 3) := by decide +kernel
theorem dX2_isNamedTwice_33 : decode cX2_isNamedTwice 33 = .ok (.goto (-31), 3) := by decide +kernel
theorem dX2_isNamedTwice_36 : decode cX2_isNamedTwice 36 = .ok (.aload_n 0, 1) := by decide +kernel
theorem dX2_isNamedTwice_37 : decode cX2_isNamedTwice 37 = .ok (.getfield 15, 3) := by decide +kernel
theorem dX2_isNamedTwice_40 : decode cX2_isNamedTwice 40 = .ok (.iconst 0, 1) := by decide +kernel
theorem dX2_isNamedTwice_41 : decode cX2_isNamedTwice 41 = .ok (.iaload, 1) := by decide +kernel
theorem dX2_isNamedTwice_42 : decode cX2_isNamedTwice 42 = .ok (.ifCond .le 7, 3) := by decide +kernel
theorem dX2_isNamedTwice_45 : decode cX2_isNamedTwice 45 = .ok (.iconst 1, 1) := by decide +kernel
theorem dX2_isNamedTwice_46 : decode cX2_isNamedTwice 46 = .ok (.goto 4, 3) := by decide +kernel
theorem dX2_isNamedTwice_49 : decode cX2_isNamedTwice 49 = .ok (.iconst 0, 1) := by decide +kernel
theorem dX2_isNamedTwice_50 : decode cX2_isNamedTwice 50 = .ok (.ireturn, 1) := by decide +kernel
theorem dX2_isLeftAlone_0 : decode cX2_isLeftAlone 0 = .ok (.iconst 1, 1) := by decide +kernel
theorem dX2_isLeftAlone_1 : decode cX2_isLeftAlone 1 = .ok (.istore_n 1, 1) := by decide +kernel
theorem dX2_isLeftAlone_2 : decode cX2_isLeftAlone 2 = .ok (.iload_n 1, 1) := by decide +kernel
theorem dX2_isLeftAlone_3 : decode cX2_isLeftAlone 3 = .ok (.sipush 128, 3) := by decide +kernel
theorem dX2_isLeftAlone_6 : decode cX2_isLeftAlone 6 = .ok (.if_icmp .ge 28, 3) := by decide +kernel
theorem dX2_isLeftAlone_9 : decode cX2_isLeftAlone 9 = .ok (.aload_n 0, 1) := by decide +kernel
theorem dX2_isLeftAlone_10 : decode cX2_isLeftAlone 10 = .ok (.getfield 18, 3) := by decide +kernel
theorem dX2_isLeftAlone_13 : decode cX2_isLeftAlone 13 = .ok (.iload_n 1, 1) := by decide +kernel
theorem dX2_isLeftAlone_14 : decode cX2_isLeftAlone 14 = .ok (.baload, 1) := by decide +kernel
theorem dX2_isLeftAlone_15 : decode cX2_isLeftAlone 15 = .ok (.ifCond .ne 13, 3) := by decide +kernel
theorem dX2_isLeftAlone_18 : decode cX2_isLeftAlone 18 = .ok (.aload_n 0, 1) := by decide +kernel
theorem dX2_isLeftAlone_19 : decode cX2_isLeftAlone 19 = .ok (.iload_n 1, 1) := by decide +kernel
theorem dX2_isLeftAlone_20 : decode cX2_isLeftAlone 20 = .ok (.invokevirtual 104, 3) := by decide +kernel
theorem dX2_isLeftAlone_23 : decode cX2_isLeftAlone 23 = .ok (.ifCond .eq 5, 3) := by decide +kernel
theorem dX2_isLeftAlone_26 : decode cX2_isLeftAlone 26 = .ok (.iconst 1, 1) := by decide +kernel
theorem dX2_isLeftAlone_27 : decode cX2_isLeftAlone 27 = .ok (.ireturn, 1) := by decide +kernel
theorem dX2_isLeftAlone_28 : decode cX2_isLeftAlone 28 = .ok (.iinc 1 1, 3) := by decide +kernel
theorem dX2_isLeftAlone_31 : decode cX2_isLeftAlone 31 = .ok (.goto (-29), 3) := by decide +kernel
theorem dX2_isLeftAlone_34 : decode cX2_isLeftAlone 34 = .ok (.iconst 0, 1) := by decide +kernel
theorem dX2_isLeftAlone_35 : decode cX2_isLeftAlone 35 = .ok (.ireturn, 1) := by decide +kernel
theorem dX2_hasWrongLinks_0 : decode cX2_hasWrongLinks 0 = .ok (.iconst 0, 1) := by decide +kernel
theorem dX2_hasWrongLinks_1 : decode cX2_hasWrongLinks 1 = .ok (.istore_n 1, 1) := by decide +kernel
theorem dX2_hasWrongLinks_2 : decode cX2_hasWrongLinks 2 = .ok (.iload_n 1, 1) := by decide +kernel
theorem dX2_hasWrongLinks_3 : decode cX2_hasWrongLinks 3 = .ok (.sipush 128, 3) := by decide +kernel
theorem dX2_hasWrongLinks_6 : decode cX2_hasWrongLinks 6 = .ok (.if_icmp .ge 37, 3) := by decide +kernel
theorem dX2_hasWrongLinks_9 : decode cX2_hasWrongLinks 9 = .ok (.aload_n 0, 1) := by decide +kernel
theorem dX2_hasWrongLinks_10 : decode cX2_hasWrongLinks 10 = .ok (.iload_n 1, 1) := by decide +kernel
theorem dX2_hasWrongLinks_11 : decode cX2_hasWrongLinks 11 = .ok (.invokestatic 81, 3) := by decide +kernel
theorem dX2_hasWrongLinks_14 : decode cX2_hasWrongLinks 14 = .ok (.iconst 1, 1) := by decide +kernel
theorem dX2_hasWrongLinks_15 : decode cX2_hasWrongLinks 15 = .ok (.invokevirtual 84, 3) := by decide +kernel
theorem dX2_hasWrongLinks_18 : decode cX2_hasWrongLinks 18 = .ok (.iload_n 1, 1) := by decide +kernel
theorem dX2_hasWrongLinks_19 : decode cX2_hasWrongLinks 19 = .ok (.ifCond .ne 7, 3) := by decide +kernel
theorem dX2_hasWrongLinks_22 : decode cX2_hasWrongLinks 22 = .ok (.iconst 1, 1) := by decide +kernel
theorem dX2_hasWrongLinks_23 : decode cX2_hasWrongLinks 23 = .ok (.goto 9, 3) := by decide +kernel
theorem dX2_hasWrongLinks_26 : decode cX2_hasWrongLinks 26 = .ok (.aload_n 0, 1) := by decide +kernel
theorem dX2_hasWrongLinks_27 : decode cX2_hasWrongLinks 27 = .ok (.getfield 15, 3) := by decide +kernel
theorem dX2_hasWrongLinks_30 : decode cX2_hasWrongLinks 30 = .ok (.iload_n 1, 1) := by decide +kernel
theorem dX2_hasWrongLinks_31 : decode cX2_hasWrongLinks 31 = .ok (.iaload, 1) := by decide +kernel
theorem dX2_hasWrongLinks_32 : decode cX2_hasWrongLinks 32 = .ok (.if_icmp .eq 5, 3) := by decide +kernel
theorem dX2_hasWrongLinks_35 : decode cX2_hasWrongLinks 35 = .ok (.iconst 1, 1) := by decide +kernel
theorem dX2_hasWrongLinks_36 : decode cX2_hasWrongLinks 36 = .ok (.ireturn, 1) := by decide +kernel
theorem dX2_hasWrongLinks_37 : decode cX2_hasWrongLinks 37 = .ok (.iinc 1 1, 3) := by decide +kernel
theorem dX2_hasWrongLinks_40 : decode cX2_hasWrongLinks 40 = .ok (.goto (-38), 3) := by decide +kernel
theorem dX2_hasWrongLinks_43 : decode cX2_hasWrongLinks 43 = .ok (.iconst 0, 1) := by decide +kernel
theorem dX2_hasWrongLinks_44 : decode cX2_hasWrongLinks 44 = .ok (.ireturn, 1) := by decide +kernel
theorem dX2_ownBlocks_0 : decode cX2_ownBlocks 0 = .ok (.aload_n 0, 1) := by decide +kernel
theorem dX2_ownBlocks_1 : decode cX2_ownBlocks 1 = .ok (.getfield 25, 3) := by decide +kernel
theorem dX2_ownBlocks_4 : decode cX2_ownBlocks 4 = .ok (.iconst 0, 1) := by decide +kernel
theorem dX2_ownBlocks_5 : decode cX2_ownBlocks 5 = .ok (.invokestatic 87, 3) := by decide +kernel
theorem dX2_ownBlocks_8 : decode cX2_ownBlocks 8 = .ok (.iconst 0, 1) := by decide +kernel
theorem dX2_ownBlocks_9 : decode cX2_ownBlocks 9 = .ok (.istore_n 1, 1) := by decide +kernel
theorem dX2_ownBlocks_10 : decode cX2_ownBlocks 10 = .ok (.iload_n 1, 1) := by decide +kernel
theorem dX2_ownBlocks_11 : decode cX2_ownBlocks 11 = .ok (.sipush 128, 3) := by decide +kernel
theorem dX2_ownBlocks_14 : decode cX2_ownBlocks 14 = .ok (.if_icmp .ge 81, 3) := by decide +kernel
theorem dX2_ownBlocks_17 : decode cX2_ownBlocks 17 = .ok (.aload_n 0, 1) := by decide +kernel
theorem dX2_ownBlocks_18 : decode cX2_ownBlocks 18 = .ok (.iload_n 1, 1) := by decide +kernel
theorem dX2_ownBlocks_19 : decode cX2_ownBlocks 19 = .ok (.invokevirtual 104, 3) := by decide +kernel
theorem dX2_ownBlocks_22 : decode cX2_ownBlocks 22 = .ok (.ifCond .ne 6, 3) := by decide +kernel
theorem dX2_ownBlocks_25 : decode cX2_ownBlocks 25 = .ok (.goto 64, 3) := by decide +kernel
theorem dX2_ownBlocks_28 : decode cX2_ownBlocks 28 = .ok (.aload_n 0, 1) := by decide +kernel
theorem dX2_ownBlocks_29 : decode cX2_ownBlocks 29 = .ok (.getfield 25, 3) := by decide +kernel
theorem dX2_ownBlocks_32 : decode cX2_ownBlocks 32 = .ok (.iload_n 1, 1) := by decide +kernel
theorem dX2_ownBlocks_33 : decode cX2_ownBlocks 33 = .ok (.bipush 16, 2) := by decide +kernel
theorem dX2_ownBlocks_35 : decode cX2_ownBlocks 35 = .ok (.idiv, 1) := by decide +kernel
theorem dX2_ownBlocks_36 : decode cX2_ownBlocks 36 = .ok (.iconst 3, 1) := by decide +kernel
theorem dX2_ownBlocks_37 : decode cX2_ownBlocks 37 = .ok (.imul, 1) := by decide +kernel
theorem dX2_ownBlocks_38 : decode cX2_ownBlocks 38 = .ok (.dup2, 1) := by decide +kernel
theorem dX2_ownBlocks_39 : decode cX2_ownBlocks 39 = .ok (.iaload, 1) := by decide +kernel
theorem dX2_ownBlocks_40 : decode cX2_ownBlocks 40 = .ok (.iconst 1, 1) := by decide +kernel
theorem dX2_ownBlocks_41 : decode cX2_ownBlocks 41 = .ok (.iload_n 1, 1) := by decide +kernel
theorem dX2_ownBlocks_42 : decode cX2_ownBlocks 42 = .ok (.bipush 16, 2) := by decide +kernel
theorem dX2_ownBlocks_44 : decode cX2_ownBlocks 44 = .ok (.irem, 1) := by decide +kernel
theorem dX2_ownBlocks_45 : decode cX2_ownBlocks 45 = .ok (.ishl, 1) := by decide +kernel
theorem dX2_ownBlocks_46 : decode cX2_ownBlocks 46 = .ok (.ior, 1) := by decide +kernel
theorem dX2_ownBlocks_47 : decode cX2_ownBlocks 47 = .ok (.iastore, 1) := by decide +kernel
theorem dX2_ownBlocks_48 : decode cX2_ownBlocks 48 = .ok (.iload_n 1, 1) := by decide +kernel
theorem dX2_ownBlocks_49 : decode cX2_ownBlocks 49 = .ok (.invokestatic 81, 3) := by decide +kernel
theorem dX2_ownBlocks_52 : decode cX2_ownBlocks 52 = .ok (.istore_n 2, 1) := by decide +kernel
theorem dX2_ownBlocks_53 : decode cX2_ownBlocks 53 = .ok (.aload_n 0, 1) := by decide +kernel
theorem dX2_ownBlocks_54 : decode cX2_ownBlocks 54 = .ok (.iload_n 2, 1) := by decide +kernel
theorem dX2_ownBlocks_55 : decode cX2_ownBlocks 55 = .ok (.bipush 11, 2) := by decide +kernel
theorem dX2_ownBlocks_57 : decode cX2_ownBlocks 57 = .ok (.invokevirtual 84, 3) := by decide +kernel
theorem dX2_ownBlocks_60 : decode cX2_ownBlocks 60 = .ok (.istore_n 3, 1) := by decide +kernel
theorem dX2_ownBlocks_61 : decode cX2_ownBlocks 61 = .ok (.aload_n 0, 1) := by decide +kernel
theorem dX2_ownBlocks_62 : decode cX2_ownBlocks 62 = .ok (.iload_n 2, 1) := by decide +kernel
theorem dX2_ownBlocks_63 : decode cX2_ownBlocks 63 = .ok (.iconst 3, 1) := by decide +kernel
theorem dX2_ownBlocks_64 : decode cX2_ownBlocks 64 = .ok (.bipush 12, 2) := by decide +kernel
theorem dX2_ownBlocks_66 : decode cX2_ownBlocks 66 = .ok (.invokevirtual 110, 3) := by decide +kernel
theorem dX2_ownBlocks_69 : decode cX2_ownBlocks 69 = .ok (.ifCond .eq 18, 3) := by decide +kernel
theorem dX2_ownBlocks_72 : decode cX2_ownBlocks 72 = .ok (.iload_n 3, 1) := by decide +kernel
theorem dX2_ownBlocks_73 : decode cX2_ownBlocks 73 = .ok (.ifCond .eq 16, 3) := by decide +kernel
theorem dX2_ownBlocks_76 : decode cX2_ownBlocks 76 = .ok (.aload_n 0, 1) := by decide +kernel
theorem dX2_ownBlocks_77 : decode cX2_ownBlocks 77 = .ok (.iload_n 3, 1) := by decide +kernel
theorem dX2_ownBlocks_78 : decode cX2_ownBlocks 78 = .ok (.iconst 0, 1) := by decide +kernel
theorem dX2_ownBlocks_79 : decode cX2_ownBlocks 79 = .ok (.bipush 16, 2) := by decide +kernel
theorem dX2_ownBlocks_81 : decode cX2_ownBlocks 81 = .ok (.invokevirtual 110, 3) := by decide +kernel
theorem dX2_ownBlocks_84 : decode cX2_ownBlocks 84 = .ok (.ifCond .ne 5, 3) := by decide +kernel
theorem dX2_ownBlocks_87 : decode cX2_ownBlocks 87 = .ok (.iconst 0, 1) := by decide +kernel
theorem dX2_ownBlocks_88 : decode cX2_ownBlocks 88 = .ok (.ireturn, 1) := by decide +kernel
theorem dX2_ownBlocks_89 : decode cX2_ownBlocks 89 = .ok (.iinc 1 1, 3) := by decide +kernel
theorem dX2_ownBlocks_92 : decode cX2_ownBlocks 92 = .ok (.goto (-82), 3) := by decide +kernel
theorem dX2_ownBlocks_95 : decode cX2_ownBlocks 95 = .ok (.iconst 1, 1) := by decide +kernel
theorem dX2_ownBlocks_96 : decode cX2_ownBlocks 96 = .ok (.ireturn, 1) := by decide +kernel
theorem dX2_ownPlaces_0 : decode cX2_ownPlaces 0 = .ok (.iload_n 2, 1) := by decide +kernel
theorem dX2_ownPlaces_1 : decode cX2_ownPlaces 1 = .ok (.istore 4, 2) := by decide +kernel
theorem dX2_ownPlaces_3 : decode cX2_ownPlaces 3 = .ok (.iload 4, 2) := by decide +kernel
theorem dX2_ownPlaces_5 : decode cX2_ownPlaces 5 = .ok (.iload_n 3, 1) := by decide +kernel
theorem dX2_ownPlaces_6 : decode cX2_ownPlaces 6 = .ok (.if_icmp .ge 96, 3) := by decide +kernel
theorem dX2_ownPlaces_9 : decode cX2_ownPlaces 9 = .ok (.aload_n 0, 1) := by decide +kernel
theorem dX2_ownPlaces_10 : decode cX2_ownPlaces 10 = .ok (.iload_n 1, 1) := by decide +kernel
theorem dX2_ownPlaces_11 : decode cX2_ownPlaces 11 = .ok (.iload 4, 2) := by decide +kernel
theorem dX2_ownPlaces_13 : decode cX2_ownPlaces 13 = .ok (.invokevirtual 84, 3) := by decide +kernel
theorem dX2_ownPlaces_16 : decode cX2_ownPlaces 16 = .ok (.istore 5, 2) := by decide +kernel
theorem dX2_ownPlaces_18 : decode cX2_ownPlaces 18 = .ok (.iload 5, 2) := by decide +kernel
theorem dX2_ownPlaces_20 : decode cX2_ownPlaces 20 = .ok (.ifCond .ne 6, 3) := by decide +kernel
theorem dX2_ownPlaces_23 : decode cX2_ownPlaces 23 = .ok (.goto 73, 3) := by decide +kernel
theorem dX2_ownPlaces_26 : decode cX2_ownPlaces 26 = .ok (.iload 5, 2) := by decide +kernel
theorem dX2_ownPlaces_28 : decode cX2_ownPlaces 28 = .ok (.invokestatic 114, 3) := by decide +kernel
theorem dX2_ownPlaces_31 : decode cX2_ownPlaces 31 = .ok (.ifCond .ne 5, 3) := by decide +kernel
theorem dX2_ownPlaces_34 : decode cX2_ownPlaces 34 = .ok (.iconst 0, 1) := by decide +kernel
theorem dX2_ownPlaces_35 : decode cX2_ownPlaces 35 = .ok (.ireturn, 1) := by decide +kernel
theorem dX2_ownPlaces_36 : decode cX2_ownPlaces 36 = .ok (.iload 5, 2) := by decide +kernel
theorem dX2_ownPlaces_38 : decode cX2_ownPlaces 38 = .ok (.invokestatic 117, 3) := by decide +kernel
theorem dX2_ownPlaces_41 : decode cX2_ownPlaces 41 = .ok (.istore 6, 2) := by decide +kernel
theorem dX2_ownPlaces_43 : decode cX2_ownPlaces 43 = .ok (.iload 5, 2) := by decide +kernel
theorem dX2_ownPlaces_45 : decode cX2_ownPlaces 45 = .ok (.invokestatic 120, 3) := by decide +kernel
theorem dX2_ownPlaces_48 : decode cX2_ownPlaces 48 = .ok (.iconst 3, 1) := by decide +kernel
theorem dX2_ownPlaces_49 : decode cX2_ownPlaces 49 = .ok (.imul, 1) := by decide +kernel
theorem dX2_ownPlaces_50 : decode cX2_ownPlaces 50 = .ok (.iconst 1, 1) := by decide +kernel
theorem dX2_ownPlaces_51 : decode cX2_ownPlaces 51 = .ok (.iadd, 1) := by decide +kernel
theorem dX2_ownPlaces_52 : decode cX2_ownPlaces 52 = .ok (.iload 6, 2) := by decide +kernel
theorem dX2_ownPlaces_54 : decode cX2_ownPlaces 54 = .ok (.bipush 32, 2) := by decide +kernel
theorem dX2_ownPlaces_56 : decode cX2_ownPlaces 56 = .ok (.idiv, 1) := by decide +kernel
theorem dX2_ownPlaces_57 : decode cX2_ownPlaces 57 = .ok (.iadd, 1) := by decide +kernel
theorem dX2_ownPlaces_58 : decode cX2_ownPlaces 58 = .ok (.istore 7, 2) := by decide +kernel
theorem dX2_ownPlaces_60 : decode cX2_ownPlaces 60 = .ok (.iconst 1, 1) := by decide +kernel
theorem dX2_ownPlaces_61 : decode cX2_ownPlaces 61 = .ok (.iload 6, 2) := by decide +kernel
theorem dX2_ownPlaces_63 : decode cX2_ownPlaces 63 = .ok (.bipush 32, 2) := by decide +kernel
theorem dX2_ownPlaces_65 : decode cX2_ownPlaces 65 = .ok (.irem, 1) := by decide +kernel
theorem dX2_ownPlaces_66 : decode cX2_ownPlaces 66 = .ok (.ishl, 1) := by decide +kernel
theorem dX2_ownPlaces_67 : decode cX2_ownPlaces 67 = .ok (.istore 8, 2) := by decide +kernel
theorem dX2_ownPlaces_69 : decode cX2_ownPlaces 69 = .ok (.aload_n 0, 1) := by decide +kernel
theorem dX2_ownPlaces_70 : decode cX2_ownPlaces 70 = .ok (.getfield 25, 3) := by decide +kernel
theorem dX2_ownPlaces_73 : decode cX2_ownPlaces 73 = .ok (.iload 7, 2) := by decide +kernel
theorem dX2_ownPlaces_75 : decode cX2_ownPlaces 75 = .ok (.iaload, 1) := by decide +kernel
theorem dX2_ownPlaces_76 : decode cX2_ownPlaces 76 = .ok (.iload 8, 2) := by decide +kernel
theorem dX2_ownPlaces_78 : decode cX2_ownPlaces 78 = .ok (.iand, 1) := by decide +kernel
theorem dX2_ownPlaces_79 : decode cX2_ownPlaces 79 = .ok (.ifCond .eq 5, 3) := by decide +kernel
theorem dX2_ownPlaces_82 : decode cX2_ownPlaces 82 = .ok (.iconst 0, 1) := by decide +kernel
theorem dX2_ownPlaces_83 : decode cX2_ownPlaces 83 = .ok (.ireturn, 1) := by decide +kernel
theorem dX2_ownPlaces_84 : decode cX2_ownPlaces 84 = .ok (.aload_n 0, 1) := by decide +kernel
theorem dX2_ownPlaces_85 : decode cX2_ownPlaces 85 = .ok (.getfield 25, 3) := by decide +kernel
theorem dX2_ownPlaces_88 : decode cX2_ownPlaces 88 = .ok (.iload 7, 2) := by decide +kernel
theorem dX2_ownPlaces_90 : decode cX2_ownPlaces 90 = .ok (.dup2, 1) := by decide +kernel
theorem dX2_ownPlaces_91 : decode cX2_ownPlaces 91 = .ok (.iaload, 1) := by decide +kernel
theorem dX2_ownPlaces_92 : decode cX2_ownPlaces 92 = .ok (.iload 8, 2) := by decide +kernel
theorem dX2_ownPlaces_94 : decode cX2_ownPlaces 94 = .ok (.ior, 1) := by decide +kernel
theorem dX2_ownPlaces_95 : decode cX2_ownPlaces 95 = .ok (.iastore, 1) := by decide +kernel
theorem dX2_ownPlaces_96 : decode cX2_ownPlaces 96 = .ok (.iinc 4 1, 3) := by decide +kernel
theorem dX2_ownPlaces_99 : decode cX2_ownPlaces 99 = .ok (.goto (-96), 3) := by decide +kernel
theorem dX2_ownPlaces_102 : decode cX2_ownPlaces 102 = .ok (.iconst 1, 1) := by decide +kernel
theorem dX2_ownPlaces_103 : decode cX2_ownPlaces 103 = .ok (.ireturn, 1) := by decide +kernel
theorem dX2_hasWrongMap_0 : decode cX2_hasWrongMap 0 = .ok (.iconst 0, 1) := by decide +kernel
theorem dX2_hasWrongMap_1 : decode cX2_hasWrongMap 1 = .ok (.istore_n 1, 1) := by decide +kernel
theorem dX2_hasWrongMap_2 : decode cX2_hasWrongMap 2 = .ok (.iload_n 1, 1) := by decide +kernel
theorem dX2_hasWrongMap_3 : decode cX2_hasWrongMap 3 = .ok (.bipush 8, 2) := by decide +kernel
theorem dX2_hasWrongMap_5 : decode cX2_hasWrongMap 5 = .ok (.if_icmp .ge 56, 3) := by decide +kernel
theorem dX2_hasWrongMap_8 : decode cX2_hasWrongMap 8 = .ok (.iconst 0, 1) := by decide +kernel
theorem dX2_hasWrongMap_9 : decode cX2_hasWrongMap 9 = .ok (.istore_n 2, 1) := by decide +kernel
theorem dX2_hasWrongMap_10 : decode cX2_hasWrongMap 10 = .ok (.iload_n 2, 1) := by decide +kernel
theorem dX2_hasWrongMap_11 : decode cX2_hasWrongMap 11 = .ok (.bipush 16, 2) := by decide +kernel
theorem dX2_hasWrongMap_13 : decode cX2_hasWrongMap 13 = .ok (.if_icmp .ge 42, 3) := by decide +kernel
theorem dX2_hasWrongMap_16 : decode cX2_hasWrongMap 16 = .ok (.aload_n 0, 1) := by decide +kernel
theorem dX2_hasWrongMap_17 : decode cX2_hasWrongMap 17 = .ok (.iload_n 1, 1) := by decide +kernel
theorem dX2_hasWrongMap_18 : decode cX2_hasWrongMap 18 = .ok (.invokestatic 123, 3) := by decide +kernel
theorem dX2_hasWrongMap_21 : decode cX2_hasWrongMap 21 = .ok (.iload_n 2, 1) := by decide +kernel
theorem dX2_hasWrongMap_22 : decode cX2_hasWrongMap 22 = .ok (.invokevirtual 84, 3) := by decide +kernel
theorem dX2_hasWrongMap_25 : decode cX2_hasWrongMap 25 = .ok (.iload_n 2, 1) := by decide +kernel
theorem dX2_hasWrongMap_26 : decode cX2_hasWrongMap 26 = .ok (.iconst 3, 1) := by decide +kernel
theorem dX2_hasWrongMap_27 : decode cX2_hasWrongMap 27 = .ok (.if_icmp .ge 16, 3) := by decide +kernel
theorem dX2_hasWrongMap_30 : decode cX2_hasWrongMap 30 = .ok (.aload_n 0, 1) := by decide +kernel
theorem dX2_hasWrongMap_31 : decode cX2_hasWrongMap 31 = .ok (.getfield 25, 3) := by decide +kernel
theorem dX2_hasWrongMap_34 : decode cX2_hasWrongMap 34 = .ok (.iload_n 1, 1) := by decide +kernel
theorem dX2_hasWrongMap_35 : decode cX2_hasWrongMap 35 = .ok (.iconst 3, 1) := by decide +kernel
theorem dX2_hasWrongMap_36 : decode cX2_hasWrongMap 36 = .ok (.imul, 1) := by decide +kernel
theorem dX2_hasWrongMap_37 : decode cX2_hasWrongMap 37 = .ok (.iload_n 2, 1) := by decide +kernel
theorem dX2_hasWrongMap_38 : decode cX2_hasWrongMap 38 = .ok (.iadd, 1) := by decide +kernel
theorem dX2_hasWrongMap_39 : decode cX2_hasWrongMap 39 = .ok (.iaload, 1) := by decide +kernel
theorem dX2_hasWrongMap_40 : decode cX2_hasWrongMap 40 = .ok (.goto 4, 3) := by decide +kernel
theorem dX2_hasWrongMap_43 : decode cX2_hasWrongMap 43 = .ok (.iconst 0, 1) := by decide +kernel
theorem dX2_hasWrongMap_44 : decode cX2_hasWrongMap 44 = .ok (.if_icmp .eq 5, 3) := by decide +kernel
theorem dX2_hasWrongMap_47 : decode cX2_hasWrongMap 47 = .ok (.iconst 1, 1) := by decide +kernel
theorem dX2_hasWrongMap_48 : decode cX2_hasWrongMap 48 = .ok (.ireturn, 1) := by decide +kernel
theorem dX2_hasWrongMap_49 : decode cX2_hasWrongMap 49 = .ok (.iinc 2 1, 3) := by decide +kernel
theorem dX2_hasWrongMap_52 : decode cX2_hasWrongMap 52 = .ok (.goto (-42), 3) := by decide +kernel
theorem dX2_hasWrongMap_55 : decode cX2_hasWrongMap 55 = .ok (.iinc 1 1, 3) := by decide +kernel
theorem dX2_hasWrongMap_58 : decode cX2_hasWrongMap 58 = .ok (.goto (-56), 3) := by decide +kernel
theorem dX2_hasWrongMap_61 : decode cX2_hasWrongMap 61 = .ok (.iconst 0, 1) := by decide +kernel
theorem dX2_hasWrongMap_62 : decode cX2_hasWrongMap 62 = .ok (.ireturn, 1) := by decide +kernel
theorem dX3_init_0 : decode cX3_init 0 = .ok (.aload_n 0, 1) := by decide +kernel
theorem dX3_init_1 : decode cX3_init 1 = .ok (.invokespecial 3, 3) := by decide +kernel
theorem dX3_init_4 : decode cX3_init 4 = .ok (.aload_n 0, 1) := by decide +kernel
theorem dX3_init_5 : decode cX3_init 5 = .ok (.bipush 16, 2) := by decide +kernel
theorem dX3_init_7 : decode cX3_init 7 = .ok (.newarray .int, 2) := by decide +kernel
theorem dX3_init_9 : decode cX3_init 9 = .ok (.putfield 9, 3) := by decide +kernel
theorem dX3_init_12 : decode cX3_init 12 = .ok (.aload_n 0, 1) := by decide +kernel
theorem dX3_init_13 : decode cX3_init 13 = .ok (.bipush 16, 2) := by decide +kernel
theorem dX3_init_15 : decode cX3_init 15 = .ok (.newarray .int, 2) := by decide +kernel
theorem dX3_init_17 : decode cX3_init 17 = .ok (.putfield 15, 3) := by decide +kernel
theorem dX3_init_20 : decode cX3_init 20 = .ok (.aload_n 0, 1) := by decide +kernel
theorem dX3_init_21 : decode cX3_init 21 = .ok (.sipush 256, 3) := by decide +kernel
theorem dX3_init_24 : decode cX3_init 24 = .ok (.newarray .int, 2) := by decide +kernel
theorem dX3_init_26 : decode cX3_init 26 = .ok (.putfield 18, 3) := by decide +kernel
theorem dX3_init_29 : decode cX3_init 29 = .ok (.aload_n 0, 1) := by decide +kernel
theorem dX3_init_30 : decode cX3_init 30 = .ok (.iload_n 1, 1) := by decide +kernel
theorem dX3_init_31 : decode cX3_init 31 = .ok (.putfield 21, 3) := by decide +kernel
theorem dX3_init_34 : decode cX3_init 34 = .ok (.return_, 1) := by decide +kernel
theorem dX3_isFlushing_0 : decode cX3_isFlushing 0 = .ok (.aload_n 0, 1) := by decide +kernel
theorem dX3_isFlushing_1 : decode cX3_isFlushing 1 = .ok (.getfield 25, 3) := by decide +kernel
theorem dX3_isFlushing_4 : decode cX3_isFlushing 4 = .ok (.ifCond .le 7, 3) := by decide +kernel
theorem dX3_isFlushing_7 : decode cX3_isFlushing 7 = .ok (.iconst 1, 1) := by decide +kernel
theorem dX3_isFlushing_8 : decode cX3_isFlushing 8 = .ok (.goto 4, 3) := by decide +kernel
theorem dX3_isFlushing_11 : decode cX3_isFlushing 11 = .ok (.iconst 0, 1) := by decide +kernel
theorem dX3_isFlushing_12 : decode cX3_isFlushing 12 = .ok (.ireturn, 1) := by decide +kernel
theorem dX3_isIdle_0 : decode cX3_isIdle 0 = .ok (.aload_n 0, 1) := by decide +kernel
theorem dX3_isIdle_1 : decode cX3_isIdle 1 = .ok (.getfield 25, 3) := by decide +kernel
theorem dX3_isIdle_4 : decode cX3_isIdle 4 = .ok (.ifCond .ne 14, 3) := by decide +kernel
theorem dX3_isIdle_7 : decode cX3_isIdle 7 = .ok (.aload_n 0, 1) := by decide +kernel
theorem dX3_isIdle_8 : decode cX3_isIdle 8 = .ok (.getfield 28, 3) := by decide +kernel
theorem dX3_isIdle_11 : decode cX3_isIdle 11 = .ok (.ifCond .ne 7, 3) := by decide +kernel
theorem dX3_isIdle_14 : decode cX3_isIdle 14 = .ok (.iconst 1, 1) := by decide +kernel
theorem dX3_isIdle_15 : decode cX3_isIdle 15 = .ok (.goto 4, 3) := by decide +kernel
theorem dX3_isIdle_18 : decode cX3_isIdle 18 = .ok (.iconst 0, 1) := by decide +kernel
theorem dX3_isIdle_19 : decode cX3_isIdle 19 = .ok (.ireturn, 1) := by decide +kernel
theorem dX3_left_0 : decode cX3_left 0 = .ok (.aload_n 0, 1) := by decide +kernel
theorem dX3_left_1 : decode cX3_left 1 = .ok (.getfield 25, 3) := by decide +kernel
theorem dX3_left_4 : decode cX3_left 4 = .ok (.ifCond .ne 7, 3) := by decide +kernel
theorem dX3_left_7 : decode cX3_left 7 = .ok (.iconst 0, 1) := by decide +kernel
theorem dX3_left_8 : decode cX3_left 8 = .ok (.goto 16, 3) := by decide +kernel
theorem dX3_left_11 : decode cX3_left 11 = .ok (.iconst 2, 1) := by decide +kernel
theorem dX3_left_12 : decode cX3_left 12 = .ok (.aload_n 0, 1) := by decide +kernel
theorem dX3_left_13 : decode cX3_left 13 = .ok (.getfield 25, 3) := by decide +kernel
theorem dX3_left_16 : decode cX3_left 16 = .ok (.imul, 1) := by decide +kernel
theorem dX3_left_17 : decode cX3_left 17 = .ok (.iconst 3, 1) := by decide +kernel
theorem dX3_left_18 : decode cX3_left 18 = .ok (.iadd, 1) := by decide +kernel
theorem dX3_left_19 : decode cX3_left 19 = .ok (.aload_n 0, 1) := by decide +kernel
theorem dX3_left_20 : decode cX3_left 20 = .ok (.getfield 31, 3) := by decide +kernel
theorem dX3_left_23 : decode cX3_left 23 = .ok (.isub, 1) := by decide +kernel
theorem dX3_left_24 : decode cX3_left 24 = .ok (.ireturn, 1) := by decide +kernel
theorem dX3_isAtHead_0 : decode cX3_isAtHead 0 = .ok (.aload_n 0, 1) := by decide +kernel
theorem dX3_isAtHead_1 : decode cX3_isAtHead 1 = .ok (.getfield 25, 3) := by decide +kernel
theorem dX3_isAtHead_4 : decode cX3_isAtHead 4 = .ok (.ifCond .le 20, 3) := by decide +kernel
theorem dX3_isAtHead_7 : decode cX3_isAtHead 7 = .ok (.aload_n 0, 1) := by decide +kernel
theorem dX3_isAtHead_8 : decode cX3_isAtHead 8 = .ok (.getfield 31, 3) := by decide +kernel
theorem dX3_isAtHead_11 : decode cX3_isAtHead 11 = .ok (.aload_n 0, 1) := by decide +kernel
theorem dX3_isAtHead_12 : decode cX3_isAtHead 12 = .ok (.getfield 25, 3) := by decide +kernel
theorem dX3_isAtHead_15 : decode cX3_isAtHead 15 = .ok (.iconst 1, 1) := by decide +kernel
theorem dX3_isAtHead_16 : decode cX3_isAtHead 16 = .ok (.iadd, 1) := by decide +kernel
theorem dX3_isAtHead_17 : decode cX3_isAtHead 17 = .ok (.if_icmp .ne 7, 3) := by decide +kernel
theorem dX3_isAtHead_20 : decode cX3_isAtHead 20 = .ok (.iconst 1, 1) := by decide +kernel
theorem dX3_isAtHead_21 : decode cX3_isAtHead 21 = .ok (.goto 4, 3) := by decide +kernel
theorem dX3_isAtHead_24 : decode cX3_isAtHead 24 = .ok (.iconst 0, 1) := by decide +kernel
theorem dX3_isAtHead_25 : decode cX3_isAtHead 25 = .ok (.ireturn, 1) := by decide +kernel
theorem dX3_hasLogged_0 : decode cX3_hasLogged 0 = .ok (.iconst 0, 1) := by decide +kernel
theorem dX3_hasLogged_1 : decode cX3_hasLogged 1 = .ok (.istore_n 2, 1) := by decide +kernel
theorem dX3_hasLogged_2 : decode cX3_hasLogged 2 = .ok (.iload_n 2, 1) := by decide +kernel
theorem dX3_hasLogged_3 : decode cX3_hasLogged 3 = .ok (.aload_n 0, 1) := by decide +kernel
theorem dX3_hasLogged_4 : decode cX3_hasLogged 4 = .ok (.getfield 28, 3) := by decide +kernel
theorem dX3_hasLogged_7 : decode cX3_hasLogged 7 = .ok (.if_icmp .ge 21, 3) := by decide +kernel
theorem dX3_hasLogged_10 : decode cX3_hasLogged 10 = .ok (.aload_n 0, 1) := by decide +kernel
theorem dX3_hasLogged_11 : decode cX3_hasLogged 11 = .ok (.getfield 9, 3) := by decide +kernel
theorem dX3_hasLogged_14 : decode cX3_hasLogged 14 = .ok (.iload_n 2, 1) := by decide +kernel
theorem dX3_hasLogged_15 : decode cX3_hasLogged 15 = .ok (.iaload, 1) := by decide +kernel
theorem dX3_hasLogged_16 : decode cX3_hasLogged 16 = .ok (.iload_n 1, 1) := by decide +kernel
theorem dX3_hasLogged_17 : decode cX3_hasLogged 17 = .ok (.if_icmp .ne 5, 3) := by decide +kernel
theorem dX3_hasLogged_20 : decode cX3_hasLogged 20 = .ok (.iconst 1, 1) := by decide +kernel
theorem dX3_hasLogged_21 : decode cX3_hasLogged 21 = .ok (.ireturn, 1) := by decide +kernel
theorem dX3_hasLogged_22 : decode cX3_hasLogged 22 = .ok (.iinc 2 1, 3) := by decide +kernel
theorem dX3_hasLogged_25 : decode cX3_hasLogged 25 = .ok (.goto (-23), 3) := by decide +kernel
theorem dX3_hasLogged_28 : decode cX3_hasLogged 28 = .ok (.iconst 0, 1) := by decide +kernel
theorem dX3_hasLogged_29 : decode cX3_hasLogged 29 = .ok (.ireturn, 1) := by decide +kernel
theorem dX3_add_0 : decode cX3_add 0 = .ok (.aload_n 0, 1) := by decide +kernel
theorem dX3_add_1 : decode cX3_add 1 = .ok (.getfield 28, 3) := by decide +kernel
theorem dX3_add_4 : decode cX3_add 4 = .ok (.bipush 16, 2) := by decide +kernel
theorem dX3_add_6 : decode cX3_add 6 = .ok (.if_icmp .ge 11, 3) := by decide +kernel
theorem dX3_add_9 : decode cX3_add 9 = .ok (.aload_n 0, 1) := by decide +kernel
theorem dX3_add_10 : decode cX3_add 10 = .ok (.iload_n 1, 1) := by decide +kernel
theorem dX3_add_11 : decode cX3_add 11 = .ok (.invokevirtual 34, 3) := by decide +kernel
theorem dX3_add_14 : decode cX3_add 14 = .ok (.ifCond .eq 4, 3) := by decide +kernel
theorem dX3_add_17 : decode cX3_add 17 = .ok (.return_, 1) := by decide +kernel
theorem dX3_add_18 : decode cX3_add 18 = .ok (.aload_n 0, 1) := by decide +kernel
theorem dX3_add_19 : decode cX3_add 19 = .ok (.getfield 28, 3) := by decide +kernel
theorem dX3_add_22 : decode cX3_add 22 = .ok (.istore_n 2, 1) := by decide +kernel
theorem dX3_add_23 : decode cX3_add 23 = .ok (.iload_n 2, 1) := by decide +kernel
theorem dX3_add_24 : decode cX3_add 24 = .ok (.ifCond .le 35, 3) := by decide +kernel
theorem dX3_add_27 : decode cX3_add 27 = .ok (.aload_n 0, 1) := by decide +kernel
theorem dX3_add_28 : decode cX3_add 28 = .ok (.getfield 9, 3) := by decide +kernel
theorem dX3_add_31 : decode cX3_add 31 = .ok (.iload_n 2, 1) := by decide +kernel
theorem dX3_add_32 : decode cX3_add 32 = .ok (.iconst 1, 1) := by decide +kernel
theorem dX3_add_33 : decode cX3_add 33 = .ok (.isub, 1) := by decide +kernel
theorem dX3_add_34 : decode cX3_add 34 = .ok (.iaload, 1) := by decide +kernel
theorem dX3_add_35 : decode cX3_add 35 = .ok (.iload_n 1, 1) := by decide +kernel
theorem dX3_add_36 : decode cX3_add 36 = .ok (.if_icmp .le 23, 3) := by decide +kernel
theorem dX3_add_39 : decode cX3_add 39 = .ok (.aload_n 0, 1) := by decide +kernel
theorem dX3_add_40 : decode cX3_add 40 = .ok (.getfield 9, 3) := by decide +kernel
theorem dX3_add_43 : decode cX3_add 43 = .ok (.iload_n 2, 1) := by decide +kernel
theorem dX3_add_44 : decode cX3_add 44 = .ok (.aload_n 0, 1) := by decide +kernel
theorem dX3_add_45 : decode cX3_add 45 = .ok (.getfield 9, 3) := by decide +kernel
theorem dX3_add_48 : decode cX3_add 48 = .ok (.iload_n 2, 1) := by decide +kernel
theorem dX3_add_49 : decode cX3_add 49 = .ok (.iconst 1, 1) := by decide +kernel
theorem dX3_add_50 : decode cX3_add 50 = .ok (.isub, 1) := by decide +kernel
theorem dX3_add_51 : decode cX3_add 51 = .ok (.iaload, 1) := by decide +kernel
theorem dX3_add_52 : decode cX3_add 52 = .ok (.iastore, 1) := by decide +kernel
theorem dX3_add_53 : decode cX3_add 53 = .ok (.iinc 2 (-1), 3) := by decide +kernel
theorem dX3_add_56 : decode cX3_add 56 = .ok (.goto (-33), 3) := by decide +kernel
theorem dX3_add_59 : decode cX3_add 59 = .ok (.aload_n 0, 1) := by decide +kernel
theorem dX3_add_60 : decode cX3_add 60 = .ok (.getfield 9, 3) := by decide +kernel
theorem dX3_add_63 : decode cX3_add 63 = .ok (.iload_n 2, 1) := by decide +kernel
theorem dX3_add_64 : decode cX3_add 64 = .ok (.iload_n 1, 1) := by decide +kernel
theorem dX3_add_65 : decode cX3_add 65 = .ok (.iastore, 1) := by decide +kernel
theorem dX3_add_66 : decode cX3_add 66 = .ok (.aload_n 0, 1) := by decide +kernel
theorem dX3_add_67 : decode cX3_add 67 = .ok (.dup, 1) := by decide +kernel
theorem dX3_add_68 : decode cX3_add 68 = .ok (.getfield 28, 3) := by decide +kernel
theorem dX3_add_71 : decode cX3_add 71 = .ok (.iconst 1, 1) := by decide +kernel
theorem dX3_add_72 : decode cX3_add 72 = .ok (.iadd, 1) := by decide +kernel
theorem dX3_add_73 : decode cX3_add 73 = .ok (.putfield 28, 3) := by decide +kernel
theorem dX3_add_76 : decode cX3_add 76 = .ok (.return_, 1) := by decide +kernel
theorem dX3_remove_0 : decode cX3_remove 0 = .ok (.iconst 0, 1) := by decide +kernel
theorem dX3_remove_1 : decode cX3_remove 1 = .ok (.istore_n 2, 1) := by decide +kernel
theorem dX3_remove_2 : decode cX3_remove 2 = .ok (.iconst 0, 1) := by decide +kernel
theorem dX3_remove_3 : decode cX3_remove 3 = .ok (.istore_n 3, 1) := by decide +kernel
theorem dX3_remove_4 : decode cX3_remove 4 = .ok (.iload_n 3, 1) := by decide +kernel
theorem dX3_remove_5 : decode cX3_remove 5 = .ok (.aload_n 0, 1) := by decide +kernel
theorem dX3_remove_6 : decode cX3_remove 6 = .ok (.getfield 28, 3) := by decide +kernel
theorem dX3_remove_9 : decode cX3_remove 9 = .ok (.if_icmp .ge 34, 3) := by decide +kernel
theorem dX3_remove_12 : decode cX3_remove 12 = .ok (.aload_n 0, 1) := by decide +kernel
theorem dX3_remove_13 : decode cX3_remove 13 = .ok (.getfield 9, 3) := by decide +kernel
theorem dX3_remove_16 : decode cX3_remove 16 = .ok (.iload_n 3, 1) := by decide +kernel
theorem dX3_remove_17 : decode cX3_remove 17 = .ok (.iaload, 1) := by decide +kernel
theorem dX3_remove_18 : decode cX3_remove 18 = .ok (.iload_n 1, 1) := by decide +kernel
theorem dX3_remove_19 : decode cX3_remove 19 = .ok (.if_icmp .eq 18, 3) := by decide +kernel
theorem dX3_remove_22 : decode cX3_remove 22 = .ok (.aload_n 0, 1) := by decide +kernel
theorem dX3_remove_23 : decode cX3_remove 23 = .ok (.getfield 9, 3) := by decide +kernel
theorem dX3_remove_26 : decode cX3_remove 26 = .ok (.iload_n 2, 1) := by decide +kernel
theorem dX3_remove_27 : decode cX3_remove 27 = .ok (.aload_n 0, 1) := by decide +kernel
theorem dX3_remove_28 : decode cX3_remove 28 = .ok (.getfield 9, 3) := by decide +kernel
theorem dX3_remove_31 : decode cX3_remove 31 = .ok (.iload_n 3, 1) := by decide +kernel
theorem dX3_remove_32 : decode cX3_remove 32 = .ok (.iaload, 1) := by decide +kernel
theorem dX3_remove_33 : decode cX3_remove 33 = .ok (.iastore, 1) := by decide +kernel
theorem dX3_remove_34 : decode cX3_remove 34 = .ok (.iinc 2 1, 3) := by decide +kernel
theorem dX3_remove_37 : decode cX3_remove 37 = .ok (.iinc 3 1, 3) := by decide +kernel
theorem dX3_remove_40 : decode cX3_remove 40 = .ok (.goto (-36), 3) := by decide +kernel
theorem dX3_remove_43 : decode cX3_remove 43 = .ok (.aload_n 0, 1) := by decide +kernel
theorem dX3_remove_44 : decode cX3_remove 44 = .ok (.iload_n 2, 1) := by decide +kernel
theorem dX3_remove_45 : decode cX3_remove 45 = .ok (.putfield 28, 3) := by decide +kernel
theorem dX3_remove_48 : decode cX3_remove 48 = .ok (.return_, 1) := by decide +kernel
theorem dX3_open_0 : decode cX3_open 0 = .ok (.aload_n 0, 1) := by decide +kernel
theorem dX3_open_1 : decode cX3_open 1 = .ok (.getfield 28, 3) := by decide +kernel
theorem dX3_open_4 : decode cX3_open 4 = .ok (.ifCond .ne 4, 3) := by decide +kernel
theorem dX3_open_7 : decode cX3_open 7 = .ok (.return_, 1) := by decide +kernel
theorem dX3_open_8 : decode cX3_open 8 = .ok (.iconst 0, 1) := by decide +kernel
theorem dX3_open_9 : decode cX3_open 9 = .ok (.istore_n 3, 1) := by decide +kernel
theorem dX3_open_10 : decode cX3_open 10 = .ok (.iload_n 3, 1) := by decide +kernel
theorem dX3_open_11 : decode cX3_open 11 = .ok (.aload_n 0, 1) := by decide +kernel
theorem dX3_open_12 : decode cX3_open 12 = .ok (.getfield 28, 3) := by decide +kernel
theorem dX3_open_15 : decode cX3_open 15 = .ok (.if_icmp .ge 47, 3) := by decide +kernel
theorem dX3_open_18 : decode cX3_open 18 = .ok (.aload_n 0, 1) := by decide +kernel
theorem dX3_open_19 : decode cX3_open 19 = .ok (.getfield 15, 3) := by decide +kernel
theorem dX3_open_22 : decode cX3_open 22 = .ok (.iload_n 3, 1) := by decide +kernel
theorem dX3_open_23 : decode cX3_open 23 = .ok (.aload_n 0, 1) := by decide +kernel
theorem dX3_open_24 : decode cX3_open 24 = .ok (.getfield 9, 3) := by decide +kernel
theorem dX3_open_27 : decode cX3_open 27 = .ok (.iload_n 3, 1) := by decide +kernel
theorem dX3_open_28 : decode cX3_open 28 = .ok (.iaload, 1) := by decide +kernel
theorem dX3_open_29 : decode cX3_open 29 = .ok (.iastore, 1) := by decide +kernel
theorem dX3_open_30 : decode cX3_open 30 = .ok (.aload_n 1, 1) := by decide +kernel
theorem dX3_open_31 : decode cX3_open 31 = .ok (.getfield 38, 3) := by decide +kernel
theorem dX3_open_34 : decode cX3_open 34 = .ok (.aload_n 0, 1) := by decide +kernel
theorem dX3_open_35 : decode cX3_open 35 = .ok (.getfield 9, 3) := by decide +kernel
theorem dX3_open_38 : decode cX3_open 38 = .ok (.iload_n 3, 1) := by decide +kernel
theorem dX3_open_39 : decode cX3_open 39 = .ok (.iaload, 1) := by decide +kernel
theorem dX3_open_40 : decode cX3_open 40 = .ok (.bipush 16, 2) := by decide +kernel
theorem dX3_open_42 : decode cX3_open 42 = .ok (.imul, 1) := by decide +kernel
theorem dX3_open_43 : decode cX3_open 43 = .ok (.aload_n 0, 1) := by decide +kernel
theorem dX3_open_44 : decode cX3_open 44 = .ok (.getfield 18, 3) := by decide +kernel
theorem dX3_open_47 : decode cX3_open 47 = .ok (.iload_n 3, 1) := by decide +kernel
theorem dX3_open_48 : decode cX3_open 48 = .ok (.bipush 16, 2) := by decide +kernel
theorem dX3_open_50 : decode cX3_open 50 = .ok (.imul, 1) := by decide +kernel
theorem dX3_open_51 : decode cX3_open 51 = .ok (.bipush 16, 2) := by decide +kernel
theorem dX3_open_53 : decode cX3_open 53 = .ok (.invokestatic 41, 3) := by decide +kernel
theorem dX3_open_56 : decode cX3_open 56 = .ok (.iinc 3 1, 3) := by decide +kernel
theorem dX3_open_59 : decode cX3_open 59 = .ok (.goto (-49), 3) := by decide +kernel
theorem dX3_open_62 : decode cX3_open 62 = .ok (.aload_n 0, 1) := by decide +kernel
theorem dX3_open_63 : decode cX3_open 63 = .ok (.aload_n 0, 1) := by decide +kernel
theorem dX3_open_64 : decode cX3_open 64 = .ok (.getfield 28, 3) := by decide +kernel
theorem dX3_open_67 : decode cX3_open 67 = .ok (.putfield 25, 3) := by decide +kernel
theorem dX3_open_70 : decode cX3_open 70 = .ok (.aload_n 0, 1) := by decide +kernel
theorem dX3_open_71 : decode cX3_open 71 = .ok (.iconst 0, 1) := by decide +kernel
theorem dX3_open_72 : decode cX3_open 72 = .ok (.putfield 28, 3) := by decide +kernel
theorem dX3_open_75 : decode cX3_open 75 = .ok (.aload_n 0, 1) := by decide +kernel
theorem dX3_open_76 : decode cX3_open 76 = .ok (.iconst 0, 1) := by decide +kernel
theorem dX3_open_77 : decode cX3_open 77 = .ok (.putfield 31, 3) := by decide +kernel
theorem dX3_open_80 : decode cX3_open 80 = .ok (.aload_n 0, 1) := by decide +kernel
theorem dX3_open_81 : decode cX3_open 81 = .ok (.dup, 1) := by decide +kernel
theorem dX3_open_82 : decode cX3_open 82 = .ok (.getfield 47, 3) := by decide +kernel
theorem dX3_open_85 : decode cX3_open 85 = .ok (.iconst 1, 1) := by decide +kernel
theorem dX3_open_86 : decode cX3_open 86 = .ok (.iadd, 1) := by decide +kernel
theorem dX3_open_87 : decode cX3_open 87 = .ok (.putfield 47, 3) := by decide +kernel
theorem dX3_open_90 : decode cX3_open 90 = .ok (.aload_n 0, 1) := by decide +kernel
theorem dX3_open_91 : decode cX3_open 91 = .ok (.iload_n 2, 1) := by decide +kernel
theorem dX3_open_92 : decode cX3_open 92 = .ok (.putfield 50, 3) := by decide +kernel
theorem dX3_open_95 : decode cX3_open 95 = .ok (.return_, 1) := by decide +kernel
theorem dX3_close_0 : decode cX3_close 0 = .ok (.aload_n 0, 1) := by decide +kernel
theorem dX3_close_1 : decode cX3_close 1 = .ok (.iconst 0, 1) := by decide +kernel
theorem dX3_close_2 : decode cX3_close 2 = .ok (.putfield 25, 3) := by decide +kernel
theorem dX3_close_5 : decode cX3_close 5 = .ok (.return_, 1) := by decide +kernel
theorem dX3_wipe_0 : decode cX3_wipe 0 = .ok (.aload_n 0, 1) := by decide +kernel
theorem dX3_wipe_1 : decode cX3_wipe 1 = .ok (.iconst 0, 1) := by decide +kernel
theorem dX3_wipe_2 : decode cX3_wipe 2 = .ok (.putfield 28, 3) := by decide +kernel
theorem dX3_wipe_5 : decode cX3_wipe 5 = .ok (.aload_n 0, 1) := by decide +kernel
theorem dX3_wipe_6 : decode cX3_wipe 6 = .ok (.iconst 0, 1) := by decide +kernel
theorem dX3_wipe_7 : decode cX3_wipe 7 = .ok (.putfield 25, 3) := by decide +kernel
theorem dX3_wipe_10 : decode cX3_wipe 10 = .ok (.aload_n 0, 1) := by decide +kernel
theorem dX3_wipe_11 : decode cX3_wipe 11 = .ok (.iconst 0, 1) := by decide +kernel
theorem dX3_wipe_12 : decode cX3_wipe 12 = .ok (.putfield 47, 3) := by decide +kernel
theorem dX3_wipe_15 : decode cX3_wipe 15 = .ok (.return_, 1) := by decide +kernel
theorem dX3_target_0 : decode cX3_target 0 = .ok (.aload_n 0, 1) := by decide +kernel
theorem dX3_target_1 : decode cX3_target 1 = .ok (.getfield 25, 3) := by decide +kernel
theorem dX3_target_4 : decode cX3_target 4 = .ok (.ifCond .ne 5, 3) := by decide +kernel
theorem dX3_target_7 : decode cX3_target 7 = .ok (.iconst (-1), 1) := by decide +kernel
theorem dX3_target_8 : decode cX3_target 8 = .ok (.ireturn, 1) := by decide +kernel
theorem dX3_target_9 : decode cX3_target 9 = .ok (.aload_n 0, 1) := by decide +kernel
theorem dX3_target_10 : decode cX3_target 10 = .ok (.getfield 31, 3) := by decide +kernel
theorem dX3_target_13 : decode cX3_target 13 = .ok (.aload_n 0, 1) := by decide +kernel
theorem dX3_target_14 : decode cX3_target 14 = .ok (.getfield 25, 3) := by decide +kernel
theorem dX3_target_17 : decode cX3_target 17 = .ok (.if_icmp .ge 15, 3) := by decide +kernel
theorem dX3_target_20 : decode cX3_target 20 = .ok (.aload_n 0, 1) := by decide +kernel
theorem dX3_target_21 : decode cX3_target 21 = .ok (.getfield 21, 3) := by decide +kernel
theorem dX3_target_24 : decode cX3_target 24 = .ok (.iconst 2, 1) := by decide +kernel
theorem dX3_target_25 : decode cX3_target 25 = .ok (.iadd, 1) := by decide +kernel
theorem dX3_target_26 : decode cX3_target 26 = .ok (.aload_n 0, 1) := by decide +kernel
theorem dX3_target_27 : decode cX3_target 27 = .ok (.getfield 31, 3) := by decide +kernel
theorem dX3_target_30 : decode cX3_target 30 = .ok (.iadd, 1) := by decide +kernel
theorem dX3_target_31 : decode cX3_target 31 = .ok (.ireturn, 1) := by decide +kernel
theorem dX3_target_32 : decode cX3_target 32 = .ok (.aload_n 0, 1) := by decide +kernel
theorem dX3_target_33 : decode cX3_target 33 = .ok (.getfield 31, 3) := by decide +kernel
theorem dX3_target_36 : decode cX3_target 36 = .ok (.aload_n 0, 1) := by decide +kernel
theorem dX3_target_37 : decode cX3_target 37 = .ok (.getfield 25, 3) := by decide +kernel
theorem dX3_target_40 : decode cX3_target 40 = .ok (.if_icmp .ne 10, 3) := by decide +kernel
theorem dX3_target_43 : decode cX3_target 43 = .ok (.aload_n 0, 1) := by decide +kernel
theorem dX3_target_44 : decode cX3_target 44 = .ok (.getfield 21, 3) := by decide +kernel
theorem dX3_target_47 : decode cX3_target 47 = .ok (.iconst 1, 1) := by decide +kernel
theorem dX3_target_48 : decode cX3_target 48 = .ok (.iadd, 1) := by decide +kernel
theorem dX3_target_49 : decode cX3_target 49 = .ok (.ireturn, 1) := by decide +kernel
theorem dX3_target_50 : decode cX3_target 50 = .ok (.aload_n 0, 1) := by decide +kernel
theorem dX3_target_51 : decode cX3_target 51 = .ok (.getfield 31, 3) := by decide +kernel
theorem dX3_target_54 : decode cX3_target 54 = .ok (.aload_n 0, 1) := by decide +kernel
theorem dX3_target_55 : decode cX3_target 55 = .ok (.getfield 25, 3) := by decide +kernel
theorem dX3_target_58 : decode cX3_target 58 = .ok (.isub, 1) := by decide +kernel
theorem dX3_target_59 : decode cX3_target 59 = .ok (.iconst 2, 1) := by decide +kernel
theorem dX3_target_60 : decode cX3_target 60 = .ok (.isub, 1) := by decide +kernel
theorem dX3_target_61 : decode cX3_target 61 = .ok (.istore_n 1, 1) := by decide +kernel
theorem dX3_target_62 : decode cX3_target 62 = .ok (.iload_n 1, 1) := by decide +kernel
theorem dX3_target_63 : decode cX3_target 63 = .ok (.ifCond .lt 11, 3) := by decide +kernel
theorem dX3_target_66 : decode cX3_target 66 = .ok (.iload_n 1, 1) := by decide +kernel
theorem dX3_target_67 : decode cX3_target 67 = .ok (.aload_n 0, 1) := by decide +kernel
theorem dX3_target_68 : decode cX3_target 68 = .ok (.getfield 25, 3) := by decide +kernel
theorem dX3_target_71 : decode cX3_target 71 = .ok (.if_icmp .lt 10, 3) := by decide +kernel
theorem dX3_target_74 : decode cX3_target 74 = .ok (.aload_n 0, 1) := by decide +kernel
theorem dX3_target_75 : decode cX3_target 75 = .ok (.getfield 21, 3) := by decide +kernel
theorem dX3_target_78 : decode cX3_target 78 = .ok (.goto 9, 3) := by decide +kernel
theorem dX3_target_81 : decode cX3_target 81 = .ok (.aload_n 0, 1) := by decide +kernel
theorem dX3_target_82 : decode cX3_target 82 = .ok (.getfield 15, 3) := by decide +kernel
theorem dX3_target_85 : decode cX3_target 85 = .ok (.iload_n 1, 1) := by decide +kernel
theorem dX3_target_86 : decode cX3_target 86 = .ok (.iaload, 1) := by decide +kernel
theorem dX3_target_87 : decode cX3_target 87 = .ok (.ireturn, 1) := by decide +kernel
theorem dX3_content_0 : decode cX3_content 0 = .ok (.aload_n 0, 1) := by decide +kernel
theorem dX3_content_1 : decode cX3_content 1 = .ok (.getfield 31, 3) := by decide +kernel
theorem dX3_content_4 : decode cX3_content 4 = .ok (.aload_n 0, 1) := by decide +kernel
theorem dX3_content_5 : decode cX3_content 5 = .ok (.getfield 25, 3) := by decide +kernel
theorem dX3_content_8 : decode cX3_content 8 = .ok (.if_icmp .ge 18, 3) := by decide +kernel
theorem dX3_content_11 : decode cX3_content 11 = .ok (.aload_n 0, 1) := by decide +kernel
theorem dX3_content_12 : decode cX3_content 12 = .ok (.getfield 18, 3) := by decide +kernel
theorem dX3_content_15 : decode cX3_content 15 = .ok (.aload_n 0, 1) := by decide +kernel
theorem dX3_content_16 : decode cX3_content 16 = .ok (.getfield 31, 3) := by decide +kernel
theorem dX3_content_19 : decode cX3_content 19 = .ok (.bipush 16, 2) := by decide +kernel
theorem dX3_content_21 : decode cX3_content 21 = .ok (.imul, 1) := by decide +kernel
theorem dX3_content_22 : decode cX3_content 22 = .ok (.iload_n 1, 1) := by decide +kernel
theorem dX3_content_23 : decode cX3_content 23 = .ok (.iadd, 1) := by decide +kernel
theorem dX3_content_24 : decode cX3_content 24 = .ok (.iaload, 1) := by decide +kernel
theorem dX3_content_25 : decode cX3_content 25 = .ok (.ireturn, 1) := by decide +kernel
theorem dX3_content_26 : decode cX3_content 26 = .ok (.aload_n 0, 1) := by decide +kernel
theorem dX3_content_27 : decode cX3_content 27 = .ok (.getfield 31, 3) := by decide +kernel
theorem dX3_content_30 : decode cX3_content 30 = .ok (.aload_n 0, 1) := by decide +kernel
theorem dX3_content_31 : decode cX3_content 31 = .ok (.getfield 25, 3) := by decide +kernel
theorem dX3_content_34 : decode cX3_content 34 = .ok (.if_icmp .ne 22, 3) := by decide +kernel
theorem dX3_content_37 : decode cX3_content 37 = .ok (.iload_n 1, 1) := by decide +kernel
theorem dX3_content_38 : decode cX3_content 38 = .ok (.aload_n 0, 1) := by decide +kernel
theorem dX3_content_39 : decode cX3_content 39 = .ok (.getfield 25, 3) := by decide +kernel
theorem dX3_content_42 : decode cX3_content 42 = .ok (.if_icmp .ge 12, 3) := by decide +kernel
theorem dX3_content_45 : decode cX3_content 45 = .ok (.aload_n 0, 1) := by decide +kernel
theorem dX3_content_46 : decode cX3_content 46 = .ok (.getfield 15, 3) := by decide +kernel
theorem dX3_content_49 : decode cX3_content 49 = .ok (.iload_n 1, 1) := by decide +kernel
theorem dX3_content_50 : decode cX3_content 50 = .ok (.iaload, 1) := by decide +kernel
theorem dX3_content_51 : decode cX3_content 51 = .ok (.goto 4, 3) := by decide +kernel
theorem dX3_content_54 : decode cX3_content 54 = .ok (.iconst 0, 1) := by decide +kernel
theorem dX3_content_55 : decode cX3_content 55 = .ok (.ireturn, 1) := by decide +kernel
theorem dX3_content_56 : decode cX3_content 56 = .ok (.aload_n 0, 1) := by decide +kernel
theorem dX3_content_57 : decode cX3_content 57 = .ok (.getfield 31, 3) := by decide +kernel
theorem dX3_content_60 : decode cX3_content 60 = .ok (.aload_n 0, 1) := by decide +kernel
theorem dX3_content_61 : decode cX3_content 61 = .ok (.getfield 25, 3) := by decide +kernel
theorem dX3_content_64 : decode cX3_content 64 = .ok (.isub, 1) := by decide +kernel
theorem dX3_content_65 : decode cX3_content 65 = .ok (.iconst 2, 1) := by decide +kernel
theorem dX3_content_66 : decode cX3_content 66 = .ok (.isub, 1) := by decide +kernel
theorem dX3_content_67 : decode cX3_content 67 = .ok (.istore_n 2, 1) := by decide +kernel
theorem dX3_content_68 : decode cX3_content 68 = .ok (.iload_n 2, 1) := by decide +kernel
theorem dX3_content_69 : decode cX3_content 69 = .ok (.ifCond .lt 23, 3) := by decide +kernel
theorem dX3_content_72 : decode cX3_content 72 = .ok (.iload_n 2, 1) := by decide +kernel
theorem dX3_content_73 : decode cX3_content 73 = .ok (.aload_n 0, 1) := by decide +kernel
theorem dX3_content_74 : decode cX3_content 74 = .ok (.getfield 25, 3) := by decide +kernel
theorem dX3_content_77 : decode cX3_content 77 = .ok (.if_icmp .ge 15, 3) := by decide +kernel
theorem dX3_content_80 : decode cX3_content 80 = .ok (.aload_n 0, 1) := by decide +kernel
theorem dX3_content_81 : decode cX3_content 81 = .ok (.getfield 18, 3) := by decide +kernel
theorem dX3_content_84 : decode cX3_content 84 = .ok (.iload_n 2, 1) := by decide +kernel
theorem dX3_content_85 : decode cX3_content 85 = .ok (.bipush 16, 2) := by decide +kernel
theorem dX3_content_87 : decode cX3_content 87 = .ok (.imul, 1) := by decide +kernel
theorem dX3_content_88 : decode cX3_content 88 = .ok (.iload_n 1, 1) := by decide +kernel
theorem dX3_content_89 : decode cX3_content 89 = .ok (.iadd, 1) := by decide +kernel
theorem dX3_content_90 : decode cX3_content 90 = .ok (.iaload, 1) := by decide +kernel
theorem dX3_content_91 : decode cX3_content 91 = .ok (.ireturn, 1) := by decide +kernel
theorem dX3_content_92 : decode cX3_content 92 = .ok (.iload_n 1, 1) := by decide +kernel
theorem dX3_content_93 : decode cX3_content 93 = .ok (.tableswitch 47 0 2 #[27, 32, 37], 27) := by decide +kernel
theorem dX3_content_120 : decode cX3_content 120 = .ok (.aload_n 0, 1) := by decide +kernel
theorem dX3_content_121 : decode cX3_content 121 = .ok (.getfield 47, 3) := by decide +kernel
theorem dX3_content_124 : decode cX3_content 124 = .ok (.ireturn, 1) := by decide +kernel
theorem dX3_content_125 : decode cX3_content 125 = .ok (.aload_n 0, 1) := by decide +kernel
theorem dX3_content_126 : decode cX3_content 126 = .ok (.getfield 25, 3) := by decide +kernel
theorem dX3_content_129 : decode cX3_content 129 = .ok (.ireturn, 1) := by decide +kernel
theorem dX3_content_130 : decode cX3_content 130 = .ok (.iload_n 2, 1) := by decide +kernel
theorem dX3_content_131 : decode cX3_content 131 = .ok (.ifCond .ge 7, 3) := by decide +kernel
theorem dX3_content_134 : decode cX3_content 134 = .ok (.iconst 1, 1) := by decide +kernel
theorem dX3_content_135 : decode cX3_content 135 = .ok (.goto 4, 3) := by decide +kernel
theorem dX3_content_138 : decode cX3_content 138 = .ok (.iconst 0, 1) := by decide +kernel
theorem dX3_content_139 : decode cX3_content 139 = .ok (.ireturn, 1) := by decide +kernel
theorem dX3_content_140 : decode cX3_content 140 = .ok (.iconst 0, 1) := by decide +kernel
theorem dX3_content_141 : decode cX3_content 141 = .ok (.ireturn, 1) := by decide +kernel
theorem dX3_write_0 : decode cX3_write 0 = .ok (.aload_n 0, 1) := by decide +kernel
theorem dX3_write_1 : decode cX3_write 1 = .ok (.invokevirtual 53, 3) := by decide +kernel
theorem dX3_write_4 : decode cX3_write 4 = .ok (.istore_n 3, 1) := by decide +kernel
theorem dX3_write_5 : decode cX3_write 5 = .ok (.iload_n 3, 1) := by decide +kernel
theorem dX3_write_6 : decode cX3_write 6 = .ok (.invokestatic 57, 3) := by decide +kernel
theorem dX3_write_9 : decode cX3_write 9 = .ok (.ifCond .ne 4, 3) := by decide +kernel
theorem dX3_write_12 : decode cX3_write 12 = .ok (.return_, 1) := by decide +kernel
theorem dX3_write_13 : decode cX3_write 13 = .ok (.iconst 0, 1) := by decide +kernel
theorem dX3_write_14 : decode cX3_write 14 = .ok (.istore 4, 2) := by decide +kernel
theorem dX3_write_16 : decode cX3_write 16 = .ok (.iload 4, 2) := by decide +kernel
theorem dX3_write_18 : decode cX3_write 18 = .ok (.iload_n 2, 1) := by decide +kernel
theorem dX3_write_19 : decode cX3_write 19 = .ok (.if_icmp .ge 31, 3) := by decide +kernel
theorem dX3_write_22 : decode cX3_write 22 = .ok (.iload 4, 2) := by decide +kernel
theorem dX3_write_24 : decode cX3_write 24 = .ok (.bipush 16, 2) := by decide +kernel
theorem dX3_write_26 : decode cX3_write 26 = .ok (.if_icmp .ge 24, 3) := by decide +kernel
theorem dX3_write_29 : decode cX3_write 29 = .ok (.aload_n 1, 1) := by decide +kernel
theorem dX3_write_30 : decode cX3_write 30 = .ok (.iload_n 3, 1) := by decide +kernel
theorem dX3_write_31 : decode cX3_write 31 = .ok (.bipush 16, 2) := by decide +kernel
theorem dX3_write_33 : decode cX3_write 33 = .ok (.imul, 1) := by decide +kernel
theorem dX3_write_34 : decode cX3_write 34 = .ok (.iload 4, 2) := by decide +kernel
theorem dX3_write_36 : decode cX3_write 36 = .ok (.iadd, 1) := by decide +kernel
theorem dX3_write_37 : decode cX3_write 37 = .ok (.aload_n 0, 1) := by decide +kernel
theorem dX3_write_38 : decode cX3_write 38 = .ok (.iload 4, 2) := by decide +kernel
theorem dX3_write_40 : decode cX3_write 40 = .ok (.invokevirtual 60, 3) := by decide +kernel
theorem dX3_write_43 : decode cX3_write 43 = .ok (.iastore, 1) := by decide +kernel
theorem dX3_write_44 : decode cX3_write 44 = .ok (.iinc 4 1, 3) := by decide +kernel
theorem dX3_write_47 : decode cX3_write 47 = .ok (.goto (-31), 3) := by decide +kernel
theorem dX3_write_50 : decode cX3_write 50 = .ok (.return_, 1) := by decide +kernel
theorem dX4_init_0 : decode cX4_init 0 = .ok (.aload_n 0, 1) := by decide +kernel
theorem dX4_init_1 : decode cX4_init 1 = .ok (.invokespecial 3, 3) := by decide +kernel
theorem dX4_init_4 : decode cX4_init 4 = .ok (.aload_n 0, 1) := by decide +kernel
theorem dX4_init_5 : decode cX4_init 5 = .ok (.sipush 136, 3) := by decide +kernel
theorem dX4_init_8 : decode cX4_init 8 = .ok (.newarray .int, 2) := by decide +kernel
theorem dX4_init_10 : decode cX4_init 10 = .ok (.putfield 9, 3) := by decide +kernel
theorem dX4_init_13 : decode cX4_init 13 = .ok (.aload_n 0, 1) := by decide +kernel
theorem dX4_init_14 : decode cX4_init 14 = .ok (.sipush 136, 3) := by decide +kernel
theorem dX4_init_17 : decode cX4_init 17 = .ok (.newarray .int, 2) := by decide +kernel
theorem dX4_init_19 : decode cX4_init 19 = .ok (.putfield 15, 3) := by decide +kernel
theorem dX4_init_22 : decode cX4_init 22 = .ok (.aload_n 0, 1) := by decide +kernel
theorem dX4_init_23 : decode cX4_init 23 = .ok (.sipush 136, 3) := by decide +kernel
theorem dX4_init_26 : decode cX4_init 26 = .ok (.newarray .int, 2) := by decide +kernel
theorem dX4_init_28 : decode cX4_init 28 = .ok (.putfield 18, 3) := by decide +kernel
theorem dX4_init_31 : decode cX4_init 31 = .ok (.aload_n 0, 1) := by decide +kernel
theorem dX4_init_32 : decode cX4_init 32 = .ok (.sipush 136, 3) := by decide +kernel
theorem dX4_init_35 : decode cX4_init 35 = .ok (.newarray .boolean, 2) := by decide +kernel
theorem dX4_init_37 : decode cX4_init 37 = .ok (.putfield 21, 3) := by decide +kernel
theorem dX4_init_40 : decode cX4_init 40 = .ok (.aload_n 0, 1) := by decide +kernel
theorem dX4_init_41 : decode cX4_init 41 = .ok (.sipush 136, 3) := by decide +kernel
theorem dX4_init_44 : decode cX4_init 44 = .ok (.newarray .int, 2) := by decide +kernel
theorem dX4_init_46 : decode cX4_init 46 = .ok (.putfield 25, 3) := by decide +kernel
theorem dX4_init_49 : decode cX4_init 49 = .ok (.aload_n 0, 1) := by decide +kernel
theorem dX4_init_50 : decode cX4_init 50 = .ok (.sipush 136, 3) := by decide +kernel
theorem dX4_init_53 : decode cX4_init 53 = .ok (.newarray .int, 2) := by decide +kernel
theorem dX4_init_55 : decode cX4_init 55 = .ok (.putfield 28, 3) := by decide +kernel
theorem dX4_init_58 : decode cX4_init 58 = .ok (.aload_n 0, 1) := by decide +kernel
theorem dX4_init_59 : decode cX4_init 59 = .ok (.getfield 18, 3) := by decide +kernel
theorem dX4_init_62 : decode cX4_init 62 = .ok (.iconst (-1), 1) := by decide +kernel
theorem dX4_init_63 : decode cX4_init 63 = .ok (.invokestatic 31, 3) := by decide +kernel
theorem dX4_init_66 : decode cX4_init 66 = .ok (.return_, 1) := by decide +kernel
theorem dX4_waitsToGoDown_0 : decode cX4_waitsToGoDown 0 = .ok (.aload_n 0, 1) := by decide +kernel
theorem dX4_waitsToGoDown_1 : decode cX4_waitsToGoDown 1 = .ok (.getfield 18, 3) := by decide +kernel
theorem dX4_waitsToGoDown_4 : decode cX4_waitsToGoDown 4 = .ok (.iload_n 1, 1) := by decide +kernel
theorem dX4_waitsToGoDown_5 : decode cX4_waitsToGoDown 5 = .ok (.iaload, 1) := by decide +kernel
theorem dX4_waitsToGoDown_6 : decode cX4_waitsToGoDown 6 = .ok (.iconst (-1), 1) := by decide +kernel
theorem dX4_waitsToGoDown_7 : decode cX4_waitsToGoDown 7 = .ok (.if_icmp .eq 16, 3) := by decide +kernel
theorem dX4_waitsToGoDown_10 : decode cX4_waitsToGoDown 10 = .ok (.aload_n 0, 1) := by decide +kernel
theorem dX4_waitsToGoDown_11 : decode cX4_waitsToGoDown 11 = .ok (.getfield 21, 3) := by decide +kernel
theorem dX4_waitsToGoDown_14 : decode cX4_waitsToGoDown 14 = .ok (.iload_n 1, 1) := by decide +kernel
theorem dX4_waitsToGoDown_15 : decode cX4_waitsToGoDown 15 = .ok (.baload, 1) := by decide +kernel
theorem dX4_waitsToGoDown_16 : decode cX4_waitsToGoDown 16 = .ok (.ifCond .ne 7, 3) := by decide +kernel
theorem dX4_waitsToGoDown_19 : decode cX4_waitsToGoDown 19 = .ok (.iconst 1, 1) := by decide +kernel
theorem dX4_waitsToGoDown_20 : decode cX4_waitsToGoDown 20 = .ok (.goto 4, 3) := by decide +kernel
theorem dX4_waitsToGoDown_23 : decode cX4_waitsToGoDown 23 = .ok (.iconst 0, 1) := by decide +kernel
theorem dX4_waitsToGoDown_24 : decode cX4_waitsToGoDown 24 = .ok (.ireturn, 1) := by decide +kernel
theorem dX4_grant_0 : decode cX4_grant 0 = .ok (.aload_n 0, 1) := by decide +kernel
theorem dX4_grant_1 : decode cX4_grant 1 = .ok (.getfield 9, 3) := by decide +kernel
theorem dX4_grant_4 : decode cX4_grant 4 = .ok (.iload_n 1, 1) := by decide +kernel
theorem dX4_grant_5 : decode cX4_grant 5 = .ok (.aload_n 0, 1) := by decide +kernel
theorem dX4_grant_6 : decode cX4_grant 6 = .ok (.getfield 9, 3) := by decide +kernel
theorem dX4_grant_9 : decode cX4_grant 9 = .ok (.iload_n 1, 1) := by decide +kernel
theorem dX4_grant_10 : decode cX4_grant 10 = .ok (.iaload, 1) := by decide +kernel
theorem dX4_grant_11 : decode cX4_grant 11 = .ok (.iload_n 2, 1) := by decide +kernel
theorem dX4_grant_12 : decode cX4_grant 12 = .ok (.invokestatic 37, 3) := by decide +kernel
theorem dX4_grant_15 : decode cX4_grant 15 = .ok (.iastore, 1) := by decide +kernel
theorem dX4_grant_16 : decode cX4_grant 16 = .ok (.aload_n 0, 1) := by decide +kernel
theorem dX4_grant_17 : decode cX4_grant 17 = .ok (.getfield 15, 3) := by decide +kernel
theorem dX4_grant_20 : decode cX4_grant 20 = .ok (.iload_n 1, 1) := by decide +kernel
theorem dX4_grant_21 : decode cX4_grant 21 = .ok (.iconst 0, 1) := by decide +kernel
theorem dX4_grant_22 : decode cX4_grant 22 = .ok (.iastore, 1) := by decide +kernel
theorem dX4_grant_23 : decode cX4_grant 23 = .ok (.return_, 1) := by decide +kernel
theorem dX4_list_0 : decode cX4_list 0 = .ok (.aload_n 0, 1) := by decide +kernel
theorem dX4_list_1 : decode cX4_list 1 = .ok (.getfield 28, 3) := by decide +kernel
theorem dX4_list_4 : decode cX4_list 4 = .ok (.iload_n 1, 1) := by decide +kernel
theorem dX4_list_5 : decode cX4_list 5 = .ok (.iaload, 1) := by decide +kernel
theorem dX4_list_6 : decode cX4_list 6 = .ok (.ifCond .ne 71, 3) := by decide +kernel
theorem dX4_list_9 : decode cX4_list 9 = .ok (.aload_n 0, 1) := by decide +kernel
theorem dX4_list_10 : decode cX4_list 10 = .ok (.getfield 43, 3) := by decide +kernel
theorem dX4_list_13 : decode cX4_list 13 = .ok (.sipush 136, 3) := by decide +kernel
theorem dX4_list_16 : decode cX4_list 16 = .ok (.if_icmp .ge 61, 3) := by decide +kernel
theorem dX4_list_19 : decode cX4_list 19 = .ok (.aload_n 0, 1) := by decide +kernel
theorem dX4_list_20 : decode cX4_list 20 = .ok (.getfield 43, 3) := by decide +kernel
theorem dX4_list_23 : decode cX4_list 23 = .ok (.istore_n 3, 1) := by decide +kernel
theorem dX4_list_24 : decode cX4_list 24 = .ok (.iload_n 3, 1) := by decide +kernel
theorem dX4_list_25 : decode cX4_list 25 = .ok (.ifCond .le 35, 3) := by decide +kernel
theorem dX4_list_28 : decode cX4_list 28 = .ok (.aload_n 0, 1) := by decide +kernel
theorem dX4_list_29 : decode cX4_list 29 = .ok (.getfield 25, 3) := by decide +kernel
theorem dX4_list_32 : decode cX4_list 32 = .ok (.iload_n 3, 1) := by decide +kernel
theorem dX4_list_33 : decode cX4_list 33 = .ok (.iconst 1, 1) := by decide +kernel
theorem dX4_list_34 : decode cX4_list 34 = .ok (.isub, 1) := by decide +kernel
theorem dX4_list_35 : decode cX4_list 35 = .ok (.iaload, 1) := by decide +kernel
theorem dX4_list_36 : decode cX4_list 36 = .ok (.iload_n 1, 1) := by decide +kernel
theorem dX4_list_37 : decode cX4_list 37 = .ok (.if_icmp .le 23, 3) := by decide +kernel
theorem dX4_list_40 : decode cX4_list 40 = .ok (.aload_n 0, 1) := by decide +kernel
theorem dX4_list_41 : decode cX4_list 41 = .ok (.getfield 25, 3) := by decide +kernel
theorem dX4_list_44 : decode cX4_list 44 = .ok (.iload_n 3, 1) := by decide +kernel
theorem dX4_list_45 : decode cX4_list 45 = .ok (.aload_n 0, 1) := by decide +kernel
theorem dX4_list_46 : decode cX4_list 46 = .ok (.getfield 25, 3) := by decide +kernel
theorem dX4_list_49 : decode cX4_list 49 = .ok (.iload_n 3, 1) := by decide +kernel
theorem dX4_list_50 : decode cX4_list 50 = .ok (.iconst 1, 1) := by decide +kernel
theorem dX4_list_51 : decode cX4_list 51 = .ok (.isub, 1) := by decide +kernel
theorem dX4_list_52 : decode cX4_list 52 = .ok (.iaload, 1) := by decide +kernel
theorem dX4_list_53 : decode cX4_list 53 = .ok (.iastore, 1) := by decide +kernel
theorem dX4_list_54 : decode cX4_list 54 = .ok (.iinc 3 (-1), 3) := by decide +kernel
theorem dX4_list_57 : decode cX4_list 57 = .ok (.goto (-33), 3) := by decide +kernel
theorem dX4_list_60 : decode cX4_list 60 = .ok (.aload_n 0, 1) := by decide +kernel
theorem dX4_list_61 : decode cX4_list 61 = .ok (.getfield 25, 3) := by decide +kernel
theorem dX4_list_64 : decode cX4_list 64 = .ok (.iload_n 3, 1) := by decide +kernel
theorem dX4_list_65 : decode cX4_list 65 = .ok (.iload_n 1, 1) := by decide +kernel
theorem dX4_list_66 : decode cX4_list 66 = .ok (.iastore, 1) := by decide +kernel
theorem dX4_list_67 : decode cX4_list 67 = .ok (.aload_n 0, 1) := by decide +kernel
theorem dX4_list_68 : decode cX4_list 68 = .ok (.dup, 1) := by decide +kernel
theorem dX4_list_69 : decode cX4_list 69 = .ok (.getfield 43, 3) := by decide +kernel
theorem dX4_list_72 : decode cX4_list 72 = .ok (.iconst 1, 1) := by decide +kernel
theorem dX4_list_73 : decode cX4_list 73 = .ok (.iadd, 1) := by decide +kernel
theorem dX4_list_74 : decode cX4_list 74 = .ok (.putfield 43, 3) := by decide +kernel
theorem dX4_list_77 : decode cX4_list 77 = .ok (.aload_n 0, 1) := by decide +kernel
theorem dX4_list_78 : decode cX4_list 78 = .ok (.getfield 28, 3) := by decide +kernel
theorem dX4_list_81 : decode cX4_list 81 = .ok (.iload_n 1, 1) := by decide +kernel
theorem dX4_list_82 : decode cX4_list 82 = .ok (.iload_n 2, 1) := by decide +kernel
theorem dX4_list_83 : decode cX4_list 83 = .ok (.iastore, 1) := by decide +kernel
theorem dX4_list_84 : decode cX4_list 84 = .ok (.return_, 1) := by decide +kernel
theorem dX4_clearList_0 : decode cX4_clearList 0 = .ok (.aload_n 0, 1) := by decide +kernel
theorem dX4_clearList_1 : decode cX4_clearList 1 = .ok (.getfield 28, 3) := by decide +kernel
theorem dX4_clearList_4 : decode cX4_clearList 4 = .ok (.iconst 0, 1) := by decide +kernel
theorem dX4_clearList_5 : decode cX4_clearList 5 = .ok (.invokestatic 31, 3) := by decide +kernel
theorem dX4_clearList_8 : decode cX4_clearList 8 = .ok (.aload_n 0, 1) := by decide +kernel
theorem dX4_clearList_9 : decode cX4_clearList 9 = .ok (.iconst 0, 1) := by decide +kernel
theorem dX4_clearList_10 : decode cX4_clearList 10 = .ok (.putfield 43, 3) := by decide +kernel
theorem dX4_clearList_13 : decode cX4_clearList 13 = .ok (.return_, 1) := by decide +kernel
theorem dX4_wipe_0 : decode cX4_wipe 0 = .ok (.aload_n 0, 1) := by decide +kernel
theorem dX4_wipe_1 : decode cX4_wipe 1 = .ok (.getfield 9, 3) := by decide +kernel
theorem dX4_wipe_4 : decode cX4_wipe 4 = .ok (.iconst 0, 1) := by decide +kernel
theorem dX4_wipe_5 : decode cX4_wipe 5 = .ok (.invokestatic 31, 3) := by decide +kernel
theorem dX4_wipe_8 : decode cX4_wipe 8 = .ok (.aload_n 0, 1) := by decide +kernel
theorem dX4_wipe_9 : decode cX4_wipe 9 = .ok (.getfield 15, 3) := by decide +kernel
theorem dX4_wipe_12 : decode cX4_wipe 12 = .ok (.iconst 0, 1) := by decide +kernel
theorem dX4_wipe_13 : decode cX4_wipe 13 = .ok (.invokestatic 31, 3) := by decide +kernel
theorem dX4_wipe_16 : decode cX4_wipe 16 = .ok (.aload_n 0, 1) := by decide +kernel
theorem dX4_wipe_17 : decode cX4_wipe 17 = .ok (.getfield 18, 3) := by decide +kernel
theorem dX4_wipe_20 : decode cX4_wipe 20 = .ok (.iconst (-1), 1) := by decide +kernel
theorem dX4_wipe_21 : decode cX4_wipe 21 = .ok (.invokestatic 31, 3) := by decide +kernel
theorem dX4_wipe_24 : decode cX4_wipe 24 = .ok (.iconst 0, 1) := by decide +kernel
theorem dX4_wipe_25 : decode cX4_wipe 25 = .ok (.istore_n 1, 1) := by decide +kernel
theorem dX4_wipe_26 : decode cX4_wipe 26 = .ok (.iload_n 1, 1) := by decide +kernel
theorem dX4_wipe_27 : decode cX4_wipe 27 = .ok (.sipush 136, 3) := by decide +kernel
theorem dX4_wipe_30 : decode cX4_wipe 30 = .ok (.if_icmp .ge 16, 3) := by decide +kernel
theorem dX4_wipe_33 : decode cX4_wipe 33 = .ok (.aload_n 0, 1) := by decide +kernel
theorem dX4_wipe_34 : decode cX4_wipe 34 = .ok (.getfield 21, 3) := by decide +kernel
theorem dX4_wipe_37 : decode cX4_wipe 37 = .ok (.iload_n 1, 1) := by decide +kernel
theorem dX4_wipe_38 : decode cX4_wipe 38 = .ok (.iconst 0, 1) := by decide +kernel
theorem dX4_wipe_39 : decode cX4_wipe 39 = .ok (.bastore, 1) := by decide +kernel
theorem dX4_wipe_40 : decode cX4_wipe 40 = .ok (.iinc 1 1, 3) := by decide +kernel
theorem dX4_wipe_43 : decode cX4_wipe 43 = .ok (.goto (-17), 3) := by decide +kernel
theorem dX4_wipe_46 : decode cX4_wipe 46 = .ok (.aload_n 0, 1) := by decide +kernel
theorem dX4_wipe_47 : decode cX4_wipe 47 = .ok (.invokevirtual 47, 3) := by decide +kernel
theorem dX4_wipe_50 : decode cX4_wipe 50 = .ok (.return_, 1) := by decide +kernel
theorem dX5_init_0 : decode cX5_init 0 = .ok (.aload_n 0, 1) := by decide +kernel
theorem dX5_init_1 : decode cX5_init 1 = .ok (.invokespecial 3, 3) := by decide +kernel
theorem dX5_init_4 : decode cX5_init 4 = .ok (.aload_n 0, 1) := by decide +kernel
theorem dX5_init_5 : decode cX5_init 5 = .ok (.bipush 16, 2) := by decide +kernel
theorem dX5_init_7 : decode cX5_init 7 = .ok (.newarray .int, 2) := by decide +kernel
theorem dX5_init_9 : decode cX5_init 9 = .ok (.putfield 9, 3) := by decide +kernel
theorem dX5_init_12 : decode cX5_init 12 = .ok (.aload_n 0, 1) := by decide +kernel
theorem dX5_init_13 : decode cX5_init 13 = .ok (.sipush 768, 3) := by decide +kernel
theorem dX5_init_16 : decode cX5_init 16 = .ok (.newarray .int, 2) := by decide +kernel
theorem dX5_init_18 : decode cX5_init 18 = .ok (.putfield 15, 3) := by decide +kernel
theorem dX5_init_21 : decode cX5_init 21 = .ok (.aload_n 0, 1) := by decide +kernel
theorem dX5_init_22 : decode cX5_init 22 = .ok (.sipush 768, 3) := by decide +kernel
theorem dX5_init_25 : decode cX5_init 25 = .ok (.newarray .int, 2) := by decide +kernel
theorem dX5_init_27 : decode cX5_init 27 = .ok (.putfield 18, 3) := by decide +kernel
theorem dX5_init_30 : decode cX5_init 30 = .ok (.aload_n 0, 1) := by decide +kernel
theorem dX5_init_31 : decode cX5_init 31 = .ok (.getfield 9, 3) := by decide +kernel
theorem dX5_init_34 : decode cX5_init 34 = .ok (.iconst 1, 1) := by decide +kernel
theorem dX5_init_35 : decode cX5_init 35 = .ok (.invokestatic 21, 3) := by decide +kernel
theorem dX5_init_38 : decode cX5_init 38 = .ok (.return_, 1) := by decide +kernel
theorem dX5_send_0 : decode cX5_send 0 = .ok (.aload_n 0, 1) := by decide +kernel
theorem dX5_send_1 : decode cX5_send 1 = .ok (.getfield 27, 3) := by decide +kernel
theorem dX5_send_4 : decode cX5_send 4 = .ok (.sipush 128, 3) := by decide +kernel
theorem dX5_send_7 : decode cX5_send 7 = .ok (.if_icmp .lt 4, 3) := by decide +kernel
theorem dX5_send_10 : decode cX5_send 10 = .ok (.return_, 1) := by decide +kernel
theorem dX5_send_11 : decode cX5_send 11 = .ok (.iload 6, 2) := by decide +kernel
theorem dX5_send_13 : decode cX5_send 13 = .ok (.aload_n 0, 1) := by decide +kernel
theorem dX5_send_14 : decode cX5_send 14 = .ok (.getfield 9, 3) := by decide +kernel
theorem dX5_send_17 : decode cX5_send 17 = .ok (.iload_n 1, 1) := by decide +kernel
theorem dX5_send_18 : decode cX5_send 18 = .ok (.iconst 4, 1) := by decide +kernel
theorem dX5_send_19 : decode cX5_send 19 = .ok (.imul, 1) := by decide +kernel
theorem dX5_send_20 : decode cX5_send 20 = .ok (.iload_n 2, 1) := by decide +kernel
theorem dX5_send_21 : decode cX5_send 21 = .ok (.iadd, 1) := by decide +kernel
theorem dX5_send_22 : decode cX5_send 22 = .ok (.iaload, 1) := by decide +kernel
theorem dX5_send_23 : decode cX5_send 23 = .ok (.iadd, 1) := by decide +kernel
theorem dX5_send_24 : decode cX5_send 24 = .ok (.istore 7, 2) := by decide +kernel
theorem dX5_send_26 : decode cX5_send 26 = .ok (.iconst 0, 1) := by decide +kernel
theorem dX5_send_27 : decode cX5_send 27 = .ok (.istore 8, 2) := by decide +kernel
theorem dX5_send_29 : decode cX5_send 29 = .ok (.iload 8, 2) := by decide +kernel
theorem dX5_send_31 : decode cX5_send 31 = .ok (.aload_n 0, 1) := by decide +kernel
theorem dX5_send_32 : decode cX5_send 32 = .ok (.getfield 27, 3) := by decide +kernel
theorem dX5_send_35 : decode cX5_send 35 = .ok (.if_icmp .ge 56, 3) := by decide +kernel
theorem dX5_send_38 : decode cX5_send 38 = .ok (.iload 8, 2) := by decide +kernel
theorem dX5_send_40 : decode cX5_send 40 = .ok (.bipush 6, 2) := by decide +kernel
theorem dX5_send_42 : decode cX5_send 42 = .ok (.imul, 1) := by decide +kernel
theorem dX5_send_43 : decode cX5_send 43 = .ok (.istore 9, 2) := by decide +kernel
theorem dX5_send_45 : decode cX5_send 45 = .ok (.aload_n 0, 1) := by decide +kernel
theorem dX5_send_46 : decode cX5_send 46 = .ok (.getfield 15, 3) := by decide +kernel
theorem dX5_send_49 : decode cX5_send 49 = .ok (.iload 9, 2) := by decide +kernel
theorem dX5_send_51 : decode cX5_send 51 = .ok (.iaload, 1) := by decide +kernel
theorem dX5_send_52 : decode cX5_send 52 = .ok (.iload_n 1, 1) := by decide +kernel
theorem dX5_send_53 : decode cX5_send 53 = .ok (.if_icmp .ne 32, 3) := by decide +kernel
theorem dX5_send_56 : decode cX5_send 56 = .ok (.aload_n 0, 1) := by decide +kernel
theorem dX5_send_57 : decode cX5_send 57 = .ok (.getfield 15, 3) := by decide +kernel
theorem dX5_send_60 : decode cX5_send 60 = .ok (.iload 9, 2) := by decide +kernel
theorem dX5_send_62 : decode cX5_send 62 = .ok (.iconst 1, 1) := by decide +kernel
theorem dX5_send_63 : decode cX5_send 63 = .ok (.iadd, 1) := by decide +kernel
theorem dX5_send_64 : decode cX5_send 64 = .ok (.iaload, 1) := by decide +kernel
theorem dX5_send_65 : decode cX5_send 65 = .ok (.iload_n 2, 1) := by decide +kernel
theorem dX5_send_66 : decode cX5_send 66 = .ok (.if_icmp .ne 19, 3) := by decide +kernel
theorem dX5_send_69 : decode cX5_send 69 = .ok (.iload 7, 2) := by decide +kernel
theorem dX5_send_71 : decode cX5_send 71 = .ok (.aload_n 0, 1) := by decide +kernel
theorem dX5_send_72 : decode cX5_send 72 = .ok (.getfield 15, 3) := by decide +kernel
theorem dX5_send_75 : decode cX5_send 75 = .ok (.iload 9, 2) := by decide +kernel
theorem dX5_send_77 : decode cX5_send 77 = .ok (.iconst 5, 1) := by decide +kernel
theorem dX5_send_78 : decode cX5_send 78 = .ok (.iadd, 1) := by decide +kernel
theorem dX5_send_79 : decode cX5_send 79 = .ok (.iaload, 1) := by decide +kernel
theorem dX5_send_80 : decode cX5_send 80 = .ok (.invokestatic 31, 3) := by decide +kernel
theorem dX5_send_83 : decode cX5_send 83 = .ok (.istore 7, 2) := by decide +kernel
theorem dX5_send_85 : decode cX5_send 85 = .ok (.iinc 8 1, 3) := by decide +kernel
theorem dX5_send_88 : decode cX5_send 88 = .ok (.goto (-59), 3) := by decide +kernel
theorem dX5_send_91 : decode cX5_send 91 = .ok (.aload_n 0, 1) := by decide +kernel
theorem dX5_send_92 : decode cX5_send 92 = .ok (.getfield 27, 3) := by decide +kernel
theorem dX5_send_95 : decode cX5_send 95 = .ok (.bipush 6, 2) := by decide +kernel
theorem dX5_send_97 : decode cX5_send 97 = .ok (.imul, 1) := by decide +kernel
theorem dX5_send_98 : decode cX5_send 98 = .ok (.istore 8, 2) := by decide +kernel
theorem dX5_send_100 : decode cX5_send 100 = .ok (.aload_n 0, 1) := by decide +kernel
theorem dX5_send_101 : decode cX5_send 101 = .ok (.getfield 15, 3) := by decide +kernel
theorem dX5_send_104 : decode cX5_send 104 = .ok (.iload 8, 2) := by decide +kernel
theorem dX5_send_106 : decode cX5_send 106 = .ok (.iload_n 1, 1) := by decide +kernel
theorem dX5_send_107 : decode cX5_send 107 = .ok (.iastore, 1) := by decide +kernel
theorem dX5_send_108 : decode cX5_send 108 = .ok (.aload_n 0, 1) := by decide +kernel
theorem dX5_send_109 : decode cX5_send 109 = .ok (.getfield 15, 3) := by decide +kernel
theorem dX5_send_112 : decode cX5_send 112 = .ok (.iload 8, 2) := by decide +kernel
theorem dX5_send_114 : decode cX5_send 114 = .ok (.iconst 1, 1) := by decide +kernel
theorem dX5_send_115 : decode cX5_send 115 = .ok (.iadd, 1) := by decide +kernel
theorem dX5_send_116 : decode cX5_send 116 = .ok (.iload_n 2, 1) := by decide +kernel
theorem dX5_send_117 : decode cX5_send 117 = .ok (.iastore, 1) := by decide +kernel
theorem dX5_send_118 : decode cX5_send 118 = .ok (.aload_n 0, 1) := by decide +kernel
theorem dX5_send_119 : decode cX5_send 119 = .ok (.getfield 15, 3) := by decide +kernel
theorem dX5_send_122 : decode cX5_send 122 = .ok (.iload 8, 2) := by decide +kernel
theorem dX5_send_124 : decode cX5_send 124 = .ok (.iconst 2, 1) := by decide +kernel
theorem dX5_send_125 : decode cX5_send 125 = .ok (.iadd, 1) := by decide +kernel
theorem dX5_send_126 : decode cX5_send 126 = .ok (.iload_n 3, 1) := by decide +kernel
theorem dX5_send_127 : decode cX5_send 127 = .ok (.iastore, 1) := by decide +kernel
theorem dX5_send_128 : decode cX5_send 128 = .ok (.aload_n 0, 1) := by decide +kernel
theorem dX5_send_129 : decode cX5_send 129 = .ok (.getfield 15, 3) := by decide +kernel
theorem dX5_send_132 : decode cX5_send 132 = .ok (.iload 8, 2) := by decide +kernel
theorem dX5_send_134 : decode cX5_send 134 = .ok (.iconst 3, 1) := by decide +kernel
theorem dX5_send_135 : decode cX5_send 135 = .ok (.iadd, 1) := by decide +kernel
theorem dX5_send_136 : decode cX5_send 136 = .ok (.iload 4, 2) := by decide +kernel
theorem dX5_send_138 : decode cX5_send 138 = .ok (.iastore, 1) := by decide +kernel
theorem dX5_send_139 : decode cX5_send 139 = .ok (.aload_n 0, 1) := by decide +kernel
theorem dX5_send_140 : decode cX5_send 140 = .ok (.getfield 15, 3) := by decide +kernel
theorem dX5_send_143 : decode cX5_send 143 = .ok (.iload 8, 2) := by decide +kernel
theorem dX5_send_145 : decode cX5_send 145 = .ok (.iconst 4, 1) := by decide +kernel
theorem dX5_send_146 : decode cX5_send 146 = .ok (.iadd, 1) := by decide +kernel
theorem dX5_send_147 : decode cX5_send 147 = .ok (.iload 5, 2) := by decide +kernel
theorem dX5_send_149 : decode cX5_send 149 = .ok (.iastore, 1) := by decide +kernel
theorem dX5_send_150 : decode cX5_send 150 = .ok (.aload_n 0, 1) := by decide +kernel
theorem dX5_send_151 : decode cX5_send 151 = .ok (.getfield 15, 3) := by decide +kernel
theorem dX5_send_154 : decode cX5_send 154 = .ok (.iload 8, 2) := by decide +kernel
theorem dX5_send_156 : decode cX5_send 156 = .ok (.iconst 5, 1) := by decide +kernel
theorem dX5_send_157 : decode cX5_send 157 = .ok (.iadd, 1) := by decide +kernel
theorem dX5_send_158 : decode cX5_send 158 = .ok (.iload 7, 2) := by decide +kernel
theorem dX5_send_160 : decode cX5_send 160 = .ok (.iastore, 1) := by decide +kernel
theorem dX5_send_161 : decode cX5_send 161 = .ok (.aload_n 0, 1) := by decide +kernel
theorem dX5_send_162 : decode cX5_send 162 = .ok (.dup, 1) := by decide +kernel
theorem dX5_send_163 : decode cX5_send 163 = .ok (.getfield 27, 3) := by decide +kernel
theorem dX5_send_166 : decode cX5_send 166 = .ok (.iconst 1, 1) := by decide +kernel
theorem dX5_send_167 : decode cX5_send 167 = .ok (.iadd, 1) := by decide +kernel
theorem dX5_send_168 : decode cX5_send 168 = .ok (.putfield 27, 3) := by decide +kernel
theorem dX5_send_171 : decode cX5_send 171 = .ok (.return_, 1) := by decide +kernel
theorem dX5_gather_0 : decode cX5_gather 0 = .ok (.iconst 0, 1) := by decide +kernel
theorem dX5_gather_1 : decode cX5_gather 1 = .ok (.istore_n 2, 1) := by decide +kernel
theorem dX5_gather_2 : decode cX5_gather 2 = .ok (.iconst 0, 1) := by decide +kernel
theorem dX5_gather_3 : decode cX5_gather 3 = .ok (.istore_n 3, 1) := by decide +kernel
theorem dX5_gather_4 : decode cX5_gather 4 = .ok (.iconst 0, 1) := by decide +kernel
theorem dX5_gather_5 : decode cX5_gather 5 = .ok (.istore 4, 2) := by decide +kernel
theorem dX5_gather_7 : decode cX5_gather 7 = .ok (.iload 4, 2) := by decide +kernel
theorem dX5_gather_9 : decode cX5_gather 9 = .ok (.aload_n 0, 1) := by decide +kernel
theorem dX5_gather_10 : decode cX5_gather 10 = .ok (.getfield 27, 3) := by decide +kernel
theorem dX5_gather_13 : decode cX5_gather 13 = .ok (.if_icmp .ge 78, 3) := by decide +kernel
theorem dX5_gather_16 : decode cX5_gather 16 = .ok (.aload_n 0, 1) := by decide +kernel
theorem dX5_gather_17 : decode cX5_gather 17 = .ok (.getfield 15, 3) := by decide +kernel
theorem dX5_gather_20 : decode cX5_gather 20 = .ok (.iload 4, 2) := by decide +kernel
theorem dX5_gather_22 : decode cX5_gather 22 = .ok (.bipush 6, 2) := by decide +kernel
theorem dX5_gather_24 : decode cX5_gather 24 = .ok (.imul, 1) := by decide +kernel
theorem dX5_gather_25 : decode cX5_gather 25 = .ok (.iconst 5, 1) := by decide +kernel
theorem dX5_gather_26 : decode cX5_gather 26 = .ok (.iadd, 1) := by decide +kernel
theorem dX5_gather_27 : decode cX5_gather 27 = .ok (.iaload, 1) := by decide +kernel
theorem dX5_gather_28 : decode cX5_gather 28 = .ok (.iload_n 1, 1) := by decide +kernel
theorem dX5_gather_29 : decode cX5_gather 29 = .ok (.if_icmp .gt 31, 3) := by decide +kernel
theorem dX5_gather_32 : decode cX5_gather 32 = .ok (.aload_n 0, 1) := by decide +kernel
theorem dX5_gather_33 : decode cX5_gather 33 = .ok (.getfield 15, 3) := by decide +kernel
theorem dX5_gather_36 : decode cX5_gather 36 = .ok (.iload 4, 2) := by decide +kernel
theorem dX5_gather_38 : decode cX5_gather 38 = .ok (.bipush 6, 2) := by decide +kernel
theorem dX5_gather_40 : decode cX5_gather 40 = .ok (.imul, 1) := by decide +kernel
theorem dX5_gather_41 : decode cX5_gather 41 = .ok (.aload_n 0, 1) := by decide +kernel
theorem dX5_gather_42 : decode cX5_gather 42 = .ok (.getfield 18, 3) := by decide +kernel
theorem dX5_gather_45 : decode cX5_gather 45 = .ok (.iload_n 2, 1) := by decide +kernel
theorem dX5_gather_46 : decode cX5_gather 46 = .ok (.bipush 6, 2) := by decide +kernel
theorem dX5_gather_48 : decode cX5_gather 48 = .ok (.imul, 1) := by decide +kernel
theorem dX5_gather_49 : decode cX5_gather 49 = .ok (.bipush 6, 2) := by decide +kernel
theorem dX5_gather_51 : decode cX5_gather 51 = .ok (.invokestatic 37, 3) := by decide +kernel
theorem dX5_gather_54 : decode cX5_gather 54 = .ok (.iinc 2 1, 3) := by decide +kernel
theorem dX5_gather_57 : decode cX5_gather 57 = .ok (.goto 28, 3) := by decide +kernel
theorem dX5_gather_60 : decode cX5_gather 60 = .ok (.aload_n 0, 1) := by decide +kernel
theorem dX5_gather_61 : decode cX5_gather 61 = .ok (.getfield 15, 3) := by decide +kernel
theorem dX5_gather_64 : decode cX5_gather 64 = .ok (.iload 4, 2) := by decide +kernel
theorem dX5_gather_66 : decode cX5_gather 66 = .ok (.bipush 6, 2) := by decide +kernel
theorem dX5_gather_68 : decode cX5_gather 68 = .ok (.imul, 1) := by decide +kernel
theorem dX5_gather_69 : decode cX5_gather 69 = .ok (.aload_n 0, 1) := by decide +kernel
theorem dX5_gather_70 : decode cX5_gather 70 = .ok (.getfield 15, 3) := by decide +kernel
theorem dX5_gather_73 : decode cX5_gather 73 = .ok (.iload_n 3, 1) := by decide +kernel
theorem dX5_gather_74 : decode cX5_gather 74 = .ok (.bipush 6, 2) := by decide +kernel
theorem dX5_gather_76 : decode cX5_gather 76 = .ok (.imul, 1) := by decide +kernel
theorem dX5_gather_77 : decode cX5_gather 77 = .ok (.bipush 6, 2) := by decide +kernel
theorem dX5_gather_79 : decode cX5_gather 79 = .ok (.invokestatic 37, 3) := by decide +kernel
theorem dX5_gather_82 : decode cX5_gather 82 = .ok (.iinc 3 1, 3) := by decide +kernel
theorem dX5_gather_85 : decode cX5_gather 85 = .ok (.iinc 4 1, 3) := by decide +kernel
theorem dX5_gather_88 : decode cX5_gather 88 = .ok (.goto (-81), 3) := by decide +kernel
theorem dX5_gather_91 : decode cX5_gather 91 = .ok (.aload_n 0, 1) := by decide +kernel
theorem dX5_gather_92 : decode cX5_gather 92 = .ok (.iload_n 3, 1) := by decide +kernel
theorem dX5_gather_93 : decode cX5_gather 93 = .ok (.putfield 27, 3) := by decide +kernel
theorem dX5_gather_96 : decode cX5_gather 96 = .ok (.iload_n 2, 1) := by decide +kernel
theorem dX5_gather_97 : decode cX5_gather 97 = .ok (.ireturn, 1) := by decide +kernel
theorem dX5_forget_0 : decode cX5_forget 0 = .ok (.iconst 0, 1) := by decide +kernel
theorem dX5_forget_1 : decode cX5_forget 1 = .ok (.istore_n 2, 1) := by decide +kernel
theorem dX5_forget_2 : decode cX5_forget 2 = .ok (.iconst 0, 1) := by decide +kernel
theorem dX5_forget_3 : decode cX5_forget 3 = .ok (.istore_n 3, 1) := by decide +kernel
theorem dX5_forget_4 : decode cX5_forget 4 = .ok (.iload_n 3, 1) := by decide +kernel
theorem dX5_forget_5 : decode cX5_forget 5 = .ok (.aload_n 0, 1) := by decide +kernel
theorem dX5_forget_6 : decode cX5_forget 6 = .ok (.getfield 27, 3) := by decide +kernel
theorem dX5_forget_9 : decode cX5_forget 9 = .ok (.if_icmp .ge 61, 3) := by decide +kernel
theorem dX5_forget_12 : decode cX5_forget 12 = .ok (.aload_n 0, 1) := by decide +kernel
theorem dX5_forget_13 : decode cX5_forget 13 = .ok (.getfield 15, 3) := by decide +kernel
theorem dX5_forget_16 : decode cX5_forget 16 = .ok (.iload_n 3, 1) := by decide +kernel
theorem dX5_forget_17 : decode cX5_forget 17 = .ok (.bipush 6, 2) := by decide +kernel
theorem dX5_forget_19 : decode cX5_forget 19 = .ok (.imul, 1) := by decide +kernel
theorem dX5_forget_20 : decode cX5_forget 20 = .ok (.iaload, 1) := by decide +kernel
theorem dX5_forget_21 : decode cX5_forget 21 = .ok (.iload_n 1, 1) := by decide +kernel
theorem dX5_forget_22 : decode cX5_forget 22 = .ok (.if_icmp .eq 42, 3) := by decide +kernel
theorem dX5_forget_25 : decode cX5_forget 25 = .ok (.aload_n 0, 1) := by decide +kernel
theorem dX5_forget_26 : decode cX5_forget 26 = .ok (.getfield 15, 3) := by decide +kernel
theorem dX5_forget_29 : decode cX5_forget 29 = .ok (.iload_n 3, 1) := by decide +kernel
theorem dX5_forget_30 : decode cX5_forget 30 = .ok (.bipush 6, 2) := by decide +kernel
theorem dX5_forget_32 : decode cX5_forget 32 = .ok (.imul, 1) := by decide +kernel
theorem dX5_forget_33 : decode cX5_forget 33 = .ok (.iconst 1, 1) := by decide +kernel
theorem dX5_forget_34 : decode cX5_forget 34 = .ok (.iadd, 1) := by decide +kernel
theorem dX5_forget_35 : decode cX5_forget 35 = .ok (.iaload, 1) := by decide +kernel
theorem dX5_forget_36 : decode cX5_forget 36 = .ok (.iload_n 1, 1) := by decide +kernel
theorem dX5_forget_37 : decode cX5_forget 37 = .ok (.if_icmp .eq 27, 3) := by decide +kernel
theorem dX5_forget_40 : decode cX5_forget 40 = .ok (.aload_n 0, 1) := by decide +kernel
theorem dX5_forget_41 : decode cX5_forget 41 = .ok (.getfield 15, 3) := by decide +kernel
theorem dX5_forget_44 : decode cX5_forget 44 = .ok (.iload_n 3, 1) := by decide +kernel
theorem dX5_forget_45 : decode cX5_forget 45 = .ok (.bipush 6, 2) := by decide +kernel
theorem dX5_forget_47 : decode cX5_forget 47 = .ok (.imul, 1) := by decide +kernel
theorem dX5_forget_48 : decode cX5_forget 48 = .ok (.aload_n 0, 1) := by decide +kernel
theorem dX5_forget_49 : decode cX5_forget 49 = .ok (.getfield 15, 3) := by decide +kernel
theorem dX5_forget_52 : decode cX5_forget 52 = .ok (.iload_n 2, 1) := by decide +kernel
theorem dX5_forget_53 : decode cX5_forget 53 = .ok (.bipush 6, 2) := by decide +kernel
theorem dX5_forget_55 : decode cX5_forget 55 = .ok (.imul, 1) := by decide +kernel
theorem dX5_forget_56 : decode cX5_forget 56 = .ok (.bipush 6, 2) := by decide +kernel
theorem dX5_forget_58 : decode cX5_forget 58 = .ok (.invokestatic 37, 3) := by decide +kernel
theorem dX5_forget_61 : decode cX5_forget 61 = .ok (.iinc 2 1, 3) := by decide +kernel
theorem dX5_forget_64 : decode cX5_forget 64 = .ok (.iinc 3 1, 3) := by decide +kernel
theorem dX5_forget_67 : decode cX5_forget 67 = .ok (.goto (-63), 3) := by decide +kernel
theorem dX5_forget_70 : decode cX5_forget 70 = .ok (.aload_n 0, 1) := by decide +kernel
theorem dX5_forget_71 : decode cX5_forget 71 = .ok (.iload_n 2, 1) := by decide +kernel
theorem dX5_forget_72 : decode cX5_forget 72 = .ok (.putfield 27, 3) := by decide +kernel
theorem dX5_forget_75 : decode cX5_forget 75 = .ok (.return_, 1) := by decide +kernel
theorem dX6_init_0 : decode cX6_init 0 = .ok (.aload_n 0, 1) := by decide +kernel
theorem dX6_init_1 : decode cX6_init 1 = .ok (.invokespecial 3, 3) := by decide +kernel
theorem dX6_init_4 : decode cX6_init 4 = .ok (.aload_n 0, 1) := by decide +kernel
theorem dX6_init_5 : decode cX6_init 5 = .ok (.sipush 544, 3) := by decide +kernel
theorem dX6_init_8 : decode cX6_init 8 = .ok (.newarray .int, 2) := by decide +kernel
theorem dX6_init_10 : decode cX6_init 10 = .ok (.putfield 9, 3) := by decide +kernel
theorem dX6_init_13 : decode cX6_init 13 = .ok (.aload_n 0, 1) := by decide +kernel
theorem dX6_init_14 : decode cX6_init 14 = .ok (.sipush 544, 3) := by decide +kernel
theorem dX6_init_17 : decode cX6_init 17 = .ok (.newarray .int, 2) := by decide +kernel
theorem dX6_init_19 : decode cX6_init 19 = .ok (.putfield 15, 3) := by decide +kernel
theorem dX6_init_22 : decode cX6_init 22 = .ok (.aload_n 0, 1) := by decide +kernel
theorem dX6_init_23 : decode cX6_init 23 = .ok (.sipush 544, 3) := by decide +kernel
theorem dX6_init_26 : decode cX6_init 26 = .ok (.newarray .int, 2) := by decide +kernel
theorem dX6_init_28 : decode cX6_init 28 = .ok (.putfield 18, 3) := by decide +kernel
theorem dX6_init_31 : decode cX6_init 31 = .ok (.aload_n 0, 1) := by decide +kernel
theorem dX6_init_32 : decode cX6_init 32 = .ok (.sipush 544, 3) := by decide +kernel
theorem dX6_init_35 : decode cX6_init 35 = .ok (.newarray .int, 2) := by decide +kernel
theorem dX6_init_37 : decode cX6_init 37 = .ok (.putfield 21, 3) := by decide +kernel
theorem dX6_init_40 : decode cX6_init 40 = .ok (.aload_n 0, 1) := by decide +kernel
theorem dX6_init_41 : decode cX6_init 41 = .ok (.sipush 136, 3) := by decide +kernel
theorem dX6_init_44 : decode cX6_init 44 = .ok (.newarray .int, 2) := by decide +kernel
theorem dX6_init_46 : decode cX6_init 46 = .ok (.putfield 24, 3) := by decide +kernel
theorem dX6_init_49 : decode cX6_init 49 = .ok (.aload_n 0, 1) := by decide +kernel
theorem dX6_init_50 : decode cX6_init 50 = .ok (.getfield 15, 3) := by decide +kernel
theorem dX6_init_53 : decode cX6_init 53 = .ok (.iconst (-1), 1) := by decide +kernel
theorem dX6_init_54 : decode cX6_init 54 = .ok (.invokestatic 27, 3) := by decide +kernel
theorem dX6_init_57 : decode cX6_init 57 = .ok (.return_, 1) := by decide +kernel
theorem dX6_ask_0 : decode cX6_ask 0 = .ok (.aload_n 0, 1) := by decide +kernel
theorem dX6_ask_1 : decode cX6_ask 1 = .ok (.getfield 24, 3) := by decide +kernel
theorem dX6_ask_4 : decode cX6_ask 4 = .ok (.iload_n 1, 1) := by decide +kernel
theorem dX6_ask_5 : decode cX6_ask 5 = .ok (.iaload, 1) := by decide +kernel
theorem dX6_ask_6 : decode cX6_ask 6 = .ok (.iconst 4, 1) := by decide +kernel
theorem dX6_ask_7 : decode cX6_ask 7 = .ok (.if_icmp .ge 41, 3) := by decide +kernel
theorem dX6_ask_10 : decode cX6_ask 10 = .ok (.iload_n 1, 1) := by decide +kernel
theorem dX6_ask_11 : decode cX6_ask 11 = .ok (.iconst 4, 1) := by decide +kernel
theorem dX6_ask_12 : decode cX6_ask 12 = .ok (.imul, 1) := by decide +kernel
theorem dX6_ask_13 : decode cX6_ask 13 = .ok (.aload_n 0, 1) := by decide +kernel
theorem dX6_ask_14 : decode cX6_ask 14 = .ok (.getfield 24, 3) := by decide +kernel
theorem dX6_ask_17 : decode cX6_ask 17 = .ok (.iload_n 1, 1) := by decide +kernel
theorem dX6_ask_18 : decode cX6_ask 18 = .ok (.iaload, 1) := by decide +kernel
theorem dX6_ask_19 : decode cX6_ask 19 = .ok (.iadd, 1) := by decide +kernel
theorem dX6_ask_20 : decode cX6_ask 20 = .ok (.istore 4, 2) := by decide +kernel
theorem dX6_ask_22 : decode cX6_ask 22 = .ok (.aload_n 0, 1) := by decide +kernel
theorem dX6_ask_23 : decode cX6_ask 23 = .ok (.getfield 18, 3) := by decide +kernel
theorem dX6_ask_26 : decode cX6_ask 26 = .ok (.iload 4, 2) := by decide +kernel
theorem dX6_ask_28 : decode cX6_ask 28 = .ok (.iload_n 2, 1) := by decide +kernel
theorem dX6_ask_29 : decode cX6_ask 29 = .ok (.iastore, 1) := by decide +kernel
theorem dX6_ask_30 : decode cX6_ask 30 = .ok (.aload_n 0, 1) := by decide +kernel
theorem dX6_ask_31 : decode cX6_ask 31 = .ok (.getfield 21, 3) := by decide +kernel
theorem dX6_ask_34 : decode cX6_ask 34 = .ok (.iload 4, 2) := by decide +kernel
theorem dX6_ask_36 : decode cX6_ask 36 = .ok (.iload_n 3, 1) := by decide +kernel
theorem dX6_ask_37 : decode cX6_ask 37 = .ok (.iastore, 1) := by decide +kernel
theorem dX6_ask_38 : decode cX6_ask 38 = .ok (.aload_n 0, 1) := by decide +kernel
theorem dX6_ask_39 : decode cX6_ask 39 = .ok (.getfield 24, 3) := by decide +kernel
theorem dX6_ask_42 : decode cX6_ask 42 = .ok (.iload_n 1, 1) := by decide +kernel
theorem dX6_ask_43 : decode cX6_ask 43 = .ok (.dup2, 1) := by decide +kernel
theorem dX6_ask_44 : decode cX6_ask 44 = .ok (.iaload, 1) := by decide +kernel
theorem dX6_ask_45 : decode cX6_ask 45 = .ok (.iconst 1, 1) := by decide +kernel
theorem dX6_ask_46 : decode cX6_ask 46 = .ok (.iadd, 1) := by decide +kernel
theorem dX6_ask_47 : decode cX6_ask 47 = .ok (.iastore, 1) := by decide +kernel
theorem dX6_ask_48 : decode cX6_ask 48 = .ok (.return_, 1) := by decide +kernel
theorem dX6_dropFirst_0 : decode cX6_dropFirst 0 = .ok (.iload_n 1, 1) := by decide +kernel
theorem dX6_dropFirst_1 : decode cX6_dropFirst 1 = .ok (.iconst 4, 1) := by decide +kernel
theorem dX6_dropFirst_2 : decode cX6_dropFirst 2 = .ok (.imul, 1) := by decide +kernel
theorem dX6_dropFirst_3 : decode cX6_dropFirst 3 = .ok (.istore_n 2, 1) := by decide +kernel
theorem dX6_dropFirst_4 : decode cX6_dropFirst 4 = .ok (.iconst 1, 1) := by decide +kernel
theorem dX6_dropFirst_5 : decode cX6_dropFirst 5 = .ok (.istore_n 3, 1) := by decide +kernel
theorem dX6_dropFirst_6 : decode cX6_dropFirst 6 = .ok (.iload_n 3, 1) := by decide +kernel
theorem dX6_dropFirst_7 : decode cX6_dropFirst 7 = .ok (.aload_n 0, 1) := by decide +kernel
theorem dX6_dropFirst_8 : decode cX6_dropFirst 8 = .ok (.getfield 24, 3) := by decide +kernel
theorem dX6_dropFirst_11 : decode cX6_dropFirst 11 = .ok (.iload_n 1, 1) := by decide +kernel
theorem dX6_dropFirst_12 : decode cX6_dropFirst 12 = .ok (.iaload, 1) := by decide +kernel
theorem dX6_dropFirst_13 : decode cX6_dropFirst 13 = .ok (.if_icmp .ge 45, 3) := by decide +kernel
theorem dX6_dropFirst_16 : decode cX6_dropFirst 16 = .ok (.aload_n 0, 1) := by decide +kernel
theorem dX6_dropFirst_17 : decode cX6_dropFirst 17 = .ok (.getfield 18, 3) := by decide +kernel
theorem dX6_dropFirst_20 : decode cX6_dropFirst 20 = .ok (.iload_n 2, 1) := by decide +kernel
theorem dX6_dropFirst_21 : decode cX6_dropFirst 21 = .ok (.iload_n 3, 1) := by decide +kernel
theorem dX6_dropFirst_22 : decode cX6_dropFirst 22 = .ok (.iadd, 1) := by decide +kernel
theorem dX6_dropFirst_23 : decode cX6_dropFirst 23 = .ok (.iconst 1, 1) := by decide +kernel
theorem dX6_dropFirst_24 : decode cX6_dropFirst 24 = .ok (.isub, 1) := by decide +kernel
theorem dX6_dropFirst_25 : decode cX6_dropFirst 25 = .ok (.aload_n 0, 1) := by decide +kernel
theorem dX6_dropFirst_26 : decode cX6_dropFirst 26 = .ok (.getfield 18, 3) := by decide +kernel
theorem dX6_dropFirst_29 : decode cX6_dropFirst 29 = .ok (.iload_n 2, 1) := by decide +kernel
theorem dX6_dropFirst_30 : decode cX6_dropFirst 30 = .ok (.iload_n 3, 1) := by decide +kernel
theorem dX6_dropFirst_31 : decode cX6_dropFirst 31 = .ok (.iadd, 1) := by decide +kernel
theorem dX6_dropFirst_32 : decode cX6_dropFirst 32 = .ok (.iaload, 1) := by decide +kernel
theorem dX6_dropFirst_33 : decode cX6_dropFirst 33 = .ok (.iastore, 1) := by decide +kernel
theorem dX6_dropFirst_34 : decode cX6_dropFirst 34 = .ok (.aload_n 0, 1) := by decide +kernel
theorem dX6_dropFirst_35 : decode cX6_dropFirst 35 = .ok (.getfield 21, 3) := by decide +kernel
theorem dX6_dropFirst_38 : decode cX6_dropFirst 38 = .ok (.iload_n 2, 1) := by decide +kernel
theorem dX6_dropFirst_39 : decode cX6_dropFirst 39 = .ok (.iload_n 3, 1) := by decide +kernel
theorem dX6_dropFirst_40 : decode cX6_dropFirst 40 = .ok (.iadd, 1) := by decide +kernel
theorem dX6_dropFirst_41 : decode cX6_dropFirst 41 = .ok (.iconst 1, 1) := by decide +kernel
theorem dX6_dropFirst_42 : decode cX6_dropFirst 42 = .ok (.isub, 1) := by decide +kernel
theorem dX6_dropFirst_43 : decode cX6_dropFirst 43 = .ok (.aload_n 0, 1) := by decide +kernel
theorem dX6_dropFirst_44 : decode cX6_dropFirst 44 = .ok (.getfield 21, 3) := by decide +kernel
theorem dX6_dropFirst_47 : decode cX6_dropFirst 47 = .ok (.iload_n 2, 1) := by decide +kernel
theorem dX6_dropFirst_48 : decode cX6_dropFirst 48 = .ok (.iload_n 3, 1) := by decide +kernel
theorem dX6_dropFirst_49 : decode cX6_dropFirst 49 = .ok (.iadd, 1) := by decide +kernel
theorem dX6_dropFirst_50 : decode cX6_dropFirst 50 = .ok (.iaload, 1) := by decide +kernel
theorem dX6_dropFirst_51 : decode cX6_dropFirst 51 = .ok (.iastore, 1) := by decide +kernel
theorem dX6_dropFirst_52 : decode cX6_dropFirst 52 = .ok (.iinc 3 1, 3) := by decide +kernel
theorem dX6_dropFirst_55 : decode cX6_dropFirst 55 = .ok (.goto (-49), 3) := by decide +kernel
theorem dX6_dropFirst_58 : decode cX6_dropFirst 58 = .ok (.aload_n 0, 1) := by decide +kernel
theorem dX6_dropFirst_59 : decode cX6_dropFirst 59 = .ok (.getfield 24, 3) := by decide +kernel
theorem dX6_dropFirst_62 : decode cX6_dropFirst 62 = .ok (.iload_n 1, 1) := by decide +kernel
theorem dX6_dropFirst_63 : decode cX6_dropFirst 63 = .ok (.iconst 0, 1) := by decide +kernel
theorem dX6_dropFirst_64 : decode cX6_dropFirst 64 = .ok (.aload_n 0, 1) := by decide +kernel
theorem dX6_dropFirst_65 : decode cX6_dropFirst 65 = .ok (.getfield 24, 3) := by decide +kernel
theorem dX6_dropFirst_68 : decode cX6_dropFirst 68 = .ok (.iload_n 1, 1) := by decide +kernel
theorem dX6_dropFirst_69 : decode cX6_dropFirst 69 = .ok (.iaload, 1) := by decide +kernel
theorem dX6_dropFirst_70 : decode cX6_dropFirst 70 = .ok (.iconst 1, 1) := by decide +kernel
theorem dX6_dropFirst_71 : decode cX6_dropFirst 71 = .ok (.isub, 1) := by decide +kernel
theorem dX6_dropFirst_72 : decode cX6_dropFirst 72 = .ok (.invokestatic 33, 3) := by decide +kernel
theorem dX6_dropFirst_75 : decode cX6_dropFirst 75 = .ok (.iastore, 1) := by decide +kernel
theorem dX6_dropFirst_76 : decode cX6_dropFirst 76 = .ok (.return_, 1) := by decide +kernel
theorem dX6_give_0 : decode cX6_give 0 = .ok (.iload_n 1, 1) := by decide +kernel
theorem dX6_give_1 : decode cX6_give 1 = .ok (.iconst 4, 1) := by decide +kernel
theorem dX6_give_2 : decode cX6_give 2 = .ok (.imul, 1) := by decide +kernel
theorem dX6_give_3 : decode cX6_give 3 = .ok (.iload_n 2, 1) := by decide +kernel
theorem dX6_give_4 : decode cX6_give 4 = .ok (.iadd, 1) := by decide +kernel
theorem dX6_give_5 : decode cX6_give 5 = .ok (.istore 4, 2) := by decide +kernel
theorem dX6_give_7 : decode cX6_give 7 = .ok (.aload_n 0, 1) := by decide +kernel
theorem dX6_give_8 : decode cX6_give 8 = .ok (.getfield 9, 3) := by decide +kernel
theorem dX6_give_11 : decode cX6_give 11 = .ok (.iload 4, 2) := by decide +kernel
theorem dX6_give_13 : decode cX6_give 13 = .ok (.aload_n 0, 1) := by decide +kernel
theorem dX6_give_14 : decode cX6_give 14 = .ok (.getfield 9, 3) := by decide +kernel
theorem dX6_give_17 : decode cX6_give 17 = .ok (.iload 4, 2) := by decide +kernel
theorem dX6_give_19 : decode cX6_give 19 = .ok (.iaload, 1) := by decide +kernel
theorem dX6_give_20 : decode cX6_give 20 = .ok (.iload_n 3, 1) := by decide +kernel
theorem dX6_give_21 : decode cX6_give 21 = .ok (.invokestatic 33, 3) := by decide +kernel
theorem dX6_give_24 : decode cX6_give 24 = .ok (.iastore, 1) := by decide +kernel
theorem dX6_give_25 : decode cX6_give 25 = .ok (.return_, 1) := by decide +kernel
theorem dX6_release_0 : decode cX6_release 0 = .ok (.aload_n 0, 1) := by decide +kernel
theorem dX6_release_1 : decode cX6_release 1 = .ok (.getfield 9, 3) := by decide +kernel
theorem dX6_release_4 : decode cX6_release 4 = .ok (.iload_n 1, 1) := by decide +kernel
theorem dX6_release_5 : decode cX6_release 5 = .ok (.iconst 4, 1) := by decide +kernel
theorem dX6_release_6 : decode cX6_release 6 = .ok (.imul, 1) := by decide +kernel
theorem dX6_release_7 : decode cX6_release 7 = .ok (.iload_n 2, 1) := by decide +kernel
theorem dX6_release_8 : decode cX6_release 8 = .ok (.iadd, 1) := by decide +kernel
theorem dX6_release_9 : decode cX6_release 9 = .ok (.iload_n 3, 1) := by decide +kernel
theorem dX6_release_10 : decode cX6_release 10 = .ok (.iastore, 1) := by decide +kernel
theorem dX6_release_11 : decode cX6_release 11 = .ok (.aload_n 0, 1) := by decide +kernel
theorem dX6_release_12 : decode cX6_release 12 = .ok (.getfield 15, 3) := by decide +kernel
theorem dX6_release_15 : decode cX6_release 15 = .ok (.iload_n 1, 1) := by decide +kernel
theorem dX6_release_16 : decode cX6_release 16 = .ok (.iconst 4, 1) := by decide +kernel
theorem dX6_release_17 : decode cX6_release 17 = .ok (.imul, 1) := by decide +kernel
theorem dX6_release_18 : decode cX6_release 18 = .ok (.iload_n 2, 1) := by decide +kernel
theorem dX6_release_19 : decode cX6_release 19 = .ok (.iadd, 1) := by decide +kernel
theorem dX6_release_20 : decode cX6_release 20 = .ok (.iconst (-1), 1) := by decide +kernel
theorem dX6_release_21 : decode cX6_release 21 = .ok (.iastore, 1) := by decide +kernel
theorem dX6_release_22 : decode cX6_release 22 = .ok (.return_, 1) := by decide +kernel
theorem dX6_wipe_0 : decode cX6_wipe 0 = .ok (.iconst 0, 1) := by decide +kernel
theorem dX6_wipe_1 : decode cX6_wipe 1 = .ok (.istore_n 2, 1) := by decide +kernel
theorem dX6_wipe_2 : decode cX6_wipe 2 = .ok (.iload_n 2, 1) := by decide +kernel
theorem dX6_wipe_3 : decode cX6_wipe 3 = .ok (.iconst 4, 1) := by decide +kernel
theorem dX6_wipe_4 : decode cX6_wipe 4 = .ok (.if_icmp .ge 31, 3) := by decide +kernel
theorem dX6_wipe_7 : decode cX6_wipe 7 = .ok (.aload_n 0, 1) := by decide +kernel
theorem dX6_wipe_8 : decode cX6_wipe 8 = .ok (.getfield 9, 3) := by decide +kernel
theorem dX6_wipe_11 : decode cX6_wipe 11 = .ok (.iload_n 1, 1) := by decide +kernel
theorem dX6_wipe_12 : decode cX6_wipe 12 = .ok (.iconst 4, 1) := by decide +kernel
theorem dX6_wipe_13 : decode cX6_wipe 13 = .ok (.imul, 1) := by decide +kernel
theorem dX6_wipe_14 : decode cX6_wipe 14 = .ok (.iload_n 2, 1) := by decide +kernel
theorem dX6_wipe_15 : decode cX6_wipe 15 = .ok (.iadd, 1) := by decide +kernel
theorem dX6_wipe_16 : decode cX6_wipe 16 = .ok (.iconst 0, 1) := by decide +kernel
theorem dX6_wipe_17 : decode cX6_wipe 17 = .ok (.iastore, 1) := by decide +kernel
theorem dX6_wipe_18 : decode cX6_wipe 18 = .ok (.aload_n 0, 1) := by decide +kernel
theorem dX6_wipe_19 : decode cX6_wipe 19 = .ok (.getfield 15, 3) := by decide +kernel
theorem dX6_wipe_22 : decode cX6_wipe 22 = .ok (.iload_n 1, 1) := by decide +kernel
theorem dX6_wipe_23 : decode cX6_wipe 23 = .ok (.iconst 4, 1) := by decide +kernel
theorem dX6_wipe_24 : decode cX6_wipe 24 = .ok (.imul, 1) := by decide +kernel
theorem dX6_wipe_25 : decode cX6_wipe 25 = .ok (.iload_n 2, 1) := by decide +kernel
theorem dX6_wipe_26 : decode cX6_wipe 26 = .ok (.iadd, 1) := by decide +kernel
theorem dX6_wipe_27 : decode cX6_wipe 27 = .ok (.iconst (-1), 1) := by decide +kernel
theorem dX6_wipe_28 : decode cX6_wipe 28 = .ok (.iastore, 1) := by decide +kernel
theorem dX6_wipe_29 : decode cX6_wipe 29 = .ok (.iinc 2 1, 3) := by decide +kernel
theorem dX6_wipe_32 : decode cX6_wipe 32 = .ok (.goto (-30), 3) := by decide +kernel
theorem dX6_wipe_35 : decode cX6_wipe 35 = .ok (.aload_n 0, 1) := by decide +kernel
theorem dX6_wipe_36 : decode cX6_wipe 36 = .ok (.getfield 24, 3) := by decide +kernel
theorem dX6_wipe_39 : decode cX6_wipe 39 = .ok (.iload_n 1, 1) := by decide +kernel
theorem dX6_wipe_40 : decode cX6_wipe 40 = .ok (.iconst 0, 1) := by decide +kernel
theorem dX6_wipe_41 : decode cX6_wipe 41 = .ok (.iastore, 1) := by decide +kernel
theorem dX6_wipe_42 : decode cX6_wipe 42 = .ok (.return_, 1) := by decide +kernel
theorem dX7_init_0 : decode cX7_init 0 = .ok (.aload_n 0, 1) := by decide +kernel
theorem dX7_init_1 : decode cX7_init 1 = .ok (.invokespecial 1, 3) := by decide +kernel
theorem dX7_init_4 : decode cX7_init 4 = .ok (.aload_n 0, 1) := by decide +kernel
theorem dX7_init_5 : decode cX7_init 5 = .ok (.new 7, 3) := by decide +kernel
theorem dX7_init_8 : decode cX7_init 8 = .ok (.dup, 1) := by decide +kernel
theorem dX7_init_9 : decode cX7_init 9 = .ok (.invokespecial 9, 3) := by decide +kernel
theorem dX7_init_12 : decode cX7_init 12 = .ok (.putfield 10, 3) := by decide +kernel
theorem dX7_init_15 : decode cX7_init 15 = .ok (.aload_n 0, 1) := by decide +kernel
theorem dX7_init_16 : decode cX7_init 16 = .ok (.new 16, 3) := by decide +kernel
theorem dX7_init_19 : decode cX7_init 19 = .ok (.dup, 1) := by decide +kernel
theorem dX7_init_20 : decode cX7_init 20 = .ok (.invokespecial 18, 3) := by decide +kernel
theorem dX7_init_23 : decode cX7_init 23 = .ok (.putfield 19, 3) := by decide +kernel
theorem dX7_init_26 : decode cX7_init 26 = .ok (.aload_n 0, 1) := by decide +kernel
theorem dX7_init_27 : decode cX7_init 27 = .ok (.new 23, 3) := by decide +kernel
theorem dX7_init_30 : decode cX7_init 30 = .ok (.dup, 1) := by decide +kernel
theorem dX7_init_31 : decode cX7_init 31 = .ok (.invokespecial 25, 3) := by decide +kernel
theorem dX7_init_34 : decode cX7_init 34 = .ok (.putfield 26, 3) := by decide +kernel
theorem dX7_init_37 : decode cX7_init 37 = .ok (.aload_n 0, 1) := by decide +kernel
theorem dX7_init_38 : decode cX7_init 38 = .ok (.iconst 1, 1) := by decide +kernel
theorem dX7_init_39 : decode cX7_init 39 = .ok (.putfield 30, 3) := by decide +kernel
theorem dX7_init_42 : decode cX7_init 42 = .ok (.aload_n 0, 1) := by decide +kernel
theorem dX7_init_43 : decode cX7_init 43 = .ok (.iconst 1, 1) := by decide +kernel
theorem dX7_init_44 : decode cX7_init 44 = .ok (.putfield 34, 3) := by decide +kernel
theorem dX7_init_47 : decode cX7_init 47 = .ok (.aload_n 0, 1) := by decide +kernel
theorem dX7_init_48 : decode cX7_init 48 = .ok (.iload_n 1, 1) := by decide +kernel
theorem dX7_init_49 : decode cX7_init 49 = .ok (.putfield 37, 3) := by decide +kernel
theorem dX7_init_52 : decode cX7_init 52 = .ok (.aload_n 0, 1) := by decide +kernel
theorem dX7_init_53 : decode cX7_init 53 = .ok (.new 41, 3) := by decide +kernel
theorem dX7_init_56 : decode cX7_init 56 = .ok (.dup, 1) := by decide +kernel
theorem dX7_init_57 : decode cX7_init 57 = .ok (.iload_n 1, 1) := by decide +kernel
theorem dX7_init_58 : decode cX7_init 58 = .ok (.invokestatic 43, 3) := by decide +kernel
theorem dX7_init_61 : decode cX7_init 61 = .ok (.invokespecial 49, 3) := by decide +kernel
theorem dX7_init_64 : decode cX7_init 64 = .ok (.putfield 52, 3) := by decide +kernel
theorem dX7_init_67 : decode cX7_init 67 = .ok (.return_, 1) := by decide +kernel
theorem dX7_goDark_0 : decode cX7_goDark 0 = .ok (.aload_n 0, 1) := by decide +kernel
theorem dX7_goDark_1 : decode cX7_goDark 1 = .ok (.iconst 0, 1) := by decide +kernel
theorem dX7_goDark_2 : decode cX7_goDark 2 = .ok (.putfield 30, 3) := by decide +kernel
theorem dX7_goDark_5 : decode cX7_goDark 5 = .ok (.aload_n 0, 1) := by decide +kernel
theorem dX7_goDark_6 : decode cX7_goDark 6 = .ok (.getfield 10, 3) := by decide +kernel
theorem dX7_goDark_9 : decode cX7_goDark 9 = .ok (.invokevirtual 56, 3) := by decide +kernel
theorem dX7_goDark_12 : decode cX7_goDark 12 = .ok (.aload_n 0, 1) := by decide +kernel
theorem dX7_goDark_13 : decode cX7_goDark 13 = .ok (.getfield 52, 3) := by decide +kernel
theorem dX7_goDark_16 : decode cX7_goDark 16 = .ok (.invokevirtual 59, 3) := by decide +kernel
theorem dX7_goDark_19 : decode cX7_goDark 19 = .ok (.aload_n 0, 1) := by decide +kernel
theorem dX7_goDark_20 : decode cX7_goDark 20 = .ok (.getfield 19, 3) := by decide +kernel
theorem dX7_goDark_23 : decode cX7_goDark 23 = .ok (.invokevirtual 60, 3) := by decide +kernel
theorem dX7_goDark_26 : decode cX7_goDark 26 = .ok (.return_, 1) := by decide +kernel
theorem dX8_init_0 : decode cX8_init 0 = .ok (.aload_n 0, 1) := by decide +kernel
theorem dX8_init_1 : decode cX8_init 1 = .ok (.invokespecial 3, 3) := by decide +kernel
theorem dX8_init_4 : decode cX8_init 4 = .ok (.return_, 1) := by decide +kernel
theorem dX8_begin_0 : decode cX8_begin 0 = .ok (.aload_n 0, 1) := by decide +kernel
theorem dX8_begin_1 : decode cX8_begin 1 = .ok (.iload_n 1, 1) := by decide +kernel
theorem dX8_begin_2 : decode cX8_begin 2 = .ok (.putfield 9, 3) := by decide +kernel
theorem dX8_begin_5 : decode cX8_begin 5 = .ok (.aload_n 0, 1) := by decide +kernel
theorem dX8_begin_6 : decode cX8_begin 6 = .ok (.iconst 1, 1) := by decide +kernel
theorem dX8_begin_7 : decode cX8_begin 7 = .ok (.putfield 15, 3) := by decide +kernel
theorem dX8_begin_10 : decode cX8_begin 10 = .ok (.aload_n 0, 1) := by decide +kernel
theorem dX8_begin_11 : decode cX8_begin 11 = .ok (.iconst 0, 1) := by decide +kernel
theorem dX8_begin_12 : decode cX8_begin 12 = .ok (.putfield 18, 3) := by decide +kernel
theorem dX8_begin_15 : decode cX8_begin 15 = .ok (.aload_n 0, 1) := by decide +kernel
theorem dX8_begin_16 : decode cX8_begin 16 = .ok (.iload_n 2, 1) := by decide +kernel
theorem dX8_begin_17 : decode cX8_begin 17 = .ok (.putfield 21, 3) := by decide +kernel
theorem dX8_begin_20 : decode cX8_begin 20 = .ok (.aload_n 0, 1) := by decide +kernel
theorem dX8_begin_21 : decode cX8_begin 21 = .ok (.iconst 0, 1) := by decide +kernel
theorem dX8_begin_22 : decode cX8_begin 22 = .ok (.putfield 24, 3) := by decide +kernel
theorem dX8_begin_25 : decode cX8_begin 25 = .ok (.aload_n 0, 1) := by decide +kernel
theorem dX8_begin_26 : decode cX8_begin 26 = .ok (.iconst 0, 1) := by decide +kernel
theorem dX8_begin_27 : decode cX8_begin 27 = .ok (.putfield 27, 3) := by decide +kernel
theorem dX8_begin_30 : decode cX8_begin 30 = .ok (.aload_n 0, 1) := by decide +kernel
theorem dX8_begin_31 : decode cX8_begin 31 = .ok (.iconst 0, 1) := by decide +kernel
theorem dX8_begin_32 : decode cX8_begin 32 = .ok (.putfield 30, 3) := by decide +kernel
theorem dX8_begin_35 : decode cX8_begin 35 = .ok (.aload_n 0, 1) := by decide +kernel
theorem dX8_begin_36 : decode cX8_begin 36 = .ok (.iconst 0, 1) := by decide +kernel
theorem dX8_begin_37 : decode cX8_begin 37 = .ok (.putfield 33, 3) := by decide +kernel
theorem dX8_begin_40 : decode cX8_begin 40 = .ok (.return_, 1) := by decide +kernel
theorem dX8_take_0 : decode cX8_take 0 = .ok (.aload_n 0, 1) := by decide +kernel
theorem dX8_take_1 : decode cX8_take 1 = .ok (.iload_n 1, 1) := by decide +kernel
theorem dX8_take_2 : decode cX8_take 2 = .ok (.putfield 37, 3) := by decide +kernel
theorem dX8_take_5 : decode cX8_take 5 = .ok (.aload_n 0, 1) := by decide +kernel
theorem dX8_take_6 : decode cX8_take 6 = .ok (.iload_n 2, 1) := by decide +kernel
theorem dX8_take_7 : decode cX8_take 7 = .ok (.putfield 40, 3) := by decide +kernel
theorem dX8_take_10 : decode cX8_take 10 = .ok (.aload_n 0, 1) := by decide +kernel
theorem dX8_take_11 : decode cX8_take 11 = .ok (.iload_n 3, 1) := by decide +kernel
theorem dX8_take_12 : decode cX8_take 12 = .ok (.putfield 43, 3) := by decide +kernel
theorem dX8_take_15 : decode cX8_take 15 = .ok (.aload_n 0, 1) := by decide +kernel
theorem dX8_take_16 : decode cX8_take 16 = .ok (.iload 4, 2) := by decide +kernel
theorem dX8_take_18 : decode cX8_take 18 = .ok (.putfield 46, 3) := by decide +kernel
theorem dX8_take_21 : decode cX8_take 21 = .ok (.return_, 1) := by decide +kernel
theorem dX8_end_0 : decode cX8_end 0 = .ok (.aload_n 0, 1) := by decide +kernel
theorem dX8_end_1 : decode cX8_end 1 = .ok (.iload_n 1, 1) := by decide +kernel
theorem dX8_end_2 : decode cX8_end 2 = .ok (.putfield 15, 3) := by decide +kernel
theorem dX8_end_5 : decode cX8_end 5 = .ok (.aload_n 0, 1) := by decide +kernel
theorem dX8_end_6 : decode cX8_end 6 = .ok (.iload_n 2, 1) := by decide +kernel
theorem dX8_end_7 : decode cX8_end 7 = .ok (.putfield 18, 3) := by decide +kernel
theorem dX8_end_10 : decode cX8_end 10 = .ok (.aload_n 0, 1) := by decide +kernel
theorem dX8_end_11 : decode cX8_end 11 = .ok (.iload_n 3, 1) := by decide +kernel
theorem dX8_end_12 : decode cX8_end 12 = .ok (.aload_n 0, 1) := by decide +kernel
theorem dX8_end_13 : decode cX8_end 13 = .ok (.getfield 21, 3) := by decide +kernel
theorem dX8_end_16 : decode cX8_end 16 = .ok (.isub, 1) := by decide +kernel
theorem dX8_end_17 : decode cX8_end 17 = .ok (.putfield 24, 3) := by decide +kernel
theorem dX8_end_20 : decode cX8_end 20 = .ok (.aload_n 0, 1) := by decide +kernel
theorem dX8_end_21 : decode cX8_end 21 = .ok (.iconst 0, 1) := by decide +kernel
theorem dX8_end_22 : decode cX8_end 22 = .ok (.putfield 33, 3) := by decide +kernel
theorem dX8_end_25 : decode cX8_end 25 = .ok (.return_, 1) := by decide +kernel
theorem dX9_init_0 : decode cX9_init 0 = .ok (.aload_n 0, 1) := by decide +kernel
theorem dX9_init_1 : decode cX9_init 1 = .ok (.invokespecial 3, 3) := by decide +kernel
theorem dX9_init_4 : decode cX9_init 4 = .ok (.aload_n 0, 1) := by decide +kernel
theorem dX9_init_5 : decode cX9_init 5 = .ok (.bipush 32, 2) := by decide +kernel
theorem dX9_init_7 : decode cX9_init 7 = .ok (.newarray .int, 2) := by decide +kernel
theorem dX9_init_9 : decode cX9_init 9 = .ok (.putfield 11, 3) := by decide +kernel
theorem dX9_init_12 : decode cX9_init 12 = .ok (.aload_n 0, 1) := by decide +kernel
theorem dX9_init_13 : decode cX9_init 13 = .ok (.bipush 32, 2) := by decide +kernel
theorem dX9_init_15 : decode cX9_init 15 = .ok (.newarray .boolean, 2) := by decide +kernel
theorem dX9_init_17 : decode cX9_init 17 = .ok (.putfield 15, 3) := by decide +kernel
theorem dX9_init_20 : decode cX9_init 20 = .ok (.aload_n 0, 1) := by decide +kernel
theorem dX9_init_21 : decode cX9_init 21 = .ok (.sipush 512, 3) := by decide +kernel
theorem dX9_init_24 : decode cX9_init 24 = .ok (.newarray .int, 2) := by decide +kernel
theorem dX9_init_26 : decode cX9_init 26 = .ok (.putfield 19, 3) := by decide +kernel
theorem dX9_init_29 : decode cX9_init 29 = .ok (.aload_n 0, 1) := by decide +kernel
theorem dX9_init_30 : decode cX9_init 30 = .ok (.sipush 640, 3) := by decide +kernel
theorem dX9_init_33 : decode cX9_init 33 = .ok (.newarray .boolean, 2) := by decide +kernel
theorem dX9_init_35 : decode cX9_init 35 = .ok (.putfield 22, 3) := by decide +kernel
theorem dX9_init_38 : decode cX9_init 38 = .ok (.aload_n 0, 1) := by decide +kernel
theorem dX9_init_39 : decode cX9_init 39 = .ok (.bipush 32, 2) := by decide +kernel
theorem dX9_init_41 : decode cX9_init 41 = .ok (.newarray .int, 2) := by decide +kernel
theorem dX9_init_43 : decode cX9_init 43 = .ok (.putfield 25, 3) := by decide +kernel
theorem dX9_init_46 : decode cX9_init 46 = .ok (.aload_n 0, 1) := by decide +kernel
theorem dX9_init_47 : decode cX9_init 47 = .ok (.aload_n 1, 1) := by decide +kernel
theorem dX9_init_48 : decode cX9_init 48 = .ok (.putfield 28, 3) := by decide +kernel
theorem dX9_init_51 : decode cX9_init 51 = .ok (.aload_n 0, 1) := by decide +kernel
theorem dX9_init_52 : decode cX9_init 52 = .ok (.aload_n 2, 1) := by decide +kernel
theorem dX9_init_53 : decode cX9_init 53 = .ok (.putfield 31, 3) := by decide +kernel
theorem dX9_init_56 : decode cX9_init 56 = .ok (.return_, 1) := by decide +kernel
theorem dX9_run_0 : decode cX9_run 0 = .ok (.aload_n 1, 1) := by decide +kernel
theorem dX9_run_1 : decode cX9_run 1 = .ok (.getfield 35, 3) := by decide +kernel
theorem dX9_run_4 : decode cX9_run 4 = .ok (.astore_n 2, 1) := by decide +kernel
theorem dX9_run_5 : decode cX9_run 5 = .ok (.aload_n 0, 1) := by decide +kernel
theorem dX9_run_6 : decode cX9_run 6 = .ok (.aload_n 1, 1) := by decide +kernel
theorem dX9_run_7 : decode cX9_run 7 = .ok (.putfield 31, 3) := by decide +kernel
theorem dX9_run_10 : decode cX9_run 10 = .ok (.aload_n 0, 1) := by decide +kernel
theorem dX9_run_11 : decode cX9_run 11 = .ok (.iconst 0, 1) := by decide +kernel
theorem dX9_run_12 : decode cX9_run 12 = .ok (.putfield 41, 3) := by decide +kernel
theorem dX9_run_15 : decode cX9_run 15 = .ok (.aload_n 0, 1) := by decide +kernel
theorem dX9_run_16 : decode cX9_run 16 = .ok (.iconst 0, 1) := by decide +kernel
theorem dX9_run_17 : decode cX9_run 17 = .ok (.putfield 45, 3) := by decide +kernel
theorem dX9_run_20 : decode cX9_run 20 = .ok (.aload_n 0, 1) := by decide +kernel
theorem dX9_run_21 : decode cX9_run 21 = .ok (.iconst (-1), 1) := by decide +kernel
theorem dX9_run_22 : decode cX9_run 22 = .ok (.putfield 48, 3) := by decide +kernel
theorem dX9_run_25 : decode cX9_run 25 = .ok (.aload_n 0, 1) := by decide +kernel
theorem dX9_run_26 : decode cX9_run 26 = .ok (.iconst (-1), 1) := by decide +kernel
theorem dX9_run_27 : decode cX9_run 27 = .ok (.putfield 51, 3) := by decide +kernel
theorem dX9_run_30 : decode cX9_run 30 = .ok (.aload_n 2, 1) := by decide +kernel
theorem dX9_run_31 : decode cX9_run 31 = .ok (.getfield 54, 3) := by decide +kernel
theorem dX9_run_34 : decode cX9_run 34 = .ok (.tableswitch 169 0 14 #[74, 82, 90, 98, 106, 114, 122, 130, 138, 146, 169, 122, 122, 154, 162], 74) := by decide +kernel
theorem dX9_run_108 : decode cX9_run 108 = .ok (.aload_n 0, 1) := by decide +kernel
theorem dX9_run_109 : decode cX9_run 109 = .ok (.aload_n 2, 1) := by decide +kernel
theorem dX9_run_110 : decode cX9_run 110 = .ok (.invokevirtual 59, 3) := by decide +kernel
theorem dX9_run_113 : decode cX9_run 113 = .ok (.goto 90, 3) := by decide +kernel
theorem dX9_run_116 : decode cX9_run 116 = .ok (.aload_n 0, 1) := by decide +kernel
theorem dX9_run_117 : decode cX9_run 117 = .ok (.aload_n 2, 1) := by decide +kernel
theorem dX9_run_118 : decode cX9_run 118 = .ok (.invokevirtual 63, 3) := by decide +kernel
theorem dX9_run_121 : decode cX9_run 121 = .ok (.goto 82, 3) := by decide +kernel
theorem dX9_run_124 : decode cX9_run 124 = .ok (.aload_n 0, 1) := by decide +kernel
theorem dX9_run_125 : decode cX9_run 125 = .ok (.aload_n 2, 1) := by decide +kernel
theorem dX9_run_126 : decode cX9_run 126 = .ok (.invokevirtual 66, 3) := by decide +kernel
theorem dX9_run_129 : decode cX9_run 129 = .ok (.goto 74, 3) := by decide +kernel
theorem dX9_run_132 : decode cX9_run 132 = .ok (.aload_n 0, 1) := by decide +kernel
theorem dX9_run_133 : decode cX9_run 133 = .ok (.aload_n 2, 1) := by decide +kernel
theorem dX9_run_134 : decode cX9_run 134 = .ok (.invokevirtual 69, 3) := by decide +kernel
theorem dX9_run_137 : decode cX9_run 137 = .ok (.goto 66, 3) := by decide +kernel
theorem dX9_run_140 : decode cX9_run 140 = .ok (.aload_n 0, 1) := by decide +kernel
theorem dX9_run_141 : decode cX9_run 141 = .ok (.aload_n 2, 1) := by decide +kernel
theorem dX9_run_142 : decode cX9_run 142 = .ok (.invokevirtual 72, 3) := by decide +kernel
theorem dX9_run_145 : decode cX9_run 145 = .ok (.goto 58, 3) := by decide +kernel
theorem dX9_run_148 : decode cX9_run 148 = .ok (.aload_n 0, 1) := by decide +kernel
theorem dX9_run_149 : decode cX9_run 149 = .ok (.aload_n 2, 1) := by decide +kernel
theorem dX9_run_150 : decode cX9_run 150 = .ok (.invokevirtual 75, 3) := by decide +kernel
theorem dX9_run_153 : decode cX9_run 153 = .ok (.goto 50, 3) := by decide +kernel
theorem dX9_run_156 : decode cX9_run 156 = .ok (.aload_n 0, 1) := by decide +kernel
theorem dX9_run_157 : decode cX9_run 157 = .ok (.aload_n 2, 1) := by decide +kernel
theorem dX9_run_158 : decode cX9_run 158 = .ok (.invokevirtual 78, 3) := by decide +kernel
theorem dX9_run_161 : decode cX9_run 161 = .ok (.goto 42, 3) := by decide +kernel
theorem dX9_run_164 : decode cX9_run 164 = .ok (.aload_n 0, 1) := by decide +kernel
theorem dX9_run_165 : decode cX9_run 165 = .ok (.aload_n 2, 1) := by decide +kernel
theorem dX9_run_166 : decode cX9_run 166 = .ok (.invokevirtual 81, 3) := by decide +kernel
theorem dX9_run_169 : decode cX9_run 169 = .ok (.goto 34, 3) := by decide +kernel
theorem dX9_run_172 : decode cX9_run 172 = .ok (.aload_n 0, 1) := by decide +kernel
theorem dX9_run_173 : decode cX9_run 173 = .ok (.aload_n 2, 1) := by decide +kernel
theorem dX9_run_174 : decode cX9_run 174 = .ok (.invokevirtual 84, 3) := by decide +kernel
theorem dX9_run_177 : decode cX9_run 177 = .ok (.goto 26, 3) := by decide +kernel
theorem dX9_run_180 : decode cX9_run 180 = .ok (.aload_n 0, 1) := by decide +kernel
theorem dX9_run_181 : decode cX9_run 181 = .ok (.aload_n 2, 1) := by decide +kernel
theorem dX9_run_182 : decode cX9_run 182 = .ok (.invokevirtual 87, 3) := by decide +kernel
theorem dX9_run_185 : decode cX9_run 185 = .ok (.goto 18, 3) := by decide +kernel
theorem dX9_run_188 : decode cX9_run 188 = .ok (.aload_n 0, 1) := by decide +kernel
theorem dX9_run_189 : decode cX9_run 189 = .ok (.aload_n 2, 1) := by decide +kernel
theorem dX9_run_190 : decode cX9_run 190 = .ok (.invokevirtual 90, 3) := by decide +kernel
theorem dX9_run_193 : decode cX9_run 193 = .ok (.goto 10, 3) := by decide +kernel
theorem dX9_run_196 : decode cX9_run 196 = .ok (.aload_n 0, 1) := by decide +kernel
theorem dX9_run_197 : decode cX9_run 197 = .ok (.invokevirtual 93, 3) := by decide +kernel
theorem dX9_run_200 : decode cX9_run 200 = .ok (.goto 3, 3) := by decide +kernel
theorem dX9_run_203 : decode cX9_run 203 = .ok (.aload_n 0, 1) := by decide +kernel
theorem dX9_run_204 : decode cX9_run 204 = .ok (.getfield 41, 3) := by decide +kernel
theorem dX9_run_207 : decode cX9_run 207 = .ok (.ifCond .ne 21, 3) := by decide +kernel
theorem dX9_run_210 : decode cX9_run 210 = .ok (.aload_n 0, 1) := by decide +kernel
theorem dX9_run_211 : decode cX9_run 211 = .ok (.getfield 51, 3) := by decide +kernel
theorem dX9_run_214 : decode cX9_run 214 = .ok (.invokestatic 96, 3) := by decide +kernel
theorem dX9_run_217 : decode cX9_run 217 = .ok (.ifCond .eq 11, 3) := by decide +kernel
theorem dX9_run_220 : decode cX9_run 220 = .ok (.aload_n 0, 1) := by decide +kernel
theorem dX9_run_221 : decode cX9_run 221 = .ok (.aload_n 0, 1) := by decide +kernel
theorem dX9_run_222 : decode cX9_run 222 = .ok (.getfield 51, 3) := by decide +kernel
theorem dX9_run_225 : decode cX9_run 225 = .ok (.invokevirtual 100, 3) := by decide +kernel
theorem dX9_run_228 : decode cX9_run 228 = .ok (.aload_n 0, 1) := by decide +kernel
theorem dX9_run_229 : decode cX9_run 229 = .ok (.getfield 41, 3) := by decide +kernel
theorem dX9_run_232 : decode cX9_run 232 = .ok (.ifCond .ne 17, 3) := by decide +kernel
theorem dX9_run_235 : decode cX9_run 235 = .ok (.aload_n 0, 1) := by decide +kernel
theorem dX9_run_236 : decode cX9_run 236 = .ok (.getfield 48, 3) := by decide +kernel
theorem dX9_run_239 : decode cX9_run 239 = .ok (.invokestatic 96, 3) := by decide +kernel
theorem dX9_run_242 : decode cX9_run 242 = .ok (.ifCond .eq 7, 3) := by decide +kernel
theorem dX9_run_245 : decode cX9_run 245 = .ok (.aload_n 0, 1) := by decide +kernel
theorem dX9_run_246 : decode cX9_run 246 = .ok (.invokevirtual 104, 3) := by decide +kernel
theorem dX9_run_249 : decode cX9_run 249 = .ok (.aload_n 0, 1) := by decide +kernel
theorem dX9_run_250 : decode cX9_run 250 = .ok (.getfield 41, 3) := by decide +kernel
theorem dX9_run_253 : decode cX9_run 253 = .ok (.ifCond .ne 8, 3) := by decide +kernel
theorem dX9_run_256 : decode cX9_run 256 = .ok (.aload_n 0, 1) := by decide +kernel
theorem dX9_run_257 : decode cX9_run 257 = .ok (.iconst 1, 1) := by decide +kernel
theorem dX9_run_258 : decode cX9_run 258 = .ok (.putfield 41, 3) := by decide +kernel
theorem dX9_run_261 : decode cX9_run 261 = .ok (.return_, 1) := by decide +kernel
theorem dX9_finish_0 : decode cX9_finish 0 = .ok (.aload_n 0, 1) := by decide +kernel
theorem dX9_finish_1 : decode cX9_finish 1 = .ok (.iconst 1, 1) := by decide +kernel
theorem dX9_finish_2 : decode cX9_finish 2 = .ok (.putfield 41, 3) := by decide +kernel
theorem dX9_finish_5 : decode cX9_finish 5 = .ok (.aload_n 0, 1) := by decide +kernel
theorem dX9_finish_6 : decode cX9_finish 6 = .ok (.iload_n 1, 1) := by decide +kernel
theorem dX9_finish_7 : decode cX9_finish 7 = .ok (.putfield 45, 3) := by decide +kernel
theorem dX9_finish_10 : decode cX9_finish 10 = .ok (.return_, 1) := by decide +kernel
theorem dX9_fail_0 : decode cX9_fail 0 = .ok (.aload_n 0, 1) := by decide +kernel
theorem dX9_fail_1 : decode cX9_fail 1 = .ok (.iconst 2, 1) := by decide +kernel
theorem dX9_fail_2 : decode cX9_fail 2 = .ok (.putfield 41, 3) := by decide +kernel
theorem dX9_fail_5 : decode cX9_fail 5 = .ok (.aload_n 0, 1) := by decide +kernel
theorem dX9_fail_6 : decode cX9_fail 6 = .ok (.iload_n 1, 1) := by decide +kernel
theorem dX9_fail_7 : decode cX9_fail 7 = .ok (.putfield 45, 3) := by decide +kernel
theorem dX9_fail_10 : decode cX9_fail 10 = .ok (.iconst 0, 1) := by decide +kernel
theorem dX9_fail_11 : decode cX9_fail 11 = .ok (.ireturn, 1) := by decide +kernel
theorem dX9_undo_0 : decode cX9_undo 0 = .ok (.aload_n 0, 1) := by decide +kernel
theorem dX9_undo_1 : decode cX9_undo 1 = .ok (.getfield 31, 3) := by decide +kernel
theorem dX9_undo_4 : decode cX9_undo 4 = .ok (.getfield 107, 3) := by decide +kernel
theorem dX9_undo_7 : decode cX9_undo 7 = .ok (.astore_n 1, 1) := by decide +kernel
theorem dX9_undo_8 : decode cX9_undo 8 = .ok (.aload_n 0, 1) := by decide +kernel
theorem dX9_undo_9 : decode cX9_undo 9 = .ok (.getfield 111, 3) := by decide +kernel
theorem dX9_undo_12 : decode cX9_undo 12 = .ok (.iconst 1, 1) := by decide +kernel
theorem dX9_undo_13 : decode cX9_undo 13 = .ok (.isub, 1) := by decide +kernel
theorem dX9_undo_14 : decode cX9_undo 14 = .ok (.istore_n 2, 1) := by decide +kernel
theorem dX9_undo_15 : decode cX9_undo 15 = .ok (.iload_n 2, 1) := by decide +kernel
theorem dX9_undo_16 : decode cX9_undo 16 = .ok (.ifCond .lt 51, 3) := by decide +kernel
theorem dX9_undo_19 : decode cX9_undo 19 = .ok (.aload_n 0, 1) := by decide +kernel
theorem dX9_undo_20 : decode cX9_undo 20 = .ok (.getfield 11, 3) := by decide +kernel
theorem dX9_undo_23 : decode cX9_undo 23 = .ok (.iload_n 2, 1) := by decide +kernel
theorem dX9_undo_24 : decode cX9_undo 24 = .ok (.iaload, 1) := by decide +kernel
theorem dX9_undo_25 : decode cX9_undo 25 = .ok (.istore_n 3, 1) := by decide +kernel
theorem dX9_undo_26 : decode cX9_undo 26 = .ok (.aload_n 0, 1) := by decide +kernel
theorem dX9_undo_27 : decode cX9_undo 27 = .ok (.getfield 19, 3) := by decide +kernel
theorem dX9_undo_30 : decode cX9_undo 30 = .ok (.iload_n 2, 1) := by decide +kernel
theorem dX9_undo_31 : decode cX9_undo 31 = .ok (.bipush 16, 2) := by decide +kernel
theorem dX9_undo_33 : decode cX9_undo 33 = .ok (.imul, 1) := by decide +kernel
theorem dX9_undo_34 : decode cX9_undo 34 = .ok (.aload_n 1, 1) := by decide +kernel
theorem dX9_undo_35 : decode cX9_undo 35 = .ok (.getfield 114, 3) := by decide +kernel
theorem dX9_undo_38 : decode cX9_undo 38 = .ok (.iload_n 3, 1) := by decide +kernel
theorem dX9_undo_39 : decode cX9_undo 39 = .ok (.bipush 16, 2) := by decide +kernel
theorem dX9_undo_41 : decode cX9_undo 41 = .ok (.imul, 1) := by decide +kernel
theorem dX9_undo_42 : decode cX9_undo 42 = .ok (.bipush 16, 2) := by decide +kernel
theorem dX9_undo_44 : decode cX9_undo 44 = .ok (.invokestatic 119, 3) := by decide +kernel
theorem dX9_undo_47 : decode cX9_undo 47 = .ok (.aload_n 0, 1) := by decide +kernel
theorem dX9_undo_48 : decode cX9_undo 48 = .ok (.getfield 15, 3) := by decide +kernel
theorem dX9_undo_51 : decode cX9_undo 51 = .ok (.iload_n 2, 1) := by decide +kernel
theorem dX9_undo_52 : decode cX9_undo 52 = .ok (.baload, 1) := by decide +kernel
theorem dX9_undo_53 : decode cX9_undo 53 = .ok (.ifCond .ne 8, 3) := by decide +kernel
theorem dX9_undo_56 : decode cX9_undo 56 = .ok (.aload_n 1, 1) := by decide +kernel
theorem dX9_undo_57 : decode cX9_undo 57 = .ok (.iload_n 3, 1) := by decide +kernel
theorem dX9_undo_58 : decode cX9_undo 58 = .ok (.invokevirtual 125, 3) := by decide +kernel
theorem dX9_undo_61 : decode cX9_undo 61 = .ok (.iinc 2 (-1), 3) := by decide +kernel
theorem dX9_undo_64 : decode cX9_undo 64 = .ok (.goto (-49), 3) := by decide +kernel
theorem dX9_undo_67 : decode cX9_undo 67 = .ok (.aload_n 0, 1) := by decide +kernel
theorem dX9_undo_68 : decode cX9_undo 68 = .ok (.invokevirtual 128, 3) := by decide +kernel
theorem dX9_undo_71 : decode cX9_undo 71 = .ok (.return_, 1) := by decide +kernel
theorem dX9_settle_0 : decode cX9_settle 0 = .ok (.iconst 0, 1) := by decide +kernel
theorem dX9_settle_1 : decode cX9_settle 1 = .ok (.istore_n 1, 1) := by decide +kernel
theorem dX9_settle_2 : decode cX9_settle 2 = .ok (.iload_n 1, 1) := by decide +kernel
theorem dX9_settle_3 : decode cX9_settle 3 = .ok (.aload_n 0, 1) := by decide +kernel
theorem dX9_settle_4 : decode cX9_settle 4 = .ok (.getfield 131, 3) := by decide +kernel
theorem dX9_settle_7 : decode cX9_settle 7 = .ok (.if_icmp .ge 41, 3) := by decide +kernel
theorem dX9_settle_10 : decode cX9_settle 10 = .ok (.aload_n 0, 1) := by decide +kernel
theorem dX9_settle_11 : decode cX9_settle 11 = .ok (.getfield 31, 3) := by decide +kernel
theorem dX9_settle_14 : decode cX9_settle 14 = .ok (.getfield 134, 3) := by decide +kernel
theorem dX9_settle_17 : decode cX9_settle 17 = .ok (.aload_n 0, 1) := by decide +kernel
theorem dX9_settle_18 : decode cX9_settle 18 = .ok (.getfield 25, 3) := by decide +kernel
theorem dX9_settle_21 : decode cX9_settle 21 = .ok (.iload_n 1, 1) := by decide +kernel
theorem dX9_settle_22 : decode cX9_settle 22 = .ok (.iaload, 1) := by decide +kernel
theorem dX9_settle_23 : decode cX9_settle 23 = .ok (.invokevirtual 138, 3) := by decide +kernel
theorem dX9_settle_26 : decode cX9_settle 26 = .ok (.aload_n 0, 1) := by decide +kernel
theorem dX9_settle_27 : decode cX9_settle 27 = .ok (.getfield 31, 3) := by decide +kernel
theorem dX9_settle_30 : decode cX9_settle 30 = .ok (.getfield 107, 3) := by decide +kernel
theorem dX9_settle_33 : decode cX9_settle 33 = .ok (.aload_n 0, 1) := by decide +kernel
theorem dX9_settle_34 : decode cX9_settle 34 = .ok (.getfield 25, 3) := by decide +kernel
theorem dX9_settle_37 : decode cX9_settle 37 = .ok (.iload_n 1, 1) := by decide +kernel
theorem dX9_settle_38 : decode cX9_settle 38 = .ok (.iaload, 1) := by decide +kernel
theorem dX9_settle_39 : decode cX9_settle 39 = .ok (.invokevirtual 125, 3) := by decide +kernel
theorem dX9_settle_42 : decode cX9_settle 42 = .ok (.iinc 1 1, 3) := by decide +kernel
theorem dX9_settle_45 : decode cX9_settle 45 = .ok (.goto (-43), 3) := by decide +kernel
theorem dX9_settle_48 : decode cX9_settle 48 = .ok (.iconst 0, 1) := by decide +kernel
theorem dX9_settle_49 : decode cX9_settle 49 = .ok (.istore_n 1, 1) := by decide +kernel
theorem dX9_settle_50 : decode cX9_settle 50 = .ok (.iload_n 1, 1) := by decide +kernel
theorem dX9_settle_51 : decode cX9_settle 51 = .ok (.aload_n 0, 1) := by decide +kernel
theorem dX9_settle_52 : decode cX9_settle 52 = .ok (.getfield 111, 3) := by decide +kernel
theorem dX9_settle_55 : decode cX9_settle 55 = .ok (.if_icmp .ge 38, 3) := by decide +kernel
theorem dX9_settle_58 : decode cX9_settle 58 = .ok (.aload_n 0, 1) := by decide +kernel
theorem dX9_settle_59 : decode cX9_settle 59 = .ok (.aload_n 0, 1) := by decide +kernel
theorem dX9_settle_60 : decode cX9_settle 60 = .ok (.getfield 11, 3) := by decide +kernel
theorem dX9_settle_63 : decode cX9_settle 63 = .ok (.iload_n 1, 1) := by decide +kernel
theorem dX9_settle_64 : decode cX9_settle 64 = .ok (.iaload, 1) := by decide +kernel
theorem dX9_settle_65 : decode cX9_settle 65 = .ok (.invokevirtual 142, 3) := by decide +kernel
theorem dX9_settle_68 : decode cX9_settle 68 = .ok (.ifCond .ne 19, 3) := by decide +kernel
theorem dX9_settle_71 : decode cX9_settle 71 = .ok (.aload_n 0, 1) := by decide +kernel
theorem dX9_settle_72 : decode cX9_settle 72 = .ok (.getfield 31, 3) := by decide +kernel
theorem dX9_settle_75 : decode cX9_settle 75 = .ok (.getfield 134, 3) := by decide +kernel
theorem dX9_settle_78 : decode cX9_settle 78 = .ok (.aload_n 0, 1) := by decide +kernel
theorem dX9_settle_79 : decode cX9_settle 79 = .ok (.getfield 11, 3) := by decide +kernel
theorem dX9_settle_82 : decode cX9_settle 82 = .ok (.iload_n 1, 1) := by decide +kernel
theorem dX9_settle_83 : decode cX9_settle 83 = .ok (.iaload, 1) := by decide +kernel
theorem dX9_settle_84 : decode cX9_settle 84 = .ok (.invokevirtual 145, 3) := by decide +kernel
theorem dX9_settle_87 : decode cX9_settle 87 = .ok (.iinc 1 1, 3) := by decide +kernel
theorem dX9_settle_90 : decode cX9_settle 90 = .ok (.goto (-40), 3) := by decide +kernel
theorem dX9_settle_93 : decode cX9_settle 93 = .ok (.aload_n 0, 1) := by decide +kernel
theorem dX9_settle_94 : decode cX9_settle 94 = .ok (.invokevirtual 128, 3) := by decide +kernel
theorem dX9_settle_97 : decode cX9_settle 97 = .ok (.return_, 1) := by decide +kernel
theorem dX9_forget_0 : decode cX9_forget 0 = .ok (.iconst 0, 1) := by decide +kernel
theorem dX9_forget_1 : decode cX9_forget 1 = .ok (.istore_n 1, 1) := by decide +kernel
theorem dX9_forget_2 : decode cX9_forget 2 = .ok (.iload_n 1, 1) := by decide +kernel
theorem dX9_forget_3 : decode cX9_forget 3 = .ok (.aload_n 0, 1) := by decide +kernel
theorem dX9_forget_4 : decode cX9_forget 4 = .ok (.getfield 111, 3) := by decide +kernel
theorem dX9_forget_7 : decode cX9_forget 7 = .ok (.if_icmp .ge 21, 3) := by decide +kernel
theorem dX9_forget_10 : decode cX9_forget 10 = .ok (.aload_n 0, 1) := by decide +kernel
theorem dX9_forget_11 : decode cX9_forget 11 = .ok (.getfield 22, 3) := by decide +kernel
theorem dX9_forget_14 : decode cX9_forget 14 = .ok (.aload_n 0, 1) := by decide +kernel
theorem dX9_forget_15 : decode cX9_forget 15 = .ok (.getfield 11, 3) := by decide +kernel
theorem dX9_forget_18 : decode cX9_forget 18 = .ok (.iload_n 1, 1) := by decide +kernel
theorem dX9_forget_19 : decode cX9_forget 19 = .ok (.iaload, 1) := by decide +kernel
theorem dX9_forget_20 : decode cX9_forget 20 = .ok (.iconst 0, 1) := by decide +kernel
theorem dX9_forget_21 : decode cX9_forget 21 = .ok (.bastore, 1) := by decide +kernel
theorem dX9_forget_22 : decode cX9_forget 22 = .ok (.iinc 1 1, 3) := by decide +kernel
theorem dX9_forget_25 : decode cX9_forget 25 = .ok (.goto (-23), 3) := by decide +kernel
theorem dX9_forget_28 : decode cX9_forget 28 = .ok (.aload_n 0, 1) := by decide +kernel
theorem dX9_forget_29 : decode cX9_forget 29 = .ok (.iconst 0, 1) := by decide +kernel
theorem dX9_forget_30 : decode cX9_forget 30 = .ok (.putfield 111, 3) := by decide +kernel
theorem dX9_forget_33 : decode cX9_forget 33 = .ok (.aload_n 0, 1) := by decide +kernel
theorem dX9_forget_34 : decode cX9_forget 34 = .ok (.iconst 0, 1) := by decide +kernel
theorem dX9_forget_35 : decode cX9_forget 35 = .ok (.putfield 131, 3) := by decide +kernel
theorem dX9_forget_38 : decode cX9_forget 38 = .ok (.return_, 1) := by decide +kernel
theorem dX9_isTooMuch_0 : decode cX9_isTooMuch 0 = .ok (.iconst 0, 1) := by decide +kernel
theorem dX9_isTooMuch_1 : decode cX9_isTooMuch 1 = .ok (.istore_n 1, 1) := by decide +kernel
theorem dX9_isTooMuch_2 : decode cX9_isTooMuch 2 = .ok (.iconst 0, 1) := by decide +kernel
theorem dX9_isTooMuch_3 : decode cX9_isTooMuch 3 = .ok (.istore_n 2, 1) := by decide +kernel
theorem dX9_isTooMuch_4 : decode cX9_isTooMuch 4 = .ok (.iload_n 2, 1) := by decide +kernel
theorem dX9_isTooMuch_5 : decode cX9_isTooMuch 5 = .ok (.aload_n 0, 1) := by decide +kernel
theorem dX9_isTooMuch_6 : decode cX9_isTooMuch 6 = .ok (.getfield 31, 3) := by decide +kernel
theorem dX9_isTooMuch_9 : decode cX9_isTooMuch 9 = .ok (.getfield 134, 3) := by decide +kernel
theorem dX9_isTooMuch_12 : decode cX9_isTooMuch 12 = .ok (.getfield 148, 3) := by decide +kernel
theorem dX9_isTooMuch_15 : decode cX9_isTooMuch 15 = .ok (.if_icmp .ge 31, 3) := by decide +kernel
theorem dX9_isTooMuch_18 : decode cX9_isTooMuch 18 = .ok (.aload_n 0, 1) := by decide +kernel
theorem dX9_isTooMuch_19 : decode cX9_isTooMuch 19 = .ok (.aload_n 0, 1) := by decide +kernel
theorem dX9_isTooMuch_20 : decode cX9_isTooMuch 20 = .ok (.getfield 31, 3) := by decide +kernel
theorem dX9_isTooMuch_23 : decode cX9_isTooMuch 23 = .ok (.getfield 134, 3) := by decide +kernel
theorem dX9_isTooMuch_26 : decode cX9_isTooMuch 26 = .ok (.getfield 151, 3) := by decide +kernel
theorem dX9_isTooMuch_29 : decode cX9_isTooMuch 29 = .ok (.iload_n 2, 1) := by decide +kernel
theorem dX9_isTooMuch_30 : decode cX9_isTooMuch 30 = .ok (.iaload, 1) := by decide +kernel
theorem dX9_isTooMuch_31 : decode cX9_isTooMuch 31 = .ok (.invokevirtual 142, 3) := by decide +kernel
theorem dX9_isTooMuch_34 : decode cX9_isTooMuch 34 = .ok (.ifCond .ne 6, 3) := by decide +kernel
theorem dX9_isTooMuch_37 : decode cX9_isTooMuch 37 = .ok (.iinc 1 1, 3) := by decide +kernel
theorem dX9_isTooMuch_40 : decode cX9_isTooMuch 40 = .ok (.iinc 2 1, 3) := by decide +kernel
theorem dX9_isTooMuch_43 : decode cX9_isTooMuch 43 = .ok (.goto (-39), 3) := by decide +kernel
theorem dX9_isTooMuch_46 : decode cX9_isTooMuch 46 = .ok (.iconst 0, 1) := by decide +kernel
theorem dX9_isTooMuch_47 : decode cX9_isTooMuch 47 = .ok (.istore_n 2, 1) := by decide +kernel
theorem dX9_isTooMuch_48 : decode cX9_isTooMuch 48 = .ok (.iload_n 2, 1) := by decide +kernel
theorem dX9_isTooMuch_49 : decode cX9_isTooMuch 49 = .ok (.aload_n 0, 1) := by decide +kernel
theorem dX9_isTooMuch_50 : decode cX9_isTooMuch 50 = .ok (.getfield 111, 3) := by decide +kernel
theorem dX9_isTooMuch_53 : decode cX9_isTooMuch 53 = .ok (.if_icmp .ge 44, 3) := by decide +kernel
theorem dX9_isTooMuch_56 : decode cX9_isTooMuch 56 = .ok (.aload_n 0, 1) := by decide +kernel
theorem dX9_isTooMuch_57 : decode cX9_isTooMuch 57 = .ok (.aload_n 0, 1) := by decide +kernel
theorem dX9_isTooMuch_58 : decode cX9_isTooMuch 58 = .ok (.getfield 11, 3) := by decide +kernel
theorem dX9_isTooMuch_61 : decode cX9_isTooMuch 61 = .ok (.iload_n 2, 1) := by decide +kernel
theorem dX9_isTooMuch_62 : decode cX9_isTooMuch 62 = .ok (.iaload, 1) := by decide +kernel
theorem dX9_isTooMuch_63 : decode cX9_isTooMuch 63 = .ok (.invokevirtual 142, 3) := by decide +kernel
theorem dX9_isTooMuch_66 : decode cX9_isTooMuch 66 = .ok (.ifCond .ne 25, 3) := by decide +kernel
theorem dX9_isTooMuch_69 : decode cX9_isTooMuch 69 = .ok (.aload_n 0, 1) := by decide +kernel
theorem dX9_isTooMuch_70 : decode cX9_isTooMuch 70 = .ok (.getfield 31, 3) := by decide +kernel
theorem dX9_isTooMuch_73 : decode cX9_isTooMuch 73 = .ok (.getfield 134, 3) := by decide +kernel
theorem dX9_isTooMuch_76 : decode cX9_isTooMuch 76 = .ok (.aload_n 0, 1) := by decide +kernel
theorem dX9_isTooMuch_77 : decode cX9_isTooMuch 77 = .ok (.getfield 11, 3) := by decide +kernel
theorem dX9_isTooMuch_80 : decode cX9_isTooMuch 80 = .ok (.iload_n 2, 1) := by decide +kernel
theorem dX9_isTooMuch_81 : decode cX9_isTooMuch 81 = .ok (.iaload, 1) := by decide +kernel
theorem dX9_isTooMuch_82 : decode cX9_isTooMuch 82 = .ok (.invokevirtual 154, 3) := by decide +kernel
theorem dX9_isTooMuch_85 : decode cX9_isTooMuch 85 = .ok (.ifCond .ne 6, 3) := by decide +kernel
theorem dX9_isTooMuch_88 : decode cX9_isTooMuch 88 = .ok (.iinc 1 1, 3) := by decide +kernel
theorem dX9_isTooMuch_91 : decode cX9_isTooMuch 91 = .ok (.iinc 2 1, 3) := by decide +kernel
theorem dX9_isTooMuch_94 : decode cX9_isTooMuch 94 = .ok (.goto (-46), 3) := by decide +kernel
theorem dX9_isTooMuch_97 : decode cX9_isTooMuch 97 = .ok (.iload_n 1, 1) := by decide +kernel
theorem dX9_isTooMuch_98 : decode cX9_isTooMuch 98 = .ok (.bipush 16, 2) := by decide +kernel
theorem dX9_isTooMuch_100 : decode cX9_isTooMuch 100 = .ok (.if_icmp .le 7, 3) := by decide +kernel
theorem dX9_isTooMuch_103 : decode cX9_isTooMuch 103 = .ok (.iconst 1, 1) := by decide +kernel
theorem dX9_isTooMuch_104 : decode cX9_isTooMuch 104 = .ok (.goto 4, 3) := by decide +kernel
theorem dX9_isTooMuch_107 : decode cX9_isTooMuch 107 = .ok (.iconst 0, 1) := by decide +kernel
theorem dX9_isTooMuch_108 : decode cX9_isTooMuch 108 = .ok (.ireturn, 1) := by decide +kernel
theorem dX9_isGiven_0 : decode cX9_isGiven 0 = .ok (.iconst 0, 1) := by decide +kernel
theorem dX9_isGiven_1 : decode cX9_isGiven 1 = .ok (.istore_n 2, 1) := by decide +kernel
theorem dX9_isGiven_2 : decode cX9_isGiven 2 = .ok (.iload_n 2, 1) := by decide +kernel
theorem dX9_isGiven_3 : decode cX9_isGiven 3 = .ok (.aload_n 0, 1) := by decide +kernel
theorem dX9_isGiven_4 : decode cX9_isGiven 4 = .ok (.getfield 131, 3) := by decide +kernel
theorem dX9_isGiven_7 : decode cX9_isGiven 7 = .ok (.if_icmp .ge 21, 3) := by decide +kernel
theorem dX9_isGiven_10 : decode cX9_isGiven 10 = .ok (.aload_n 0, 1) := by decide +kernel
theorem dX9_isGiven_11 : decode cX9_isGiven 11 = .ok (.getfield 25, 3) := by decide +kernel
theorem dX9_isGiven_14 : decode cX9_isGiven 14 = .ok (.iload_n 2, 1) := by decide +kernel
theorem dX9_isGiven_15 : decode cX9_isGiven 15 = .ok (.iaload, 1) := by decide +kernel
theorem dX9_isGiven_16 : decode cX9_isGiven 16 = .ok (.iload_n 1, 1) := by decide +kernel
theorem dX9_isGiven_17 : decode cX9_isGiven 17 = .ok (.if_icmp .ne 5, 3) := by decide +kernel
theorem dX9_isGiven_20 : decode cX9_isGiven 20 = .ok (.iconst 1, 1) := by decide +kernel
theorem dX9_isGiven_21 : decode cX9_isGiven 21 = .ok (.ireturn, 1) := by decide +kernel
theorem dX9_isGiven_22 : decode cX9_isGiven 22 = .ok (.iinc 2 1, 3) := by decide +kernel
theorem dX9_isGiven_25 : decode cX9_isGiven 25 = .ok (.goto (-23), 3) := by decide +kernel
theorem dX9_isGiven_28 : decode cX9_isGiven 28 = .ok (.iconst 0, 1) := by decide +kernel
theorem dX9_isGiven_29 : decode cX9_isGiven 29 = .ok (.ireturn, 1) := by decide +kernel
theorem dX9_meet_0 : decode cX9_meet 0 = .ok (.aload_n 0, 1) := by decide +kernel
theorem dX9_meet_1 : decode cX9_meet 1 = .ok (.getfield 31, 3) := by decide +kernel
theorem dX9_meet_4 : decode cX9_meet 4 = .ok (.getfield 157, 3) := by decide +kernel
theorem dX9_meet_7 : decode cX9_meet 7 = .ok (.getfield 161, 3) := by decide +kernel
theorem dX9_meet_10 : decode cX9_meet 10 = .ok (.iload_n 1, 1) := by decide +kernel
theorem dX9_meet_11 : decode cX9_meet 11 = .ok (.baload, 1) := by decide +kernel
theorem dX9_meet_12 : decode cX9_meet 12 = .ok (.ifCond .eq 21, 3) := by decide +kernel
theorem dX9_meet_15 : decode cX9_meet 15 = .ok (.aload_n 0, 1) := by decide +kernel
theorem dX9_meet_16 : decode cX9_meet 16 = .ok (.getfield 31, 3) := by decide +kernel
theorem dX9_meet_19 : decode cX9_meet 19 = .ok (.getfield 157, 3) := by decide +kernel
theorem dX9_meet_22 : decode cX9_meet 22 = .ok (.getfield 166, 3) := by decide +kernel
theorem dX9_meet_25 : decode cX9_meet 25 = .ok (.iload_n 1, 1) := by decide +kernel
theorem dX9_meet_26 : decode cX9_meet 26 = .ok (.iaload, 1) := by decide +kernel
theorem dX9_meet_27 : decode cX9_meet 27 = .ok (.iload_n 2, 1) := by decide +kernel
theorem dX9_meet_28 : decode cX9_meet 28 = .ok (.if_icmp .lt 5, 3) := by decide +kernel
theorem dX9_meet_31 : decode cX9_meet 31 = .ok (.iconst 1, 1) := by decide +kernel
theorem dX9_meet_32 : decode cX9_meet 32 = .ok (.ireturn, 1) := by decide +kernel
theorem dX9_meet_33 : decode cX9_meet 33 = .ok (.aload_n 0, 1) := by decide +kernel
theorem dX9_meet_34 : decode cX9_meet 34 = .ok (.iconst 3, 1) := by decide +kernel
theorem dX9_meet_35 : decode cX9_meet 35 = .ok (.putfield 41, 3) := by decide +kernel
theorem dX9_meet_38 : decode cX9_meet 38 = .ok (.aload_n 0, 1) := by decide +kernel
theorem dX9_meet_39 : decode cX9_meet 39 = .ok (.iload_n 1, 1) := by decide +kernel
theorem dX9_meet_40 : decode cX9_meet 40 = .ok (.putfield 169, 3) := by decide +kernel
theorem dX9_meet_43 : decode cX9_meet 43 = .ok (.aload_n 0, 1) := by decide +kernel
theorem dX9_meet_44 : decode cX9_meet 44 = .ok (.iload_n 2, 1) := by decide +kernel
theorem dX9_meet_45 : decode cX9_meet 45 = .ok (.putfield 172, 3) := by decide +kernel
theorem dX9_meet_48 : decode cX9_meet 48 = .ok (.iconst 0, 1) := by decide +kernel
theorem dX9_meet_49 : decode cX9_meet 49 = .ok (.ireturn, 1) := by decide +kernel
theorem dX9_load_0 : decode cX9_load 0 = .ok (.aload_n 0, 1) := by decide +kernel
theorem dX9_load_1 : decode cX9_load 1 = .ok (.getfield 31, 3) := by decide +kernel
theorem dX9_load_4 : decode cX9_load 4 = .ok (.getfield 107, 3) := by decide +kernel
theorem dX9_load_7 : decode cX9_load 7 = .ok (.astore_n 2, 1) := by decide +kernel
theorem dX9_load_8 : decode cX9_load 8 = .ok (.iload_n 1, 1) := by decide +kernel
theorem dX9_load_9 : decode cX9_load 9 = .ok (.bipush 16, 2) := by decide +kernel
theorem dX9_load_11 : decode cX9_load 11 = .ok (.imul, 1) := by decide +kernel
theorem dX9_load_12 : decode cX9_load 12 = .ok (.istore_n 3, 1) := by decide +kernel
theorem dX9_load_13 : decode cX9_load 13 = .ok (.iload_n 3, 1) := by decide +kernel
theorem dX9_load_14 : decode cX9_load 14 = .ok (.istore 4, 2) := by decide +kernel
theorem dX9_load_16 : decode cX9_load 16 = .ok (.iload 4, 2) := by decide +kernel
theorem dX9_load_18 : decode cX9_load 18 = .ok (.iload_n 3, 1) := by decide +kernel
theorem dX9_load_19 : decode cX9_load 19 = .ok (.bipush 16, 2) := by decide +kernel
theorem dX9_load_21 : decode cX9_load 21 = .ok (.iadd, 1) := by decide +kernel
theorem dX9_load_22 : decode cX9_load 22 = .ok (.if_icmp .ge 23, 3) := by decide +kernel
theorem dX9_load_25 : decode cX9_load 25 = .ok (.aload_n 2, 1) := by decide +kernel
theorem dX9_load_26 : decode cX9_load 26 = .ok (.getfield 114, 3) := by decide +kernel
theorem dX9_load_29 : decode cX9_load 29 = .ok (.iload 4, 2) := by decide +kernel
theorem dX9_load_31 : decode cX9_load 31 = .ok (.aload_n 0, 1) := by decide +kernel
theorem dX9_load_32 : decode cX9_load 32 = .ok (.getfield 28, 3) := by decide +kernel
theorem dX9_load_35 : decode cX9_load 35 = .ok (.iload 4, 2) := by decide +kernel
theorem dX9_load_37 : decode cX9_load 37 = .ok (.iaload, 1) := by decide +kernel
theorem dX9_load_38 : decode cX9_load 38 = .ok (.iastore, 1) := by decide +kernel
theorem dX9_load_39 : decode cX9_load 39 = .ok (.iinc 4 1, 3) := by decide +kernel
theorem dX9_load_42 : decode cX9_load 42 = .ok (.goto (-26), 3) := by decide +kernel
theorem dX9_load_45 : decode cX9_load 45 = .ok (.aload_n 2, 1) := by decide +kernel
theorem dX9_load_46 : decode cX9_load 46 = .ok (.getfield 175, 3) := by decide +kernel
theorem dX9_load_49 : decode cX9_load 49 = .ok (.iload_n 1, 1) := by decide +kernel
theorem dX9_load_50 : decode cX9_load 50 = .ok (.iconst 1, 1) := by decide +kernel
theorem dX9_load_51 : decode cX9_load 51 = .ok (.bastore, 1) := by decide +kernel
theorem dX9_load_52 : decode cX9_load 52 = .ok (.aload_n 2, 1) := by decide +kernel
theorem dX9_load_53 : decode cX9_load 53 = .ok (.dup, 1) := by decide +kernel
theorem dX9_load_54 : decode cX9_load 54 = .ok (.getfield 178, 3) := by decide +kernel
theorem dX9_load_57 : decode cX9_load 57 = .ok (.iconst 1, 1) := by decide +kernel
theorem dX9_load_58 : decode cX9_load 58 = .ok (.iadd, 1) := by decide +kernel
theorem dX9_load_59 : decode cX9_load 59 = .ok (.putfield 178, 3) := by decide +kernel
theorem dX9_load_62 : decode cX9_load 62 = .ok (.return_, 1) := by decide +kernel
theorem dX9_read_0 : decode cX9_read 0 = .ok (.iload_n 1, 1) := by decide +kernel
theorem dX9_read_1 : decode cX9_read 1 = .ok (.iload_n 2, 1) := by decide +kernel
theorem dX9_read_2 : decode cX9_read 2 = .ok (.invokestatic 180, 3) := by decide +kernel
theorem dX9_read_5 : decode cX9_read 5 = .ok (.ifCond .ne 5, 3) := by decide +kernel
theorem dX9_read_8 : decode cX9_read 8 = .ok (.iconst 0, 1) := by decide +kernel
theorem dX9_read_9 : decode cX9_read 9 = .ok (.ireturn, 1) := by decide +kernel
theorem dX9_read_10 : decode cX9_read 10 = .ok (.aload_n 0, 1) := by decide +kernel
theorem dX9_read_11 : decode cX9_read 11 = .ok (.getfield 31, 3) := by decide +kernel
theorem dX9_read_14 : decode cX9_read 14 = .ok (.getfield 107, 3) := by decide +kernel
theorem dX9_read_17 : decode cX9_read 17 = .ok (.getfield 175, 3) := by decide +kernel
theorem dX9_read_20 : decode cX9_read 20 = .ok (.iload_n 1, 1) := by decide +kernel
theorem dX9_read_21 : decode cX9_read 21 = .ok (.baload, 1) := by decide +kernel
theorem dX9_read_22 : decode cX9_read 22 = .ok (.ifCond .ne 8, 3) := by decide +kernel
theorem dX9_read_25 : decode cX9_read 25 = .ok (.aload_n 0, 1) := by decide +kernel
theorem dX9_read_26 : decode cX9_read 26 = .ok (.iload_n 1, 1) := by decide +kernel
theorem dX9_read_27 : decode cX9_read 27 = .ok (.invokevirtual 184, 3) := by decide +kernel
theorem dX9_read_30 : decode cX9_read 30 = .ok (.aload_n 0, 1) := by decide +kernel
theorem dX9_read_31 : decode cX9_read 31 = .ok (.getfield 31, 3) := by decide +kernel
theorem dX9_read_34 : decode cX9_read 34 = .ok (.getfield 107, 3) := by decide +kernel
theorem dX9_read_37 : decode cX9_read 37 = .ok (.getfield 114, 3) := by decide +kernel
theorem dX9_read_40 : decode cX9_read 40 = .ok (.iload_n 1, 1) := by decide +kernel
theorem dX9_read_41 : decode cX9_read 41 = .ok (.bipush 16, 2) := by decide +kernel
theorem dX9_read_43 : decode cX9_read 43 = .ok (.imul, 1) := by decide +kernel
theorem dX9_read_44 : decode cX9_read 44 = .ok (.iload_n 2, 1) := by decide +kernel
theorem dX9_read_45 : decode cX9_read 45 = .ok (.iadd, 1) := by decide +kernel
theorem dX9_read_46 : decode cX9_read 46 = .ok (.iaload, 1) := by decide +kernel
theorem dX9_read_47 : decode cX9_read 47 = .ok (.ireturn, 1) := by decide +kernel
theorem dX9_keep_0 : decode cX9_keep 0 = .ok (.aload_n 0, 1) := by decide +kernel
theorem dX9_keep_1 : decode cX9_keep 1 = .ok (.getfield 22, 3) := by decide +kernel
theorem dX9_keep_4 : decode cX9_keep 4 = .ok (.iload_n 1, 1) := by decide +kernel
theorem dX9_keep_5 : decode cX9_keep 5 = .ok (.baload, 1) := by decide +kernel
theorem dX9_keep_6 : decode cX9_keep 6 = .ok (.ifCond .ne 12, 3) := by decide +kernel
theorem dX9_keep_9 : decode cX9_keep 9 = .ok (.aload_n 0, 1) := by decide +kernel
theorem dX9_keep_10 : decode cX9_keep 10 = .ok (.getfield 111, 3) := by decide +kernel
theorem dX9_keep_13 : decode cX9_keep 13 = .ok (.bipush 32, 2) := by decide +kernel
theorem dX9_keep_15 : decode cX9_keep 15 = .ok (.if_icmp .lt 4, 3) := by decide +kernel
theorem dX9_keep_18 : decode cX9_keep 18 = .ok (.return_, 1) := by decide +kernel
theorem dX9_keep_19 : decode cX9_keep 19 = .ok (.aload_n 0, 1) := by decide +kernel
theorem dX9_keep_20 : decode cX9_keep 20 = .ok (.getfield 22, 3) := by decide +kernel
theorem dX9_keep_23 : decode cX9_keep 23 = .ok (.iload_n 1, 1) := by decide +kernel
theorem dX9_keep_24 : decode cX9_keep 24 = .ok (.iconst 1, 1) := by decide +kernel
theorem dX9_keep_25 : decode cX9_keep 25 = .ok (.bastore, 1) := by decide +kernel
theorem dX9_keep_26 : decode cX9_keep 26 = .ok (.aload_n 0, 1) := by decide +kernel
theorem dX9_keep_27 : decode cX9_keep 27 = .ok (.getfield 11, 3) := by decide +kernel
theorem dX9_keep_30 : decode cX9_keep 30 = .ok (.aload_n 0, 1) := by decide +kernel
theorem dX9_keep_31 : decode cX9_keep 31 = .ok (.getfield 111, 3) := by decide +kernel
theorem dX9_keep_34 : decode cX9_keep 34 = .ok (.iload_n 1, 1) := by decide +kernel
theorem dX9_keep_35 : decode cX9_keep 35 = .ok (.iastore, 1) := by decide +kernel
theorem dX9_keep_36 : decode cX9_keep 36 = .ok (.aload_n 0, 1) := by decide +kernel
theorem dX9_keep_37 : decode cX9_keep 37 = .ok (.getfield 15, 3) := by decide +kernel
theorem dX9_keep_40 : decode cX9_keep 40 = .ok (.aload_n 0, 1) := by decide +kernel
theorem dX9_keep_41 : decode cX9_keep 41 = .ok (.getfield 111, 3) := by decide +kernel
theorem dX9_keep_44 : decode cX9_keep 44 = .ok (.aload_n 0, 1) := by decide +kernel
theorem dX9_keep_45 : decode cX9_keep 45 = .ok (.getfield 31, 3) := by decide +kernel
theorem dX9_keep_48 : decode cX9_keep 48 = .ok (.getfield 107, 3) := by decide +kernel
theorem dX9_keep_51 : decode cX9_keep 51 = .ok (.getfield 175, 3) := by decide +kernel
theorem dX9_keep_54 : decode cX9_keep 54 = .ok (.iload_n 1, 1) := by decide +kernel
theorem dX9_keep_55 : decode cX9_keep 55 = .ok (.baload, 1) := by decide +kernel
theorem dX9_keep_56 : decode cX9_keep 56 = .ok (.bastore, 1) := by decide +kernel
theorem dX9_keep_57 : decode cX9_keep 57 = .ok (.iconst 0, 1) := by decide +kernel
theorem dX9_keep_58 : decode cX9_keep 58 = .ok (.istore_n 2, 1) := by decide +kernel
theorem dX9_keep_59 : decode cX9_keep 59 = .ok (.iload_n 2, 1) := by decide +kernel
theorem dX9_keep_60 : decode cX9_keep 60 = .ok (.bipush 16, 2) := by decide +kernel
theorem dX9_keep_62 : decode cX9_keep 62 = .ok (.if_icmp .ge 40, 3) := by decide +kernel
theorem dX9_keep_65 : decode cX9_keep 65 = .ok (.aload_n 0, 1) := by decide +kernel
theorem dX9_keep_66 : decode cX9_keep 66 = .ok (.getfield 19, 3) := by decide +kernel
theorem dX9_keep_69 : decode cX9_keep 69 = .ok (.aload_n 0, 1) := by decide +kernel
theorem dX9_keep_70 : decode cX9_keep 70 = .ok (.getfield 111, 3) := by decide +kernel
theorem dX9_keep_73 : decode cX9_keep 73 = .ok (.bipush 16, 2) := by decide +kernel
theorem dX9_keep_75 : decode cX9_keep 75 = .ok (.imul, 1) := by decide +kernel
theorem dX9_keep_76 : decode cX9_keep 76 = .ok (.iload_n 2, 1) := by decide +kernel
theorem dX9_keep_77 : decode cX9_keep 77 = .ok (.iadd, 1) := by decide +kernel
theorem dX9_keep_78 : decode cX9_keep 78 = .ok (.aload_n 0, 1) := by decide +kernel
theorem dX9_keep_79 : decode cX9_keep 79 = .ok (.getfield 31, 3) := by decide +kernel
theorem dX9_keep_82 : decode cX9_keep 82 = .ok (.getfield 107, 3) := by decide +kernel
theorem dX9_keep_85 : decode cX9_keep 85 = .ok (.getfield 114, 3) := by decide +kernel
theorem dX9_keep_88 : decode cX9_keep 88 = .ok (.iload_n 1, 1) := by decide +kernel
theorem dX9_keep_89 : decode cX9_keep 89 = .ok (.bipush 16, 2) := by decide +kernel
theorem dX9_keep_91 : decode cX9_keep 91 = .ok (.imul, 1) := by decide +kernel
theorem dX9_keep_92 : decode cX9_keep 92 = .ok (.iload_n 2, 1) := by decide +kernel
theorem dX9_keep_93 : decode cX9_keep 93 = .ok (.iadd, 1) := by decide +kernel
theorem dX9_keep_94 : decode cX9_keep 94 = .ok (.iaload, 1) := by decide +kernel
theorem dX9_keep_95 : decode cX9_keep 95 = .ok (.iastore, 1) := by decide +kernel
theorem dX9_keep_96 : decode cX9_keep 96 = .ok (.iinc 2 1, 3) := by decide +kernel
theorem dX9_keep_99 : decode cX9_keep 99 = .ok (.goto (-40), 3) := by decide +kernel
theorem dX9_keep_102 : decode cX9_keep 102 = .ok (.aload_n 0, 1) := by decide +kernel
theorem dX9_keep_103 : decode cX9_keep 103 = .ok (.dup, 1) := by decide +kernel
theorem dX9_keep_104 : decode cX9_keep 104 = .ok (.getfield 111, 3) := by decide +kernel
theorem dX9_keep_107 : decode cX9_keep 107 = .ok (.iconst 1, 1) := by decide +kernel
theorem dX9_keep_108 : decode cX9_keep 108 = .ok (.iadd, 1) := by decide +kernel
theorem dX9_keep_109 : decode cX9_keep 109 = .ok (.putfield 111, 3) := by decide +kernel
theorem dX9_keep_112 : decode cX9_keep 112 = .ok (.return_, 1) := by decide +kernel
theorem dX9_set_0 : decode cX9_set 0 = .ok (.iload_n 1, 1) := by decide +kernel
theorem dX9_set_1 : decode cX9_set 1 = .ok (.iload_n 2, 1) := by decide +kernel
theorem dX9_set_2 : decode cX9_set 2 = .ok (.invokestatic 180, 3) := by decide +kernel
theorem dX9_set_5 : decode cX9_set 5 = .ok (.ifCond .ne 4, 3) := by decide +kernel
theorem dX9_set_8 : decode cX9_set 8 = .ok (.return_, 1) := by decide +kernel
theorem dX9_set_9 : decode cX9_set 9 = .ok (.aload_n 0, 1) := by decide +kernel
theorem dX9_set_10 : decode cX9_set 10 = .ok (.getfield 31, 3) := by decide +kernel
theorem dX9_set_13 : decode cX9_set 13 = .ok (.getfield 107, 3) := by decide +kernel
theorem dX9_set_16 : decode cX9_set 16 = .ok (.getfield 175, 3) := by decide +kernel
theorem dX9_set_19 : decode cX9_set 19 = .ok (.iload_n 1, 1) := by decide +kernel
theorem dX9_set_20 : decode cX9_set 20 = .ok (.baload, 1) := by decide +kernel
theorem dX9_set_21 : decode cX9_set 21 = .ok (.ifCond .ne 8, 3) := by decide +kernel
theorem dX9_set_24 : decode cX9_set 24 = .ok (.aload_n 0, 1) := by decide +kernel
theorem dX9_set_25 : decode cX9_set 25 = .ok (.iload_n 1, 1) := by decide +kernel
theorem dX9_set_26 : decode cX9_set 26 = .ok (.invokevirtual 184, 3) := by decide +kernel
theorem dX9_set_29 : decode cX9_set 29 = .ok (.aload_n 0, 1) := by decide +kernel
theorem dX9_set_30 : decode cX9_set 30 = .ok (.iload_n 1, 1) := by decide +kernel
theorem dX9_set_31 : decode cX9_set 31 = .ok (.invokevirtual 187, 3) := by decide +kernel
theorem dX9_set_34 : decode cX9_set 34 = .ok (.aload_n 0, 1) := by decide +kernel
theorem dX9_set_35 : decode cX9_set 35 = .ok (.getfield 31, 3) := by decide +kernel
theorem dX9_set_38 : decode cX9_set 38 = .ok (.getfield 107, 3) := by decide +kernel
theorem dX9_set_41 : decode cX9_set 41 = .ok (.getfield 114, 3) := by decide +kernel
theorem dX9_set_44 : decode cX9_set 44 = .ok (.iload_n 1, 1) := by decide +kernel
theorem dX9_set_45 : decode cX9_set 45 = .ok (.bipush 16, 2) := by decide +kernel
theorem dX9_set_47 : decode cX9_set 47 = .ok (.imul, 1) := by decide +kernel
theorem dX9_set_48 : decode cX9_set 48 = .ok (.iload_n 2, 1) := by decide +kernel
theorem dX9_set_49 : decode cX9_set 49 = .ok (.iadd, 1) := by decide +kernel
theorem dX9_set_50 : decode cX9_set 50 = .ok (.iload_n 3, 1) := by decide +kernel
theorem dX9_set_51 : decode cX9_set 51 = .ok (.iastore, 1) := by decide +kernel
theorem dX9_set_52 : decode cX9_set 52 = .ok (.return_, 1) := by decide +kernel
theorem dX9_clear_0 : decode cX9_clear 0 = .ok (.aload_n 0, 1) := by decide +kernel
theorem dX9_clear_1 : decode cX9_clear 1 = .ok (.iload_n 1, 1) := by decide +kernel
theorem dX9_clear_2 : decode cX9_clear 2 = .ok (.invokevirtual 187, 3) := by decide +kernel
theorem dX9_clear_5 : decode cX9_clear 5 = .ok (.iconst 0, 1) := by decide +kernel
theorem dX9_clear_6 : decode cX9_clear 6 = .ok (.istore_n 2, 1) := by decide +kernel
theorem dX9_clear_7 : decode cX9_clear 7 = .ok (.iload_n 2, 1) := by decide +kernel
theorem dX9_clear_8 : decode cX9_clear 8 = .ok (.bipush 16, 2) := by decide +kernel
theorem dX9_clear_10 : decode cX9_clear 10 = .ok (.if_icmp .ge 27, 3) := by decide +kernel
theorem dX9_clear_13 : decode cX9_clear 13 = .ok (.aload_n 0, 1) := by decide +kernel
theorem dX9_clear_14 : decode cX9_clear 14 = .ok (.getfield 31, 3) := by decide +kernel
theorem dX9_clear_17 : decode cX9_clear 17 = .ok (.getfield 107, 3) := by decide +kernel
theorem dX9_clear_20 : decode cX9_clear 20 = .ok (.getfield 114, 3) := by decide +kernel
theorem dX9_clear_23 : decode cX9_clear 23 = .ok (.iload_n 1, 1) := by decide +kernel
theorem dX9_clear_24 : decode cX9_clear 24 = .ok (.bipush 16, 2) := by decide +kernel
theorem dX9_clear_26 : decode cX9_clear 26 = .ok (.imul, 1) := by decide +kernel
theorem dX9_clear_27 : decode cX9_clear 27 = .ok (.iload_n 2, 1) := by decide +kernel
theorem dX9_clear_28 : decode cX9_clear 28 = .ok (.iadd, 1) := by decide +kernel
theorem dX9_clear_29 : decode cX9_clear 29 = .ok (.iconst 0, 1) := by decide +kernel
theorem dX9_clear_30 : decode cX9_clear 30 = .ok (.iastore, 1) := by decide +kernel
theorem dX9_clear_31 : decode cX9_clear 31 = .ok (.iinc 2 1, 3) := by decide +kernel
theorem dX9_clear_34 : decode cX9_clear 34 = .ok (.goto (-27), 3) := by decide +kernel
theorem dX9_clear_37 : decode cX9_clear 37 = .ok (.aload_n 0, 1) := by decide +kernel
theorem dX9_clear_38 : decode cX9_clear 38 = .ok (.getfield 31, 3) := by decide +kernel
theorem dX9_clear_41 : decode cX9_clear 41 = .ok (.getfield 107, 3) := by decide +kernel
theorem dX9_clear_44 : decode cX9_clear 44 = .ok (.iload_n 1, 1) := by decide +kernel
theorem dX9_clear_45 : decode cX9_clear 45 = .ok (.invokevirtual 190, 3) := by decide +kernel
theorem dX9_clear_48 : decode cX9_clear 48 = .ok (.return_, 1) := by decide +kernel
theorem dX9_blockOf_0 : decode cX9_blockOf 0 = .ok (.iload_n 2, 1) := by decide +kernel
theorem dX9_blockOf_1 : decode cX9_blockOf 1 = .ok (.bipush 16, 2) := by decide +kernel
theorem dX9_blockOf_3 : decode cX9_blockOf 3 = .ok (.idiv, 1) := by decide +kernel
theorem dX9_blockOf_4 : decode cX9_blockOf 4 = .ok (.istore_n 3, 1) := by decide +kernel
theorem dX9_blockOf_5 : decode cX9_blockOf 5 = .ok (.iload_n 3, 1) := by decide +kernel
theorem dX9_blockOf_6 : decode cX9_blockOf 6 = .ok (.bipush 8, 2) := by decide +kernel
theorem dX9_blockOf_8 : decode cX9_blockOf 8 = .ok (.if_icmp .ge 15, 3) := by decide +kernel
theorem dX9_blockOf_11 : decode cX9_blockOf 11 = .ok (.aload_n 0, 1) := by decide +kernel
theorem dX9_blockOf_12 : decode cX9_blockOf 12 = .ok (.iload_n 1, 1) := by decide +kernel
theorem dX9_blockOf_13 : decode cX9_blockOf 13 = .ok (.invokestatic 193, 3) := by decide +kernel
theorem dX9_blockOf_16 : decode cX9_blockOf 16 = .ok (.iconst 3, 1) := by decide +kernel
theorem dX9_blockOf_17 : decode cX9_blockOf 17 = .ok (.iload_n 3, 1) := by decide +kernel
theorem dX9_blockOf_18 : decode cX9_blockOf 18 = .ok (.iadd, 1) := by decide +kernel
theorem dX9_blockOf_19 : decode cX9_blockOf 19 = .ok (.invokevirtual 197, 3) := by decide +kernel
theorem dX9_blockOf_22 : decode cX9_blockOf 22 = .ok (.ireturn, 1) := by decide +kernel
theorem dX9_blockOf_23 : decode cX9_blockOf 23 = .ok (.aload_n 0, 1) := by decide +kernel
theorem dX9_blockOf_24 : decode cX9_blockOf 24 = .ok (.iload_n 1, 1) := by decide +kernel
theorem dX9_blockOf_25 : decode cX9_blockOf 25 = .ok (.invokestatic 193, 3) := by decide +kernel
theorem dX9_blockOf_28 : decode cX9_blockOf 28 = .ok (.bipush 11, 2) := by decide +kernel
theorem dX9_blockOf_30 : decode cX9_blockOf 30 = .ok (.invokevirtual 197, 3) := by decide +kernel
theorem dX9_blockOf_33 : decode cX9_blockOf 33 = .ok (.istore 4, 2) := by decide +kernel
theorem dX9_blockOf_35 : decode cX9_blockOf 35 = .ok (.iload 4, 2) := by decide +kernel
theorem dX9_blockOf_37 : decode cX9_blockOf 37 = .ok (.ifCond .ne 7, 3) := by decide +kernel
theorem dX9_blockOf_40 : decode cX9_blockOf 40 = .ok (.iconst 0, 1) := by decide +kernel
theorem dX9_blockOf_41 : decode cX9_blockOf 41 = .ok (.goto 13, 3) := by decide +kernel
theorem dX9_blockOf_44 : decode cX9_blockOf 44 = .ok (.aload_n 0, 1) := by decide +kernel
theorem dX9_blockOf_45 : decode cX9_blockOf 45 = .ok (.iload 4, 2) := by decide +kernel
theorem dX9_blockOf_47 : decode cX9_blockOf 47 = .ok (.iload_n 3, 1) := by decide +kernel
theorem dX9_blockOf_48 : decode cX9_blockOf 48 = .ok (.bipush 8, 2) := by decide +kernel
theorem dX9_blockOf_50 : decode cX9_blockOf 50 = .ok (.isub, 1) := by decide +kernel
theorem dX9_blockOf_51 : decode cX9_blockOf 51 = .ok (.invokevirtual 197, 3) := by decide +kernel
theorem dX9_blockOf_54 : decode cX9_blockOf 54 = .ok (.ireturn, 1) := by decide +kernel
theorem dX9_reach_0 : decode cX9_reach 0 = .ok (.iload_n 1, 1) := by decide +kernel
theorem dX9_reach_1 : decode cX9_reach 1 = .ok (.invokestatic 193, 3) := by decide +kernel
theorem dX9_reach_4 : decode cX9_reach 4 = .ok (.istore_n 3, 1) := by decide +kernel
theorem dX9_reach_5 : decode cX9_reach 5 = .ok (.iconst 3, 1) := by decide +kernel
theorem dX9_reach_6 : decode cX9_reach 6 = .ok (.iload_n 2, 1) := by decide +kernel
theorem dX9_reach_7 : decode cX9_reach 7 = .ok (.bipush 16, 2) := by decide +kernel
theorem dX9_reach_9 : decode cX9_reach 9 = .ok (.idiv, 1) := by decide +kernel
theorem dX9_reach_10 : decode cX9_reach 10 = .ok (.iadd, 1) := by decide +kernel
theorem dX9_reach_11 : decode cX9_reach 11 = .ok (.istore 4, 2) := by decide +kernel
theorem dX9_reach_13 : decode cX9_reach 13 = .ok (.iload_n 2, 1) := by decide +kernel
theorem dX9_reach_14 : decode cX9_reach 14 = .ok (.sipush 128, 3) := by decide +kernel
theorem dX9_reach_17 : decode cX9_reach 17 = .ok (.if_icmp .lt 55, 3) := by decide +kernel
theorem dX9_reach_20 : decode cX9_reach 20 = .ok (.aload_n 0, 1) := by decide +kernel
theorem dX9_reach_21 : decode cX9_reach 21 = .ok (.iload_n 3, 1) := by decide +kernel
theorem dX9_reach_22 : decode cX9_reach 22 = .ok (.bipush 11, 2) := by decide +kernel
theorem dX9_reach_24 : decode cX9_reach 24 = .ok (.invokevirtual 197, 3) := by decide +kernel
theorem dX9_reach_27 : decode cX9_reach 27 = .ok (.istore 5, 2) := by decide +kernel
theorem dX9_reach_29 : decode cX9_reach 29 = .ok (.iload 5, 2) := by decide +kernel
theorem dX9_reach_31 : decode cX9_reach 31 = .ok (.ifCond .ne 29, 3) := by decide +kernel
theorem dX9_reach_34 : decode cX9_reach 34 = .ok (.aload_n 0, 1) := by decide +kernel
theorem dX9_reach_35 : decode cX9_reach 35 = .ok (.iload_n 1, 1) := by decide +kernel
theorem dX9_reach_36 : decode cX9_reach 36 = .ok (.bipush 16, 2) := by decide +kernel
theorem dX9_reach_38 : decode cX9_reach 38 = .ok (.idiv, 1) := by decide +kernel
theorem dX9_reach_39 : decode cX9_reach 39 = .ok (.invokevirtual 201, 3) := by decide +kernel
theorem dX9_reach_42 : decode cX9_reach 42 = .ok (.istore 5, 2) := by decide +kernel
theorem dX9_reach_44 : decode cX9_reach 44 = .ok (.iload 5, 2) := by decide +kernel
theorem dX9_reach_46 : decode cX9_reach 46 = .ok (.ifCond .ne 5, 3) := by decide +kernel
theorem dX9_reach_49 : decode cX9_reach 49 = .ok (.iconst 0, 1) := by decide +kernel
theorem dX9_reach_50 : decode cX9_reach 50 = .ok (.ireturn, 1) := by decide +kernel
theorem dX9_reach_51 : decode cX9_reach 51 = .ok (.aload_n 0, 1) := by decide +kernel
theorem dX9_reach_52 : decode cX9_reach 52 = .ok (.iload_n 3, 1) := by decide +kernel
theorem dX9_reach_53 : decode cX9_reach 53 = .ok (.bipush 11, 2) := by decide +kernel
theorem dX9_reach_55 : decode cX9_reach 55 = .ok (.iload 5, 2) := by decide +kernel
theorem dX9_reach_57 : decode cX9_reach 57 = .ok (.invokevirtual 204, 3) := by decide +kernel
theorem dX9_reach_60 : decode cX9_reach 60 = .ok (.iload 5, 2) := by decide +kernel
theorem dX9_reach_62 : decode cX9_reach 62 = .ok (.istore_n 3, 1) := by decide +kernel
theorem dX9_reach_63 : decode cX9_reach 63 = .ok (.iload_n 2, 1) := by decide +kernel
theorem dX9_reach_64 : decode cX9_reach 64 = .ok (.bipush 16, 2) := by decide +kernel
theorem dX9_reach_66 : decode cX9_reach 66 = .ok (.idiv, 1) := by decide +kernel
theorem dX9_reach_67 : decode cX9_reach 67 = .ok (.bipush 8, 2) := by decide +kernel
theorem dX9_reach_69 : decode cX9_reach 69 = .ok (.isub, 1) := by decide +kernel
theorem dX9_reach_70 : decode cX9_reach 70 = .ok (.istore 4, 2) := by decide +kernel
theorem dX9_reach_72 : decode cX9_reach 72 = .ok (.aload_n 0, 1) := by decide +kernel
theorem dX9_reach_73 : decode cX9_reach 73 = .ok (.iload_n 3, 1) := by decide +kernel
