theorem dX9_reach_74 : decode cX9_reach 74 = .ok (.iload 4, 2) := by decide +kernel
theorem dX9_reach_76 : decode cX9_reach 76 = .ok (.invokevirtual 197, 3) := by decide +kernel
theorem dX9_reach_79 : decode cX9_reach 79 = .ok (.istore 5, 2) := by decide +kernel
theorem dX9_reach_81 : decode cX9_reach 81 = .ok (.iload 5, 2) := by decide +kernel
theorem dX9_reach_83 : decode cX9_reach 83 = .ok (.ifCond .ne 27, 3) := by decide +kernel
theorem dX9_reach_86 : decode cX9_reach 86 = .ok (.aload_n 0, 1) := by decide +kernel
theorem dX9_reach_87 : decode cX9_reach 87 = .ok (.iload_n 1, 1) := by decide +kernel
theorem dX9_reach_88 : decode cX9_reach 88 = .ok (.bipush 16, 2) := by decide +kernel
theorem dX9_reach_90 : decode cX9_reach 90 = .ok (.idiv, 1) := by decide +kernel
theorem dX9_reach_91 : decode cX9_reach 91 = .ok (.invokevirtual 201, 3) := by decide +kernel
theorem dX9_reach_94 : decode cX9_reach 94 = .ok (.istore 5, 2) := by decide +kernel
theorem dX9_reach_96 : decode cX9_reach 96 = .ok (.iload 5, 2) := by decide +kernel
theorem dX9_reach_98 : decode cX9_reach 98 = .ok (.ifCond .eq 12, 3) := by decide +kernel
theorem dX9_reach_101 : decode cX9_reach 101 = .ok (.aload_n 0, 1) := by decide +kernel
theorem dX9_reach_102 : decode cX9_reach 102 = .ok (.iload_n 3, 1) := by decide +kernel
theorem dX9_reach_103 : decode cX9_reach 103 = .ok (.iload 4, 2) := by decide +kernel
theorem dX9_reach_105 : decode cX9_reach 105 = .ok (.iload 5, 2) := by decide +kernel
theorem dX9_reach_107 : decode cX9_reach 107 = .ok (.invokevirtual 204, 3) := by decide +kernel
theorem dX9_reach_110 : decode cX9_reach 110 = .ok (.iload 5, 2) := by decide +kernel
theorem dX9_reach_112 : decode cX9_reach 112 = .ok (.ireturn, 1) := by decide +kernel
theorem dX9_takeBlock_0 : decode cX9_takeBlock 0 = .ok (.iconst 0, 1) := by decide +kernel
theorem dX9_takeBlock_1 : decode cX9_takeBlock 1 = .ok (.istore_n 2, 1) := by decide +kernel
theorem dX9_takeBlock_2 : decode cX9_takeBlock 2 = .ok (.iload_n 2, 1) := by decide +kernel
theorem dX9_takeBlock_3 : decode cX9_takeBlock 3 = .ok (.bipush 8, 2) := by decide +kernel
theorem dX9_takeBlock_5 : decode cX9_takeBlock 5 = .ok (.if_icmp .ge 138, 3) := by decide +kernel
theorem dX9_takeBlock_8 : decode cX9_takeBlock 8 = .ok (.iload_n 1, 1) := by decide +kernel
theorem dX9_takeBlock_9 : decode cX9_takeBlock 9 = .ok (.iload_n 2, 1) := by decide +kernel
theorem dX9_takeBlock_10 : decode cX9_takeBlock 10 = .ok (.iadd, 1) := by decide +kernel
theorem dX9_takeBlock_11 : decode cX9_takeBlock 11 = .ok (.bipush 8, 2) := by decide +kernel
theorem dX9_takeBlock_13 : decode cX9_takeBlock 13 = .ok (.irem, 1) := by decide +kernel
theorem dX9_takeBlock_14 : decode cX9_takeBlock 14 = .ok (.istore_n 3, 1) := by decide +kernel
theorem dX9_takeBlock_15 : decode cX9_takeBlock 15 = .ok (.aload_n 0, 1) := by decide +kernel
theorem dX9_takeBlock_16 : decode cX9_takeBlock 16 = .ok (.iload_n 3, 1) := by decide +kernel
theorem dX9_takeBlock_17 : decode cX9_takeBlock 17 = .ok (.invokestatic 208, 3) := by decide +kernel
theorem dX9_takeBlock_20 : decode cX9_takeBlock 20 = .ok (.iconst 2, 1) := by decide +kernel
theorem dX9_takeBlock_21 : decode cX9_takeBlock 21 = .ok (.invokevirtual 211, 3) := by decide +kernel
theorem dX9_takeBlock_24 : decode cX9_takeBlock 24 = .ok (.ifCond .ne 5, 3) := by decide +kernel
theorem dX9_takeBlock_27 : decode cX9_takeBlock 27 = .ok (.iconst 0, 1) := by decide +kernel
theorem dX9_takeBlock_28 : decode cX9_takeBlock 28 = .ok (.ireturn, 1) := by decide +kernel
theorem dX9_takeBlock_29 : decode cX9_takeBlock 29 = .ok (.iload_n 3, 1) := by decide +kernel
theorem dX9_takeBlock_30 : decode cX9_takeBlock 30 = .ok (.invokestatic 214, 3) := by decide +kernel
theorem dX9_takeBlock_33 : decode cX9_takeBlock 33 = .ok (.istore 4, 2) := by decide +kernel
theorem dX9_takeBlock_35 : decode cX9_takeBlock 35 = .ok (.iconst 1, 1) := by decide +kernel
theorem dX9_takeBlock_36 : decode cX9_takeBlock 36 = .ok (.istore 5, 2) := by decide +kernel
theorem dX9_takeBlock_38 : decode cX9_takeBlock 38 = .ok (.iload 5, 2) := by decide +kernel
theorem dX9_takeBlock_40 : decode cX9_takeBlock 40 = .ok (.iconst 2, 1) := by decide +kernel
theorem dX9_takeBlock_41 : decode cX9_takeBlock 41 = .ok (.if_icmp .gt 96, 3) := by decide +kernel
theorem dX9_takeBlock_44 : decode cX9_takeBlock 44 = .ok (.aload_n 0, 1) := by decide +kernel
theorem dX9_takeBlock_45 : decode cX9_takeBlock 45 = .ok (.iload 4, 2) := by decide +kernel
theorem dX9_takeBlock_47 : decode cX9_takeBlock 47 = .ok (.iload 5, 2) := by decide +kernel
theorem dX9_takeBlock_49 : decode cX9_takeBlock 49 = .ok (.invokevirtual 197, 3) := by decide +kernel
theorem dX9_takeBlock_52 : decode cX9_takeBlock 52 = .ok (.istore 6, 2) := by decide +kernel
theorem dX9_takeBlock_54 : decode cX9_takeBlock 54 = .ok (.iload 5, 2) := by decide +kernel
theorem dX9_takeBlock_56 : decode cX9_takeBlock 56 = .ok (.iconst 1, 1) := by decide +kernel
theorem dX9_takeBlock_57 : decode cX9_takeBlock 57 = .ok (.if_icmp .ne 10, 3) := by decide +kernel
theorem dX9_takeBlock_60 : decode cX9_takeBlock 60 = .ok (.iload 6, 2) := by decide +kernel
theorem dX9_takeBlock_62 : decode cX9_takeBlock 62 = .ok (.iconst (-1), 1) := by decide +kernel
theorem dX9_takeBlock_63 : decode cX9_takeBlock 63 = .ok (.ixor, 1) := by decide +kernel
theorem dX9_takeBlock_64 : decode cX9_takeBlock 64 = .ok (.goto 11, 3) := by decide +kernel
theorem dX9_takeBlock_67 : decode cX9_takeBlock 67 = .ok (.iload 6, 2) := by decide +kernel
theorem dX9_takeBlock_69 : decode cX9_takeBlock 69 = .ok (.iconst (-1), 1) := by decide +kernel
theorem dX9_takeBlock_70 : decode cX9_takeBlock 70 = .ok (.ixor, 1) := by decide +kernel
theorem dX9_takeBlock_71 : decode cX9_takeBlock 71 = .ok (.sipush 32767, 3) := by decide +kernel
theorem dX9_takeBlock_74 : decode cX9_takeBlock 74 = .ok (.iand, 1) := by decide +kernel
theorem dX9_takeBlock_75 : decode cX9_takeBlock 75 = .ok (.istore 7, 2) := by decide +kernel
theorem dX9_takeBlock_77 : decode cX9_takeBlock 77 = .ok (.iload 7, 2) := by decide +kernel
theorem dX9_takeBlock_79 : decode cX9_takeBlock 79 = .ok (.ifCond .eq 52, 3) := by decide +kernel
theorem dX9_takeBlock_82 : decode cX9_takeBlock 82 = .ok (.iload 7, 2) := by decide +kernel
theorem dX9_takeBlock_84 : decode cX9_takeBlock 84 = .ok (.invokestatic 217, 3) := by decide +kernel
theorem dX9_takeBlock_87 : decode cX9_takeBlock 87 = .ok (.istore 8, 2) := by decide +kernel
theorem dX9_takeBlock_89 : decode cX9_takeBlock 89 = .ok (.iload 4, 2) := by decide +kernel
theorem dX9_takeBlock_91 : decode cX9_takeBlock 91 = .ok (.bipush 17, 2) := by decide +kernel
theorem dX9_takeBlock_93 : decode cX9_takeBlock 93 = .ok (.iadd, 1) := by decide +kernel
theorem dX9_takeBlock_94 : decode cX9_takeBlock 94 = .ok (.bipush 32, 2) := by decide +kernel
theorem dX9_takeBlock_96 : decode cX9_takeBlock 96 = .ok (.iload 5, 2) := by decide +kernel
theorem dX9_takeBlock_98 : decode cX9_takeBlock 98 = .ok (.iconst 1, 1) := by decide +kernel
theorem dX9_takeBlock_99 : decode cX9_takeBlock 99 = .ok (.isub, 1) := by decide +kernel
theorem dX9_takeBlock_100 : decode cX9_takeBlock 100 = .ok (.imul, 1) := by decide +kernel
theorem dX9_takeBlock_101 : decode cX9_takeBlock 101 = .ok (.iadd, 1) := by decide +kernel
theorem dX9_takeBlock_102 : decode cX9_takeBlock 102 = .ok (.iload 8, 2) := by decide +kernel
theorem dX9_takeBlock_104 : decode cX9_takeBlock 104 = .ok (.iadd, 1) := by decide +kernel
theorem dX9_takeBlock_105 : decode cX9_takeBlock 105 = .ok (.istore 9, 2) := by decide +kernel
theorem dX9_takeBlock_107 : decode cX9_takeBlock 107 = .ok (.aload_n 0, 1) := by decide +kernel
theorem dX9_takeBlock_108 : decode cX9_takeBlock 108 = .ok (.iload 4, 2) := by decide +kernel
theorem dX9_takeBlock_110 : decode cX9_takeBlock 110 = .ok (.iload 5, 2) := by decide +kernel
theorem dX9_takeBlock_112 : decode cX9_takeBlock 112 = .ok (.iload 6, 2) := by decide +kernel
theorem dX9_takeBlock_114 : decode cX9_takeBlock 114 = .ok (.iconst 1, 1) := by decide +kernel
theorem dX9_takeBlock_115 : decode cX9_takeBlock 115 = .ok (.iload 8, 2) := by decide +kernel
theorem dX9_takeBlock_117 : decode cX9_takeBlock 117 = .ok (.ishl, 1) := by decide +kernel
theorem dX9_takeBlock_118 : decode cX9_takeBlock 118 = .ok (.ior, 1) := by decide +kernel
theorem dX9_takeBlock_119 : decode cX9_takeBlock 119 = .ok (.invokevirtual 204, 3) := by decide +kernel
theorem dX9_takeBlock_122 : decode cX9_takeBlock 122 = .ok (.aload_n 0, 1) := by decide +kernel
theorem dX9_takeBlock_123 : decode cX9_takeBlock 123 = .ok (.iload 9, 2) := by decide +kernel
theorem dX9_takeBlock_125 : decode cX9_takeBlock 125 = .ok (.invokevirtual 222, 3) := by decide +kernel
theorem dX9_takeBlock_128 : decode cX9_takeBlock 128 = .ok (.iload 9, 2) := by decide +kernel
theorem dX9_takeBlock_130 : decode cX9_takeBlock 130 = .ok (.ireturn, 1) := by decide +kernel
theorem dX9_takeBlock_131 : decode cX9_takeBlock 131 = .ok (.iinc 5 1, 3) := by decide +kernel
theorem dX9_takeBlock_134 : decode cX9_takeBlock 134 = .ok (.goto (-96), 3) := by decide +kernel
theorem dX9_takeBlock_137 : decode cX9_takeBlock 137 = .ok (.iinc 2 1, 3) := by decide +kernel
theorem dX9_takeBlock_140 : decode cX9_takeBlock 140 = .ok (.goto (-138), 3) := by decide +kernel
theorem dX9_takeBlock_143 : decode cX9_takeBlock 143 = .ok (.aload_n 0, 1) := by decide +kernel
theorem dX9_takeBlock_144 : decode cX9_takeBlock 144 = .ok (.bipush (-7), 2) := by decide +kernel
theorem dX9_takeBlock_146 : decode cX9_takeBlock 146 = .ok (.invokevirtual 225, 3) := by decide +kernel
theorem dX9_takeBlock_149 : decode cX9_takeBlock 149 = .ok (.pop, 1) := by decide +kernel
theorem dX9_takeBlock_150 : decode cX9_takeBlock 150 = .ok (.iconst 0, 1) := by decide +kernel
theorem dX9_takeBlock_151 : decode cX9_takeBlock 151 = .ok (.ireturn, 1) := by decide +kernel
theorem dX9_takeInode_0 : decode cX9_takeInode 0 = .ok (.iconst 0, 1) := by decide +kernel
theorem dX9_takeInode_1 : decode cX9_takeInode 1 = .ok (.istore_n 2, 1) := by decide +kernel
theorem dX9_takeInode_2 : decode cX9_takeInode 2 = .ok (.iload_n 2, 1) := by decide +kernel
theorem dX9_takeInode_3 : decode cX9_takeInode 3 = .ok (.bipush 8, 2) := by decide +kernel
theorem dX9_takeInode_5 : decode cX9_takeInode 5 = .ok (.if_icmp .ge 86, 3) := by decide +kernel
theorem dX9_takeInode_8 : decode cX9_takeInode 8 = .ok (.iload_n 1, 1) := by decide +kernel
theorem dX9_takeInode_9 : decode cX9_takeInode 9 = .ok (.iload_n 2, 1) := by decide +kernel
theorem dX9_takeInode_10 : decode cX9_takeInode 10 = .ok (.iadd, 1) := by decide +kernel
theorem dX9_takeInode_11 : decode cX9_takeInode 11 = .ok (.bipush 8, 2) := by decide +kernel
theorem dX9_takeInode_13 : decode cX9_takeInode 13 = .ok (.irem, 1) := by decide +kernel
theorem dX9_takeInode_14 : decode cX9_takeInode 14 = .ok (.istore_n 3, 1) := by decide +kernel
theorem dX9_takeInode_15 : decode cX9_takeInode 15 = .ok (.aload_n 0, 1) := by decide +kernel
theorem dX9_takeInode_16 : decode cX9_takeInode 16 = .ok (.iload_n 3, 1) := by decide +kernel
theorem dX9_takeInode_17 : decode cX9_takeInode 17 = .ok (.invokestatic 208, 3) := by decide +kernel
theorem dX9_takeInode_20 : decode cX9_takeInode 20 = .ok (.iconst 2, 1) := by decide +kernel
theorem dX9_takeInode_21 : decode cX9_takeInode 21 = .ok (.invokevirtual 211, 3) := by decide +kernel
theorem dX9_takeInode_24 : decode cX9_takeInode 24 = .ok (.ifCond .ne 5, 3) := by decide +kernel
theorem dX9_takeInode_27 : decode cX9_takeInode 27 = .ok (.iconst (-1), 1) := by decide +kernel
theorem dX9_takeInode_28 : decode cX9_takeInode 28 = .ok (.ireturn, 1) := by decide +kernel
theorem dX9_takeInode_29 : decode cX9_takeInode 29 = .ok (.aload_n 0, 1) := by decide +kernel
theorem dX9_takeInode_30 : decode cX9_takeInode 30 = .ok (.iload_n 3, 1) := by decide +kernel
theorem dX9_takeInode_31 : decode cX9_takeInode 31 = .ok (.invokestatic 214, 3) := by decide +kernel
theorem dX9_takeInode_34 : decode cX9_takeInode 34 = .ok (.iconst 0, 1) := by decide +kernel
theorem dX9_takeInode_35 : decode cX9_takeInode 35 = .ok (.invokevirtual 197, 3) := by decide +kernel
theorem dX9_takeInode_38 : decode cX9_takeInode 38 = .ok (.istore 4, 2) := by decide +kernel
theorem dX9_takeInode_40 : decode cX9_takeInode 40 = .ok (.iload 4, 2) := by decide +kernel
theorem dX9_takeInode_42 : decode cX9_takeInode 42 = .ok (.iconst (-1), 1) := by decide +kernel
theorem dX9_takeInode_43 : decode cX9_takeInode 43 = .ok (.ixor, 1) := by decide +kernel
theorem dX9_takeInode_44 : decode cX9_takeInode 44 = .ok (.ldc 228, 2) := by decide +kernel
theorem dX9_takeInode_46 : decode cX9_takeInode 46 = .ok (.iand, 1) := by decide +kernel
theorem dX9_takeInode_47 : decode cX9_takeInode 47 = .ok (.istore 5, 2) := by decide +kernel
theorem dX9_takeInode_49 : decode cX9_takeInode 49 = .ok (.iload 5, 2) := by decide +kernel
theorem dX9_takeInode_51 : decode cX9_takeInode 51 = .ok (.ifCond .eq 34, 3) := by decide +kernel
theorem dX9_takeInode_54 : decode cX9_takeInode 54 = .ok (.iload 5, 2) := by decide +kernel
theorem dX9_takeInode_56 : decode cX9_takeInode 56 = .ok (.invokestatic 217, 3) := by decide +kernel
theorem dX9_takeInode_59 : decode cX9_takeInode 59 = .ok (.istore 6, 2) := by decide +kernel
theorem dX9_takeInode_61 : decode cX9_takeInode 61 = .ok (.aload_n 0, 1) := by decide +kernel
theorem dX9_takeInode_62 : decode cX9_takeInode 62 = .ok (.iload_n 3, 1) := by decide +kernel
theorem dX9_takeInode_63 : decode cX9_takeInode 63 = .ok (.invokestatic 214, 3) := by decide +kernel
theorem dX9_takeInode_66 : decode cX9_takeInode 66 = .ok (.iconst 0, 1) := by decide +kernel
theorem dX9_takeInode_67 : decode cX9_takeInode 67 = .ok (.iload 4, 2) := by decide +kernel
theorem dX9_takeInode_69 : decode cX9_takeInode 69 = .ok (.iconst 1, 1) := by decide +kernel
theorem dX9_takeInode_70 : decode cX9_takeInode 70 = .ok (.iload 6, 2) := by decide +kernel
theorem dX9_takeInode_72 : decode cX9_takeInode 72 = .ok (.ishl, 1) := by decide +kernel
theorem dX9_takeInode_73 : decode cX9_takeInode 73 = .ok (.ior, 1) := by decide +kernel
theorem dX9_takeInode_74 : decode cX9_takeInode 74 = .ok (.invokevirtual 204, 3) := by decide +kernel
theorem dX9_takeInode_77 : decode cX9_takeInode 77 = .ok (.bipush 16, 2) := by decide +kernel
theorem dX9_takeInode_79 : decode cX9_takeInode 79 = .ok (.iload_n 3, 1) := by decide +kernel
theorem dX9_takeInode_80 : decode cX9_takeInode 80 = .ok (.imul, 1) := by decide +kernel
theorem dX9_takeInode_81 : decode cX9_takeInode 81 = .ok (.iload 6, 2) := by decide +kernel
theorem dX9_takeInode_83 : decode cX9_takeInode 83 = .ok (.iadd, 1) := by decide +kernel
theorem dX9_takeInode_84 : decode cX9_takeInode 84 = .ok (.ireturn, 1) := by decide +kernel
theorem dX9_takeInode_85 : decode cX9_takeInode 85 = .ok (.iinc 2 1, 3) := by decide +kernel
theorem dX9_takeInode_88 : decode cX9_takeInode 88 = .ok (.goto (-86), 3) := by decide +kernel
theorem dX9_takeInode_91 : decode cX9_takeInode 91 = .ok (.aload_n 0, 1) := by decide +kernel
theorem dX9_takeInode_92 : decode cX9_takeInode 92 = .ok (.bipush (-7), 2) := by decide +kernel
theorem dX9_takeInode_94 : decode cX9_takeInode 94 = .ok (.invokevirtual 225, 3) := by decide +kernel
theorem dX9_takeInode_97 : decode cX9_takeInode 97 = .ok (.pop, 1) := by decide +kernel
theorem dX9_takeInode_98 : decode cX9_takeInode 98 = .ok (.iconst (-1), 1) := by decide +kernel
theorem dX9_takeInode_99 : decode cX9_takeInode 99 = .ok (.ireturn, 1) := by decide +kernel
theorem dX9_giveBack_0 : decode cX9_giveBack 0 = .ok (.iload_n 1, 1) := by decide +kernel
theorem dX9_giveBack_1 : decode cX9_giveBack 1 = .ok (.invokestatic 229, 3) := by decide +kernel
theorem dX9_giveBack_4 : decode cX9_giveBack 4 = .ok (.ifCond .ne 5, 3) := by decide +kernel
theorem dX9_giveBack_7 : decode cX9_giveBack 7 = .ok (.iconst 1, 1) := by decide +kernel
theorem dX9_giveBack_8 : decode cX9_giveBack 8 = .ok (.ireturn, 1) := by decide +kernel
theorem dX9_giveBack_9 : decode cX9_giveBack 9 = .ok (.iload_n 1, 1) := by decide +kernel
theorem dX9_giveBack_10 : decode cX9_giveBack 10 = .ok (.invokestatic 232, 3) := by decide +kernel
theorem dX9_giveBack_13 : decode cX9_giveBack 13 = .ok (.istore_n 2, 1) := by decide +kernel
theorem dX9_giveBack_14 : decode cX9_giveBack 14 = .ok (.aload_n 0, 1) := by decide +kernel
theorem dX9_giveBack_15 : decode cX9_giveBack 15 = .ok (.iload_n 2, 1) := by decide +kernel
theorem dX9_giveBack_16 : decode cX9_giveBack 16 = .ok (.invokestatic 208, 3) := by decide +kernel
theorem dX9_giveBack_19 : decode cX9_giveBack 19 = .ok (.iconst 2, 1) := by decide +kernel
theorem dX9_giveBack_20 : decode cX9_giveBack 20 = .ok (.invokevirtual 211, 3) := by decide +kernel
theorem dX9_giveBack_23 : decode cX9_giveBack 23 = .ok (.ifCond .ne 5, 3) := by decide +kernel
theorem dX9_giveBack_26 : decode cX9_giveBack 26 = .ok (.iconst 0, 1) := by decide +kernel
theorem dX9_giveBack_27 : decode cX9_giveBack 27 = .ok (.ireturn, 1) := by decide +kernel
theorem dX9_giveBack_28 : decode cX9_giveBack 28 = .ok (.iload_n 1, 1) := by decide +kernel
theorem dX9_giveBack_29 : decode cX9_giveBack 29 = .ok (.invokestatic 235, 3) := by decide +kernel
theorem dX9_giveBack_32 : decode cX9_giveBack 32 = .ok (.istore_n 3, 1) := by decide +kernel
theorem dX9_giveBack_33 : decode cX9_giveBack 33 = .ok (.iconst 1, 1) := by decide +kernel
theorem dX9_giveBack_34 : decode cX9_giveBack 34 = .ok (.iload_n 3, 1) := by decide +kernel
theorem dX9_giveBack_35 : decode cX9_giveBack 35 = .ok (.bipush 32, 2) := by decide +kernel
theorem dX9_giveBack_37 : decode cX9_giveBack 37 = .ok (.idiv, 1) := by decide +kernel
theorem dX9_giveBack_38 : decode cX9_giveBack 38 = .ok (.iadd, 1) := by decide +kernel
theorem dX9_giveBack_39 : decode cX9_giveBack 39 = .ok (.istore 4, 2) := by decide +kernel
theorem dX9_giveBack_41 : decode cX9_giveBack 41 = .ok (.aload_n 0, 1) := by decide +kernel
theorem dX9_giveBack_42 : decode cX9_giveBack 42 = .ok (.iload_n 2, 1) := by decide +kernel
theorem dX9_giveBack_43 : decode cX9_giveBack 43 = .ok (.invokestatic 214, 3) := by decide +kernel
theorem dX9_giveBack_46 : decode cX9_giveBack 46 = .ok (.iload 4, 2) := by decide +kernel
theorem dX9_giveBack_48 : decode cX9_giveBack 48 = .ok (.aload_n 0, 1) := by decide +kernel
theorem dX9_giveBack_49 : decode cX9_giveBack 49 = .ok (.iload_n 2, 1) := by decide +kernel
theorem dX9_giveBack_50 : decode cX9_giveBack 50 = .ok (.invokestatic 214, 3) := by decide +kernel
theorem dX9_giveBack_53 : decode cX9_giveBack 53 = .ok (.iload 4, 2) := by decide +kernel
theorem dX9_giveBack_55 : decode cX9_giveBack 55 = .ok (.invokevirtual 197, 3) := by decide +kernel
theorem dX9_giveBack_58 : decode cX9_giveBack 58 = .ok (.iconst 1, 1) := by decide +kernel
theorem dX9_giveBack_59 : decode cX9_giveBack 59 = .ok (.iload_n 3, 1) := by decide +kernel
theorem dX9_giveBack_60 : decode cX9_giveBack 60 = .ok (.bipush 32, 2) := by decide +kernel
theorem dX9_giveBack_62 : decode cX9_giveBack 62 = .ok (.irem, 1) := by decide +kernel
theorem dX9_giveBack_63 : decode cX9_giveBack 63 = .ok (.ishl, 1) := by decide +kernel
theorem dX9_giveBack_64 : decode cX9_giveBack 64 = .ok (.iconst (-1), 1) := by decide +kernel
theorem dX9_giveBack_65 : decode cX9_giveBack 65 = .ok (.ixor, 1) := by decide +kernel
theorem dX9_giveBack_66 : decode cX9_giveBack 66 = .ok (.iand, 1) := by decide +kernel
theorem dX9_giveBack_67 : decode cX9_giveBack 67 = .ok (.invokevirtual 204, 3) := by decide +kernel
theorem dX9_giveBack_70 : decode cX9_giveBack 70 = .ok (.aload_n 0, 1) := by decide +kernel
theorem dX9_giveBack_71 : decode cX9_giveBack 71 = .ok (.getfield 131, 3) := by decide +kernel
theorem dX9_giveBack_74 : decode cX9_giveBack 74 = .ok (.bipush 32, 2) := by decide +kernel
theorem dX9_giveBack_76 : decode cX9_giveBack 76 = .ok (.if_icmp .ge 23, 3) := by decide +kernel
theorem dX9_giveBack_79 : decode cX9_giveBack 79 = .ok (.aload_n 0, 1) := by decide +kernel
theorem dX9_giveBack_80 : decode cX9_giveBack 80 = .ok (.getfield 25, 3) := by decide +kernel
theorem dX9_giveBack_83 : decode cX9_giveBack 83 = .ok (.aload_n 0, 1) := by decide +kernel
theorem dX9_giveBack_84 : decode cX9_giveBack 84 = .ok (.getfield 131, 3) := by decide +kernel
theorem dX9_giveBack_87 : decode cX9_giveBack 87 = .ok (.iload_n 1, 1) := by decide +kernel
theorem dX9_giveBack_88 : decode cX9_giveBack 88 = .ok (.iastore, 1) := by decide +kernel
theorem dX9_giveBack_89 : decode cX9_giveBack 89 = .ok (.aload_n 0, 1) := by decide +kernel
theorem dX9_giveBack_90 : decode cX9_giveBack 90 = .ok (.dup, 1) := by decide +kernel
theorem dX9_giveBack_91 : decode cX9_giveBack 91 = .ok (.getfield 131, 3) := by decide +kernel
theorem dX9_giveBack_94 : decode cX9_giveBack 94 = .ok (.iconst 1, 1) := by decide +kernel
theorem dX9_giveBack_95 : decode cX9_giveBack 95 = .ok (.iadd, 1) := by decide +kernel
theorem dX9_giveBack_96 : decode cX9_giveBack 96 = .ok (.putfield 131, 3) := by decide +kernel
theorem dX9_giveBack_99 : decode cX9_giveBack 99 = .ok (.iconst 1, 1) := by decide +kernel
theorem dX9_giveBack_100 : decode cX9_giveBack 100 = .ok (.ireturn, 1) := by decide +kernel
theorem dX9_givePlacesBack_0 : decode cX9_givePlacesBack 0 = .ok (.iload_n 2, 1) := by decide +kernel
theorem dX9_givePlacesBack_1 : decode cX9_givePlacesBack 1 = .ok (.istore 4, 2) := by decide +kernel
theorem dX9_givePlacesBack_3 : decode cX9_givePlacesBack 3 = .ok (.iload 4, 2) := by decide +kernel
theorem dX9_givePlacesBack_5 : decode cX9_givePlacesBack 5 = .ok (.iload_n 3, 1) := by decide +kernel
theorem dX9_givePlacesBack_6 : decode cX9_givePlacesBack 6 = .ok (.if_icmp .ge 42, 3) := by decide +kernel
theorem dX9_givePlacesBack_9 : decode cX9_givePlacesBack 9 = .ok (.aload_n 0, 1) := by decide +kernel
theorem dX9_givePlacesBack_10 : decode cX9_givePlacesBack 10 = .ok (.iload_n 1, 1) := by decide +kernel
theorem dX9_givePlacesBack_11 : decode cX9_givePlacesBack 11 = .ok (.iload 4, 2) := by decide +kernel
theorem dX9_givePlacesBack_13 : decode cX9_givePlacesBack 13 = .ok (.invokevirtual 197, 3) := by decide +kernel
theorem dX9_givePlacesBack_16 : decode cX9_givePlacesBack 16 = .ok (.istore 5, 2) := by decide +kernel
theorem dX9_givePlacesBack_18 : decode cX9_givePlacesBack 18 = .ok (.iload 5, 2) := by decide +kernel
theorem dX9_givePlacesBack_20 : decode cX9_givePlacesBack 20 = .ok (.ifCond .eq 22, 3) := by decide +kernel
theorem dX9_givePlacesBack_23 : decode cX9_givePlacesBack 23 = .ok (.aload_n 0, 1) := by decide +kernel
theorem dX9_givePlacesBack_24 : decode cX9_givePlacesBack 24 = .ok (.iload 5, 2) := by decide +kernel
theorem dX9_givePlacesBack_26 : decode cX9_givePlacesBack 26 = .ok (.invokevirtual 238, 3) := by decide +kernel
theorem dX9_givePlacesBack_29 : decode cX9_givePlacesBack 29 = .ok (.ifCond .ne 5, 3) := by decide +kernel
theorem dX9_givePlacesBack_32 : decode cX9_givePlacesBack 32 = .ok (.iconst 0, 1) := by decide +kernel
theorem dX9_givePlacesBack_33 : decode cX9_givePlacesBack 33 = .ok (.ireturn, 1) := by decide +kernel
theorem dX9_givePlacesBack_34 : decode cX9_givePlacesBack 34 = .ok (.aload_n 0, 1) := by decide +kernel
theorem dX9_givePlacesBack_35 : decode cX9_givePlacesBack 35 = .ok (.iload_n 1, 1) := by decide +kernel
theorem dX9_givePlacesBack_36 : decode cX9_givePlacesBack 36 = .ok (.iload 4, 2) := by decide +kernel
theorem dX9_givePlacesBack_38 : decode cX9_givePlacesBack 38 = .ok (.iconst 0, 1) := by decide +kernel
theorem dX9_givePlacesBack_39 : decode cX9_givePlacesBack 39 = .ok (.invokevirtual 204, 3) := by decide +kernel
theorem dX9_givePlacesBack_42 : decode cX9_givePlacesBack 42 = .ok (.iinc 4 1, 3) := by decide +kernel
theorem dX9_givePlacesBack_45 : decode cX9_givePlacesBack 45 = .ok (.goto (-42), 3) := by decide +kernel
theorem dX9_givePlacesBack_48 : decode cX9_givePlacesBack 48 = .ok (.iconst 1, 1) := by decide +kernel
theorem dX9_givePlacesBack_49 : decode cX9_givePlacesBack 49 = .ok (.ireturn, 1) := by decide +kernel
theorem dX9_giveInodeBack_0 : decode cX9_giveInodeBack 0 = .ok (.iload_n 1, 1) := by decide +kernel
theorem dX9_giveInodeBack_1 : decode cX9_giveInodeBack 1 = .ok (.invokestatic 193, 3) := by decide +kernel
theorem dX9_giveInodeBack_4 : decode cX9_giveInodeBack 4 = .ok (.istore_n 2, 1) := by decide +kernel
theorem dX9_giveInodeBack_5 : decode cX9_giveInodeBack 5 = .ok (.aload_n 0, 1) := by decide +kernel
theorem dX9_giveInodeBack_6 : decode cX9_giveInodeBack 6 = .ok (.iload_n 2, 1) := by decide +kernel
theorem dX9_giveInodeBack_7 : decode cX9_giveInodeBack 7 = .ok (.iconst 3, 1) := by decide +kernel
theorem dX9_giveInodeBack_8 : decode cX9_giveInodeBack 8 = .ok (.bipush 11, 2) := by decide +kernel
theorem dX9_giveInodeBack_10 : decode cX9_giveInodeBack 10 = .ok (.invokevirtual 241, 3) := by decide +kernel
theorem dX9_giveInodeBack_13 : decode cX9_giveInodeBack 13 = .ok (.ifCond .ne 4, 3) := by decide +kernel
theorem dX9_giveInodeBack_16 : decode cX9_giveInodeBack 16 = .ok (.return_, 1) := by decide +kernel
theorem dX9_giveInodeBack_17 : decode cX9_giveInodeBack 17 = .ok (.aload_n 0, 1) := by decide +kernel
theorem dX9_giveInodeBack_18 : decode cX9_giveInodeBack 18 = .ok (.iload_n 2, 1) := by decide +kernel
theorem dX9_giveInodeBack_19 : decode cX9_giveInodeBack 19 = .ok (.bipush 11, 2) := by decide +kernel
theorem dX9_giveInodeBack_21 : decode cX9_giveInodeBack 21 = .ok (.invokevirtual 197, 3) := by decide +kernel
theorem dX9_giveInodeBack_24 : decode cX9_giveInodeBack 24 = .ok (.istore_n 3, 1) := by decide +kernel
theorem dX9_giveInodeBack_25 : decode cX9_giveInodeBack 25 = .ok (.iload_n 3, 1) := by decide +kernel
theorem dX9_giveInodeBack_26 : decode cX9_giveInodeBack 26 = .ok (.ifCond .eq 23, 3) := by decide +kernel
theorem dX9_giveInodeBack_29 : decode cX9_giveInodeBack 29 = .ok (.aload_n 0, 1) := by decide +kernel
theorem dX9_giveInodeBack_30 : decode cX9_giveInodeBack 30 = .ok (.iload_n 3, 1) := by decide +kernel
theorem dX9_giveInodeBack_31 : decode cX9_giveInodeBack 31 = .ok (.iconst 0, 1) := by decide +kernel
theorem dX9_giveInodeBack_32 : decode cX9_giveInodeBack 32 = .ok (.bipush 16, 2) := by decide +kernel
theorem dX9_giveInodeBack_34 : decode cX9_giveInodeBack 34 = .ok (.invokevirtual 241, 3) := by decide +kernel
theorem dX9_giveInodeBack_37 : decode cX9_giveInodeBack 37 = .ok (.ifCond .eq 11, 3) := by decide +kernel
theorem dX9_giveInodeBack_40 : decode cX9_giveInodeBack 40 = .ok (.aload_n 0, 1) := by decide +kernel
theorem dX9_giveInodeBack_41 : decode cX9_giveInodeBack 41 = .ok (.iload_n 3, 1) := by decide +kernel
theorem dX9_giveInodeBack_42 : decode cX9_giveInodeBack 42 = .ok (.invokevirtual 238, 3) := by decide +kernel
theorem dX9_giveInodeBack_45 : decode cX9_giveInodeBack 45 = .ok (.ifCond .ne 4, 3) := by decide +kernel
theorem dX9_giveInodeBack_48 : decode cX9_giveInodeBack 48 = .ok (.return_, 1) := by decide +kernel
theorem dX9_giveInodeBack_49 : decode cX9_giveInodeBack 49 = .ok (.iload_n 1, 1) := by decide +kernel
theorem dX9_giveInodeBack_50 : decode cX9_giveInodeBack 50 = .ok (.bipush 16, 2) := by decide +kernel
theorem dX9_giveInodeBack_52 : decode cX9_giveInodeBack 52 = .ok (.idiv, 1) := by decide +kernel
theorem dX9_giveInodeBack_53 : decode cX9_giveInodeBack 53 = .ok (.istore 4, 2) := by decide +kernel
theorem dX9_giveInodeBack_55 : decode cX9_giveInodeBack 55 = .ok (.aload_n 0, 1) := by decide +kernel
theorem dX9_giveInodeBack_56 : decode cX9_giveInodeBack 56 = .ok (.iload 4, 2) := by decide +kernel
theorem dX9_giveInodeBack_58 : decode cX9_giveInodeBack 58 = .ok (.invokestatic 208, 3) := by decide +kernel
theorem dX9_giveInodeBack_61 : decode cX9_giveInodeBack 61 = .ok (.iconst 2, 1) := by decide +kernel
theorem dX9_giveInodeBack_62 : decode cX9_giveInodeBack 62 = .ok (.invokevirtual 211, 3) := by decide +kernel
theorem dX9_giveInodeBack_65 : decode cX9_giveInodeBack 65 = .ok (.ifCond .eq 37, 3) := by decide +kernel
theorem dX9_giveInodeBack_68 : decode cX9_giveInodeBack 68 = .ok (.aload_n 0, 1) := by decide +kernel
theorem dX9_giveInodeBack_69 : decode cX9_giveInodeBack 69 = .ok (.iload 4, 2) := by decide +kernel
theorem dX9_giveInodeBack_71 : decode cX9_giveInodeBack 71 = .ok (.invokestatic 214, 3) := by decide +kernel
theorem dX9_giveInodeBack_74 : decode cX9_giveInodeBack 74 = .ok (.iconst 0, 1) := by decide +kernel
theorem dX9_giveInodeBack_75 : decode cX9_giveInodeBack 75 = .ok (.aload_n 0, 1) := by decide +kernel
theorem dX9_giveInodeBack_76 : decode cX9_giveInodeBack 76 = .ok (.iload 4, 2) := by decide +kernel
theorem dX9_giveInodeBack_78 : decode cX9_giveInodeBack 78 = .ok (.invokestatic 214, 3) := by decide +kernel
theorem dX9_giveInodeBack_81 : decode cX9_giveInodeBack 81 = .ok (.iconst 0, 1) := by decide +kernel
theorem dX9_giveInodeBack_82 : decode cX9_giveInodeBack 82 = .ok (.invokevirtual 197, 3) := by decide +kernel
theorem dX9_giveInodeBack_85 : decode cX9_giveInodeBack 85 = .ok (.iconst 1, 1) := by decide +kernel
theorem dX9_giveInodeBack_86 : decode cX9_giveInodeBack 86 = .ok (.iload_n 1, 1) := by decide +kernel
theorem dX9_giveInodeBack_87 : decode cX9_giveInodeBack 87 = .ok (.bipush 16, 2) := by decide +kernel
theorem dX9_giveInodeBack_89 : decode cX9_giveInodeBack 89 = .ok (.irem, 1) := by decide +kernel
theorem dX9_giveInodeBack_90 : decode cX9_giveInodeBack 90 = .ok (.ishl, 1) := by decide +kernel
theorem dX9_giveInodeBack_91 : decode cX9_giveInodeBack 91 = .ok (.iconst (-1), 1) := by decide +kernel
theorem dX9_giveInodeBack_92 : decode cX9_giveInodeBack 92 = .ok (.ixor, 1) := by decide +kernel
theorem dX9_giveInodeBack_93 : decode cX9_giveInodeBack 93 = .ok (.iand, 1) := by decide +kernel
theorem dX9_giveInodeBack_94 : decode cX9_giveInodeBack 94 = .ok (.invokevirtual 204, 3) := by decide +kernel
theorem dX9_giveInodeBack_97 : decode cX9_giveInodeBack 97 = .ok (.aload_n 0, 1) := by decide +kernel
theorem dX9_giveInodeBack_98 : decode cX9_giveInodeBack 98 = .ok (.iload_n 2, 1) := by decide +kernel
theorem dX9_giveInodeBack_99 : decode cX9_giveInodeBack 99 = .ok (.invokevirtual 222, 3) := by decide +kernel
theorem dX9_giveInodeBack_102 : decode cX9_giveInodeBack 102 = .ok (.return_, 1) := by decide +kernel
theorem dX9_meetDirectory_0 : decode cX9_meetDirectory 0 = .ok (.aload_n 0, 1) := by decide +kernel
theorem dX9_meetDirectory_1 : decode cX9_meetDirectory 1 = .ok (.iload_n 1, 1) := by decide +kernel
theorem dX9_meetDirectory_2 : decode cX9_meetDirectory 2 = .ok (.iload_n 2, 1) := by decide +kernel
theorem dX9_meetDirectory_3 : decode cX9_meetDirectory 3 = .ok (.invokevirtual 211, 3) := by decide +kernel
theorem dX9_meetDirectory_6 : decode cX9_meetDirectory 6 = .ok (.ifCond .eq 29, 3) := by decide +kernel
theorem dX9_meetDirectory_9 : decode cX9_meetDirectory 9 = .ok (.aload_n 0, 1) := by decide +kernel
theorem dX9_meetDirectory_10 : decode cX9_meetDirectory 10 = .ok (.iload_n 1, 1) := by decide +kernel
theorem dX9_meetDirectory_11 : decode cX9_meetDirectory 11 = .ok (.invokestatic 193, 3) := by decide +kernel
theorem dX9_meetDirectory_14 : decode cX9_meetDirectory 14 = .ok (.iconst 0, 1) := by decide +kernel
theorem dX9_meetDirectory_15 : decode cX9_meetDirectory 15 = .ok (.invokevirtual 197, 3) := by decide +kernel
theorem dX9_meetDirectory_18 : decode cX9_meetDirectory 18 = .ok (.iconst 2, 1) := by decide +kernel
theorem dX9_meetDirectory_19 : decode cX9_meetDirectory 19 = .ok (.if_icmp .eq 12, 3) := by decide +kernel
theorem dX9_meetDirectory_22 : decode cX9_meetDirectory 22 = .ok (.aload_n 0, 1) := by decide +kernel
theorem dX9_meetDirectory_23 : decode cX9_meetDirectory 23 = .ok (.bipush (-2), 2) := by decide +kernel
theorem dX9_meetDirectory_25 : decode cX9_meetDirectory 25 = .ok (.invokevirtual 225, 3) := by decide +kernel
theorem dX9_meetDirectory_28 : decode cX9_meetDirectory 28 = .ok (.ifCond .eq 7, 3) := by decide +kernel
theorem dX9_meetDirectory_31 : decode cX9_meetDirectory 31 = .ok (.iconst 1, 1) := by decide +kernel
theorem dX9_meetDirectory_32 : decode cX9_meetDirectory 32 = .ok (.goto 4, 3) := by decide +kernel
theorem dX9_meetDirectory_35 : decode cX9_meetDirectory 35 = .ok (.iconst 0, 1) := by decide +kernel
theorem dX9_meetDirectory_36 : decode cX9_meetDirectory 36 = .ok (.ireturn, 1) := by decide +kernel
theorem dX9_meetFile_0 : decode cX9_meetFile 0 = .ok (.aload_n 0, 1) := by decide +kernel
theorem dX9_meetFile_1 : decode cX9_meetFile 1 = .ok (.iload_n 1, 1) := by decide +kernel
theorem dX9_meetFile_2 : decode cX9_meetFile 2 = .ok (.iload_n 2, 1) := by decide +kernel
theorem dX9_meetFile_3 : decode cX9_meetFile 3 = .ok (.invokevirtual 211, 3) := by decide +kernel
theorem dX9_meetFile_6 : decode cX9_meetFile 6 = .ok (.ifCond .eq 29, 3) := by decide +kernel
theorem dX9_meetFile_9 : decode cX9_meetFile 9 = .ok (.aload_n 0, 1) := by decide +kernel
theorem dX9_meetFile_10 : decode cX9_meetFile 10 = .ok (.iload_n 1, 1) := by decide +kernel
theorem dX9_meetFile_11 : decode cX9_meetFile 11 = .ok (.invokestatic 193, 3) := by decide +kernel
theorem dX9_meetFile_14 : decode cX9_meetFile 14 = .ok (.iconst 0, 1) := by decide +kernel
theorem dX9_meetFile_15 : decode cX9_meetFile 15 = .ok (.invokevirtual 197, 3) := by decide +kernel
theorem dX9_meetFile_18 : decode cX9_meetFile 18 = .ok (.iconst 1, 1) := by decide +kernel
theorem dX9_meetFile_19 : decode cX9_meetFile 19 = .ok (.if_icmp .eq 12, 3) := by decide +kernel
theorem dX9_meetFile_22 : decode cX9_meetFile 22 = .ok (.aload_n 0, 1) := by decide +kernel
theorem dX9_meetFile_23 : decode cX9_meetFile 23 = .ok (.bipush (-4), 2) := by decide +kernel
theorem dX9_meetFile_25 : decode cX9_meetFile 25 = .ok (.invokevirtual 225, 3) := by decide +kernel
theorem dX9_meetFile_28 : decode cX9_meetFile 28 = .ok (.ifCond .eq 7, 3) := by decide +kernel
theorem dX9_meetFile_31 : decode cX9_meetFile 31 = .ok (.iconst 1, 1) := by decide +kernel
theorem dX9_meetFile_32 : decode cX9_meetFile 32 = .ok (.goto 4, 3) := by decide +kernel
theorem dX9_meetFile_35 : decode cX9_meetFile 35 = .ok (.iconst 0, 1) := by decide +kernel
theorem dX9_meetFile_36 : decode cX9_meetFile 36 = .ok (.ireturn, 1) := by decide +kernel
theorem dX9_sizeOf_0 : decode cX9_sizeOf 0 = .ok (.iconst 0, 1) := by decide +kernel
theorem dX9_sizeOf_1 : decode cX9_sizeOf 1 = .ok (.sipush 384, 3) := by decide +kernel
theorem dX9_sizeOf_4 : decode cX9_sizeOf 4 = .ok (.aload_n 0, 1) := by decide +kernel
theorem dX9_sizeOf_5 : decode cX9_sizeOf 5 = .ok (.iload_n 1, 1) := by decide +kernel
theorem dX9_sizeOf_6 : decode cX9_sizeOf 6 = .ok (.invokestatic 193, 3) := by decide +kernel
theorem dX9_sizeOf_9 : decode cX9_sizeOf 9 = .ok (.iconst 2, 1) := by decide +kernel
theorem dX9_sizeOf_10 : decode cX9_sizeOf 10 = .ok (.invokevirtual 197, 3) := by decide +kernel
theorem dX9_sizeOf_13 : decode cX9_sizeOf 13 = .ok (.invokestatic 245, 3) := by decide +kernel
theorem dX9_sizeOf_16 : decode cX9_sizeOf 16 = .ok (.invokestatic 250, 3) := by decide +kernel
theorem dX9_sizeOf_19 : decode cX9_sizeOf 19 = .ok (.ireturn, 1) := by decide +kernel
theorem dX9_find_0 : decode cX9_find 0 = .ok (.aload_n 0, 1) := by decide +kernel
theorem dX9_find_1 : decode cX9_find 1 = .ok (.iload_n 1, 1) := by decide +kernel
theorem dX9_find_2 : decode cX9_find 2 = .ok (.invokevirtual 253, 3) := by decide +kernel
theorem dX9_find_5 : decode cX9_find 5 = .ok (.istore_n 3, 1) := by decide +kernel
theorem dX9_find_6 : decode cX9_find 6 = .ok (.iconst 0, 1) := by decide +kernel
theorem dX9_find_7 : decode cX9_find 7 = .ok (.istore 4, 2) := by decide +kernel
theorem dX9_find_9 : decode cX9_find 9 = .ok (.iload 4, 2) := by decide +kernel
theorem dX9_find_11 : decode cX9_find 11 = .ok (.iload_n 3, 1) := by decide +kernel
theorem dX9_find_12 : decode cX9_find 12 = .ok (.if_icmp .ge 76, 3) := by decide +kernel
theorem dX9_find_15 : decode cX9_find 15 = .ok (.aload_n 0, 1) := by decide +kernel
theorem dX9_find_16 : decode cX9_find 16 = .ok (.iload_n 1, 1) := by decide +kernel
theorem dX9_find_17 : decode cX9_find 17 = .ok (.iload 4, 2) := by decide +kernel
theorem dX9_find_19 : decode cX9_find 19 = .ok (.invokevirtual 256, 3) := by decide +kernel
theorem dX9_find_22 : decode cX9_find 22 = .ok (.istore 5, 2) := by decide +kernel
theorem dX9_find_24 : decode cX9_find 24 = .ok (.bipush 16, 2) := by decide +kernel
theorem dX9_find_26 : decode cX9_find 26 = .ok (.iload_n 3, 1) := by decide +kernel
theorem dX9_find_27 : decode cX9_find 27 = .ok (.iload 4, 2) := by decide +kernel
theorem dX9_find_29 : decode cX9_find 29 = .ok (.isub, 1) := by decide +kernel
theorem dX9_find_30 : decode cX9_find 30 = .ok (.invokestatic 245, 3) := by decide +kernel
theorem dX9_find_33 : decode cX9_find 33 = .ok (.istore 6, 2) := by decide +kernel
theorem dX9_find_35 : decode cX9_find 35 = .ok (.iconst 0, 1) := by decide +kernel
theorem dX9_find_36 : decode cX9_find 36 = .ok (.istore 7, 2) := by decide +kernel
theorem dX9_find_38 : decode cX9_find 38 = .ok (.iload 7, 2) := by decide +kernel
theorem dX9_find_40 : decode cX9_find 40 = .ok (.iload 6, 2) := by decide +kernel
theorem dX9_find_42 : decode cX9_find 42 = .ok (.if_icmp .ge 40, 3) := by decide +kernel
theorem dX9_find_45 : decode cX9_find 45 = .ok (.iload 5, 2) := by decide +kernel
theorem dX9_find_47 : decode cX9_find 47 = .ok (.ifCond .ne 7, 3) := by decide +kernel
theorem dX9_find_50 : decode cX9_find 50 = .ok (.iconst 0, 1) := by decide +kernel
theorem dX9_find_51 : decode cX9_find 51 = .ok (.goto 11, 3) := by decide +kernel
theorem dX9_find_54 : decode cX9_find 54 = .ok (.aload_n 0, 1) := by decide +kernel
theorem dX9_find_55 : decode cX9_find 55 = .ok (.iload 5, 2) := by decide +kernel
theorem dX9_find_57 : decode cX9_find 57 = .ok (.iload 7, 2) := by decide +kernel
theorem dX9_find_59 : decode cX9_find 59 = .ok (.invokevirtual 197, 3) := by decide +kernel
theorem dX9_find_62 : decode cX9_find 62 = .ok (.istore 8, 2) := by decide +kernel
theorem dX9_find_64 : decode cX9_find 64 = .ok (.iload 8, 2) := by decide +kernel
theorem dX9_find_66 : decode cX9_find 66 = .ok (.iload_n 2, 1) := by decide +kernel
theorem dX9_find_67 : decode cX9_find 67 = .ok (.if_icmp .ne 9, 3) := by decide +kernel
theorem dX9_find_70 : decode cX9_find 70 = .ok (.iload 4, 2) := by decide +kernel
theorem dX9_find_72 : decode cX9_find 72 = .ok (.iload 7, 2) := by decide +kernel
theorem dX9_find_74 : decode cX9_find 74 = .ok (.iadd, 1) := by decide +kernel
theorem dX9_find_75 : decode cX9_find 75 = .ok (.ireturn, 1) := by decide +kernel
theorem dX9_find_76 : decode cX9_find 76 = .ok (.iinc 7 2, 3) := by decide +kernel
theorem dX9_find_79 : decode cX9_find 79 = .ok (.goto (-41), 3) := by decide +kernel
theorem dX9_find_82 : decode cX9_find 82 = .ok (.iinc 4 16, 3) := by decide +kernel
theorem dX9_find_85 : decode cX9_find 85 = .ok (.goto (-76), 3) := by decide +kernel
theorem dX9_find_88 : decode cX9_find 88 = .ok (.iconst (-1), 1) := by decide +kernel
theorem dX9_find_89 : decode cX9_find 89 = .ok (.ireturn, 1) := by decide +kernel
theorem dX9_nameOf_0 : decode cX9_nameOf 0 = .ok (.aload_n 0, 1) := by decide +kernel
theorem dX9_nameOf_1 : decode cX9_nameOf 1 = .ok (.iload_n 1, 1) := by decide +kernel
theorem dX9_nameOf_2 : decode cX9_nameOf 2 = .ok (.invokevirtual 253, 3) := by decide +kernel
theorem dX9_nameOf_5 : decode cX9_nameOf 5 = .ok (.istore_n 3, 1) := by decide +kernel
theorem dX9_nameOf_6 : decode cX9_nameOf 6 = .ok (.aload_n 0, 1) := by decide +kernel
theorem dX9_nameOf_7 : decode cX9_nameOf 7 = .ok (.iconst 0, 1) := by decide +kernel
theorem dX9_nameOf_8 : decode cX9_nameOf 8 = .ok (.putfield 45, 3) := by decide +kernel
theorem dX9_nameOf_11 : decode cX9_nameOf 11 = .ok (.iconst 0, 1) := by decide +kernel
theorem dX9_nameOf_12 : decode cX9_nameOf 12 = .ok (.istore 4, 2) := by decide +kernel
theorem dX9_nameOf_14 : decode cX9_nameOf 14 = .ok (.iload 4, 2) := by decide +kernel
theorem dX9_nameOf_16 : decode cX9_nameOf 16 = .ok (.iload_n 3, 1) := by decide +kernel
theorem dX9_nameOf_17 : decode cX9_nameOf 17 = .ok (.if_icmp .ge 99, 3) := by decide +kernel
theorem dX9_nameOf_20 : decode cX9_nameOf 20 = .ok (.aload_n 0, 1) := by decide +kernel
theorem dX9_nameOf_21 : decode cX9_nameOf 21 = .ok (.iload_n 1, 1) := by decide +kernel
theorem dX9_nameOf_22 : decode cX9_nameOf 22 = .ok (.iload 4, 2) := by decide +kernel
theorem dX9_nameOf_24 : decode cX9_nameOf 24 = .ok (.invokevirtual 256, 3) := by decide +kernel
theorem dX9_nameOf_27 : decode cX9_nameOf 27 = .ok (.istore 5, 2) := by decide +kernel
theorem dX9_nameOf_29 : decode cX9_nameOf 29 = .ok (.iload 5, 2) := by decide +kernel
theorem dX9_nameOf_31 : decode cX9_nameOf 31 = .ok (.ifCond .ne 7, 3) := by decide +kernel
theorem dX9_nameOf_34 : decode cX9_nameOf 34 = .ok (.iconst 0, 1) := by decide +kernel
theorem dX9_nameOf_35 : decode cX9_nameOf 35 = .ok (.goto 12, 3) := by decide +kernel
theorem dX9_nameOf_38 : decode cX9_nameOf 38 = .ok (.bipush 16, 2) := by decide +kernel
theorem dX9_nameOf_40 : decode cX9_nameOf 40 = .ok (.iload_n 3, 1) := by decide +kernel
theorem dX9_nameOf_41 : decode cX9_nameOf 41 = .ok (.iload 4, 2) := by decide +kernel
theorem dX9_nameOf_43 : decode cX9_nameOf 43 = .ok (.isub, 1) := by decide +kernel
theorem dX9_nameOf_44 : decode cX9_nameOf 44 = .ok (.invokestatic 245, 3) := by decide +kernel
theorem dX9_nameOf_47 : decode cX9_nameOf 47 = .ok (.istore 6, 2) := by decide +kernel
theorem dX9_nameOf_49 : decode cX9_nameOf 49 = .ok (.iconst 0, 1) := by decide +kernel
theorem dX9_nameOf_50 : decode cX9_nameOf 50 = .ok (.istore 7, 2) := by decide +kernel
theorem dX9_nameOf_52 : decode cX9_nameOf 52 = .ok (.iload 7, 2) := by decide +kernel
theorem dX9_nameOf_54 : decode cX9_nameOf 54 = .ok (.iload 6, 2) := by decide +kernel
theorem dX9_nameOf_56 : decode cX9_nameOf 56 = .ok (.if_icmp .ge 54, 3) := by decide +kernel
theorem dX9_nameOf_59 : decode cX9_nameOf 59 = .ok (.aload_n 0, 1) := by decide +kernel
theorem dX9_nameOf_60 : decode cX9_nameOf 60 = .ok (.iload 5, 2) := by decide +kernel
theorem dX9_nameOf_62 : decode cX9_nameOf 62 = .ok (.iload 7, 2) := by decide +kernel
theorem dX9_nameOf_64 : decode cX9_nameOf 64 = .ok (.invokevirtual 197, 3) := by decide +kernel
theorem dX9_nameOf_67 : decode cX9_nameOf 67 = .ok (.istore 8, 2) := by decide +kernel
theorem dX9_nameOf_69 : decode cX9_nameOf 69 = .ok (.iload 8, 2) := by decide +kernel
theorem dX9_nameOf_71 : decode cX9_nameOf 71 = .ok (.ifCond .eq 14, 3) := by decide +kernel
theorem dX9_nameOf_74 : decode cX9_nameOf 74 = .ok (.aload_n 0, 1) := by decide +kernel
theorem dX9_nameOf_75 : decode cX9_nameOf 75 = .ok (.getfield 45, 3) := by decide +kernel
theorem dX9_nameOf_78 : decode cX9_nameOf 78 = .ok (.iload_n 2, 1) := by decide +kernel
theorem dX9_nameOf_79 : decode cX9_nameOf 79 = .ok (.if_icmp .ne 6, 3) := by decide +kernel
theorem dX9_nameOf_82 : decode cX9_nameOf 82 = .ok (.iload 8, 2) := by decide +kernel
theorem dX9_nameOf_84 : decode cX9_nameOf 84 = .ok (.ireturn, 1) := by decide +kernel
theorem dX9_nameOf_85 : decode cX9_nameOf 85 = .ok (.aload_n 0, 1) := by decide +kernel
theorem dX9_nameOf_86 : decode cX9_nameOf 86 = .ok (.dup, 1) := by decide +kernel
theorem dX9_nameOf_87 : decode cX9_nameOf 87 = .ok (.getfield 45, 3) := by decide +kernel
theorem dX9_nameOf_90 : decode cX9_nameOf 90 = .ok (.iload 8, 2) := by decide +kernel
theorem dX9_nameOf_92 : decode cX9_nameOf 92 = .ok (.ifCond .eq 7, 3) := by decide +kernel
theorem dX9_nameOf_95 : decode cX9_nameOf 95 = .ok (.iconst 1, 1) := by decide +kernel
theorem dX9_nameOf_96 : decode cX9_nameOf 96 = .ok (.goto 4, 3) := by decide +kernel
theorem dX9_nameOf_99 : decode cX9_nameOf 99 = .ok (.iconst 0, 1) := by decide +kernel
theorem dX9_nameOf_100 : decode cX9_nameOf 100 = .ok (.iadd, 1) := by decide +kernel
theorem dX9_nameOf_101 : decode cX9_nameOf 101 = .ok (.putfield 45, 3) := by decide +kernel
theorem dX9_nameOf_104 : decode cX9_nameOf 104 = .ok (.iinc 7 2, 3) := by decide +kernel
theorem dX9_nameOf_107 : decode cX9_nameOf 107 = .ok (.goto (-55), 3) := by decide +kernel
theorem dX9_nameOf_110 : decode cX9_nameOf 110 = .ok (.iinc 4 16, 3) := by decide +kernel
theorem dX9_nameOf_113 : decode cX9_nameOf 113 = .ok (.goto (-99), 3) := by decide +kernel
theorem dX9_nameOf_116 : decode cX9_nameOf 116 = .ok (.iconst 0, 1) := by decide +kernel
theorem dX9_nameOf_117 : decode cX9_nameOf 117 = .ok (.ireturn, 1) := by decide +kernel
theorem dX9_inodeAt_0 : decode cX9_inodeAt 0 = .ok (.aload_n 0, 1) := by decide +kernel
theorem dX9_inodeAt_1 : decode cX9_inodeAt 1 = .ok (.aload_n 0, 1) := by decide +kernel
theorem dX9_inodeAt_2 : decode cX9_inodeAt 2 = .ok (.iload_n 1, 1) := by decide +kernel
theorem dX9_inodeAt_3 : decode cX9_inodeAt 3 = .ok (.iload_n 2, 1) := by decide +kernel
theorem dX9_inodeAt_4 : decode cX9_inodeAt 4 = .ok (.invokevirtual 256, 3) := by decide +kernel
theorem dX9_inodeAt_7 : decode cX9_inodeAt 7 = .ok (.iload_n 2, 1) := by decide +kernel
theorem dX9_inodeAt_8 : decode cX9_inodeAt 8 = .ok (.bipush 16, 2) := by decide +kernel
theorem dX9_inodeAt_10 : decode cX9_inodeAt 10 = .ok (.irem, 1) := by decide +kernel
theorem dX9_inodeAt_11 : decode cX9_inodeAt 11 = .ok (.iconst 1, 1) := by decide +kernel
theorem dX9_inodeAt_12 : decode cX9_inodeAt 12 = .ok (.iadd, 1) := by decide +kernel
theorem dX9_inodeAt_13 : decode cX9_inodeAt 13 = .ok (.invokevirtual 197, 3) := by decide +kernel
theorem dX9_inodeAt_16 : decode cX9_inodeAt 16 = .ok (.ireturn, 1) := by decide +kernel
theorem dX9_eraseEntry_0 : decode cX9_eraseEntry 0 = .ok (.aload_n 0, 1) := by decide +kernel
theorem dX9_eraseEntry_1 : decode cX9_eraseEntry 1 = .ok (.iload_n 1, 1) := by decide +kernel
theorem dX9_eraseEntry_2 : decode cX9_eraseEntry 2 = .ok (.iload_n 2, 1) := by decide +kernel
theorem dX9_eraseEntry_3 : decode cX9_eraseEntry 3 = .ok (.invokevirtual 256, 3) := by decide +kernel
theorem dX9_eraseEntry_6 : decode cX9_eraseEntry 6 = .ok (.istore_n 3, 1) := by decide +kernel
theorem dX9_eraseEntry_7 : decode cX9_eraseEntry 7 = .ok (.aload_n 0, 1) := by decide +kernel
theorem dX9_eraseEntry_8 : decode cX9_eraseEntry 8 = .ok (.iload_n 3, 1) := by decide +kernel
theorem dX9_eraseEntry_9 : decode cX9_eraseEntry 9 = .ok (.iload_n 2, 1) := by decide +kernel
theorem dX9_eraseEntry_10 : decode cX9_eraseEntry 10 = .ok (.bipush 16, 2) := by decide +kernel
theorem dX9_eraseEntry_12 : decode cX9_eraseEntry 12 = .ok (.irem, 1) := by decide +kernel
theorem dX9_eraseEntry_13 : decode cX9_eraseEntry 13 = .ok (.iconst 0, 1) := by decide +kernel
theorem dX9_eraseEntry_14 : decode cX9_eraseEntry 14 = .ok (.invokevirtual 204, 3) := by decide +kernel
theorem dX9_eraseEntry_17 : decode cX9_eraseEntry 17 = .ok (.aload_n 0, 1) := by decide +kernel
theorem dX9_eraseEntry_18 : decode cX9_eraseEntry 18 = .ok (.iload_n 3, 1) := by decide +kernel
theorem dX9_eraseEntry_19 : decode cX9_eraseEntry 19 = .ok (.iload_n 2, 1) := by decide +kernel
theorem dX9_eraseEntry_20 : decode cX9_eraseEntry 20 = .ok (.bipush 16, 2) := by decide +kernel
theorem dX9_eraseEntry_22 : decode cX9_eraseEntry 22 = .ok (.irem, 1) := by decide +kernel
theorem dX9_eraseEntry_23 : decode cX9_eraseEntry 23 = .ok (.iconst 1, 1) := by decide +kernel
theorem dX9_eraseEntry_24 : decode cX9_eraseEntry 24 = .ok (.iadd, 1) := by decide +kernel
theorem dX9_eraseEntry_25 : decode cX9_eraseEntry 25 = .ok (.iconst 0, 1) := by decide +kernel
theorem dX9_eraseEntry_26 : decode cX9_eraseEntry 26 = .ok (.invokevirtual 204, 3) := by decide +kernel
theorem dX9_eraseEntry_29 : decode cX9_eraseEntry 29 = .ok (.return_, 1) := by decide +kernel
theorem dX9_putNext_0 : decode cX9_putNext 0 = .ok (.aload_n 0, 1) := by decide +kernel
theorem dX9_putNext_1 : decode cX9_putNext 1 = .ok (.iload_n 1, 1) := by decide +kernel
theorem dX9_putNext_2 : decode cX9_putNext 2 = .ok (.putfield 48, 3) := by decide +kernel
theorem dX9_putNext_5 : decode cX9_putNext 5 = .ok (.aload_n 0, 1) := by decide +kernel
theorem dX9_putNext_6 : decode cX9_putNext 6 = .ok (.iload_n 2, 1) := by decide +kernel
theorem dX9_putNext_7 : decode cX9_putNext 7 = .ok (.putfield 259, 3) := by decide +kernel
theorem dX9_putNext_10 : decode cX9_putNext 10 = .ok (.aload_n 0, 1) := by decide +kernel
theorem dX9_putNext_11 : decode cX9_putNext 11 = .ok (.iload_n 3, 1) := by decide +kernel
theorem dX9_putNext_12 : decode cX9_putNext 12 = .ok (.putfield 262, 3) := by decide +kernel
theorem dX9_putNext_15 : decode cX9_putNext 15 = .ok (.aload_n 0, 1) := by decide +kernel
theorem dX9_putNext_16 : decode cX9_putNext 16 = .ok (.iload 4, 2) := by decide +kernel
theorem dX9_putNext_18 : decode cX9_putNext 18 = .ok (.putfield 45, 3) := by decide +kernel
theorem dX9_putNext_21 : decode cX9_putNext 21 = .ok (.return_, 1) := by decide +kernel
theorem dX9_putEntry_0 : decode cX9_putEntry 0 = .ok (.aload_n 0, 1) := by decide +kernel
theorem dX9_putEntry_1 : decode cX9_putEntry 1 = .ok (.aload_n 0, 1) := by decide +kernel
theorem dX9_putEntry_2 : decode cX9_putEntry 2 = .ok (.getfield 48, 3) := by decide +kernel
theorem dX9_putEntry_5 : decode cX9_putEntry 5 = .ok (.iconst 0, 1) := by decide +kernel
theorem dX9_putEntry_6 : decode cX9_putEntry 6 = .ok (.invokevirtual 265, 3) := by decide +kernel
theorem dX9_putEntry_9 : decode cX9_putEntry 9 = .ok (.istore_n 1, 1) := by decide +kernel
theorem dX9_putEntry_10 : decode cX9_putEntry 10 = .ok (.iload_n 1, 1) := by decide +kernel
theorem dX9_putEntry_11 : decode cX9_putEntry 11 = .ok (.iconst (-1), 1) := by decide +kernel
theorem dX9_putEntry_12 : decode cX9_putEntry 12 = .ok (.if_icmp .ne 7, 3) := by decide +kernel
theorem dX9_putEntry_15 : decode cX9_putEntry 15 = .ok (.iconst 1, 1) := by decide +kernel
theorem dX9_putEntry_16 : decode cX9_putEntry 16 = .ok (.goto 4, 3) := by decide +kernel
theorem dX9_putEntry_19 : decode cX9_putEntry 19 = .ok (.iconst 0, 1) := by decide +kernel
theorem dX9_putEntry_20 : decode cX9_putEntry 20 = .ok (.istore_n 2, 1) := by decide +kernel
theorem dX9_putEntry_21 : decode cX9_putEntry 21 = .ok (.iload_n 2, 1) := by decide +kernel
theorem dX9_putEntry_22 : decode cX9_putEntry 22 = .ok (.ifCond .eq 12, 3) := by decide +kernel
theorem dX9_putEntry_25 : decode cX9_putEntry 25 = .ok (.aload_n 0, 1) := by decide +kernel
theorem dX9_putEntry_26 : decode cX9_putEntry 26 = .ok (.aload_n 0, 1) := by decide +kernel
theorem dX9_putEntry_27 : decode cX9_putEntry 27 = .ok (.getfield 48, 3) := by decide +kernel
theorem dX9_putEntry_30 : decode cX9_putEntry 30 = .ok (.invokevirtual 253, 3) := by decide +kernel
theorem dX9_putEntry_33 : decode cX9_putEntry 33 = .ok (.istore_n 1, 1) := by decide +kernel
theorem dX9_putEntry_34 : decode cX9_putEntry 34 = .ok (.iload_n 1, 1) := by decide +kernel
theorem dX9_putEntry_35 : decode cX9_putEntry 35 = .ok (.sipush 384, 3) := by decide +kernel
theorem dX9_putEntry_38 : decode cX9_putEntry 38 = .ok (.if_icmp .lt 11, 3) := by decide +kernel
theorem dX9_putEntry_41 : decode cX9_putEntry 41 = .ok (.aload_n 0, 1) := by decide +kernel
theorem dX9_putEntry_42 : decode cX9_putEntry 42 = .ok (.bipush (-7), 2) := by decide +kernel
theorem dX9_putEntry_44 : decode cX9_putEntry 44 = .ok (.invokevirtual 225, 3) := by decide +kernel
theorem dX9_putEntry_47 : decode cX9_putEntry 47 = .ok (.pop, 1) := by decide +kernel
theorem dX9_putEntry_48 : decode cX9_putEntry 48 = .ok (.return_, 1) := by decide +kernel
theorem dX9_putEntry_49 : decode cX9_putEntry 49 = .ok (.aload_n 0, 1) := by decide +kernel
theorem dX9_putEntry_50 : decode cX9_putEntry 50 = .ok (.aload_n 0, 1) := by decide +kernel
theorem dX9_putEntry_51 : decode cX9_putEntry 51 = .ok (.getfield 48, 3) := by decide +kernel
theorem dX9_putEntry_54 : decode cX9_putEntry 54 = .ok (.iload_n 1, 1) := by decide +kernel
theorem dX9_putEntry_55 : decode cX9_putEntry 55 = .ok (.invokevirtual 268, 3) := by decide +kernel
theorem dX9_putEntry_58 : decode cX9_putEntry 58 = .ok (.istore_n 3, 1) := by decide +kernel
theorem dX9_putEntry_59 : decode cX9_putEntry 59 = .ok (.iload_n 3, 1) := by decide +kernel
theorem dX9_putEntry_60 : decode cX9_putEntry 60 = .ok (.ifCond .ne 4, 3) := by decide +kernel
theorem dX9_putEntry_63 : decode cX9_putEntry 63 = .ok (.return_, 1) := by decide +kernel
theorem dX9_putEntry_64 : decode cX9_putEntry 64 = .ok (.aload_n 0, 1) := by decide +kernel
theorem dX9_putEntry_65 : decode cX9_putEntry 65 = .ok (.iload_n 3, 1) := by decide +kernel
theorem dX9_putEntry_66 : decode cX9_putEntry 66 = .ok (.iload_n 1, 1) := by decide +kernel
theorem dX9_putEntry_67 : decode cX9_putEntry 67 = .ok (.bipush 16, 2) := by decide +kernel
theorem dX9_putEntry_69 : decode cX9_putEntry 69 = .ok (.irem, 1) := by decide +kernel
theorem dX9_putEntry_70 : decode cX9_putEntry 70 = .ok (.aload_n 0, 1) := by decide +kernel
theorem dX9_putEntry_71 : decode cX9_putEntry 71 = .ok (.getfield 259, 3) := by decide +kernel
theorem dX9_putEntry_74 : decode cX9_putEntry 74 = .ok (.invokevirtual 204, 3) := by decide +kernel
theorem dX9_putEntry_77 : decode cX9_putEntry 77 = .ok (.aload_n 0, 1) := by decide +kernel
theorem dX9_putEntry_78 : decode cX9_putEntry 78 = .ok (.iload_n 3, 1) := by decide +kernel
theorem dX9_putEntry_79 : decode cX9_putEntry 79 = .ok (.iload_n 1, 1) := by decide +kernel
theorem dX9_putEntry_80 : decode cX9_putEntry 80 = .ok (.bipush 16, 2) := by decide +kernel
theorem dX9_putEntry_82 : decode cX9_putEntry 82 = .ok (.irem, 1) := by decide +kernel
theorem dX9_putEntry_83 : decode cX9_putEntry 83 = .ok (.iconst 1, 1) := by decide +kernel
theorem dX9_putEntry_84 : decode cX9_putEntry 84 = .ok (.iadd, 1) := by decide +kernel
theorem dX9_putEntry_85 : decode cX9_putEntry 85 = .ok (.aload_n 0, 1) := by decide +kernel
theorem dX9_putEntry_86 : decode cX9_putEntry 86 = .ok (.getfield 262, 3) := by decide +kernel
theorem dX9_putEntry_89 : decode cX9_putEntry 89 = .ok (.invokevirtual 204, 3) := by decide +kernel
theorem dX9_putEntry_92 : decode cX9_putEntry 92 = .ok (.iload_n 2, 1) := by decide +kernel
theorem dX9_putEntry_93 : decode cX9_putEntry 93 = .ok (.ifCond .eq 18, 3) := by decide +kernel
theorem dX9_putEntry_96 : decode cX9_putEntry 96 = .ok (.aload_n 0, 1) := by decide +kernel
theorem dX9_putEntry_97 : decode cX9_putEntry 97 = .ok (.aload_n 0, 1) := by decide +kernel
theorem dX9_putEntry_98 : decode cX9_putEntry 98 = .ok (.getfield 48, 3) := by decide +kernel
theorem dX9_putEntry_101 : decode cX9_putEntry 101 = .ok (.invokestatic 193, 3) := by decide +kernel
theorem dX9_putEntry_104 : decode cX9_putEntry 104 = .ok (.iconst 2, 1) := by decide +kernel
theorem dX9_putEntry_105 : decode cX9_putEntry 105 = .ok (.iload_n 1, 1) := by decide +kernel
theorem dX9_putEntry_106 : decode cX9_putEntry 106 = .ok (.iconst 2, 1) := by decide +kernel
theorem dX9_putEntry_107 : decode cX9_putEntry 107 = .ok (.iadd, 1) := by decide +kernel
theorem dX9_putEntry_108 : decode cX9_putEntry 108 = .ok (.invokevirtual 204, 3) := by decide +kernel
theorem dX9_putEntry_111 : decode cX9_putEntry 111 = .ok (.return_, 1) := by decide +kernel
theorem dX9_seek_0 : decode cX9_seek 0 = .ok (.aload_n 0, 1) := by decide +kernel
theorem dX9_seek_1 : decode cX9_seek 1 = .ok (.aload_n 1, 1) := by decide +kernel
theorem dX9_seek_2 : decode cX9_seek 2 = .ok (.getfield 271, 3) := by decide +kernel
theorem dX9_seek_5 : decode cX9_seek 5 = .ok (.iconst 1, 1) := by decide +kernel
theorem dX9_seek_6 : decode cX9_seek 6 = .ok (.invokevirtual 274, 3) := by decide +kernel
theorem dX9_seek_9 : decode cX9_seek 9 = .ok (.ifCond .ne 4, 3) := by decide +kernel
theorem dX9_seek_12 : decode cX9_seek 12 = .ok (.return_, 1) := by decide +kernel
theorem dX9_seek_13 : decode cX9_seek 13 = .ok (.aload_n 0, 1) := by decide +kernel
theorem dX9_seek_14 : decode cX9_seek 14 = .ok (.aload_n 1, 1) := by decide +kernel
theorem dX9_seek_15 : decode cX9_seek 15 = .ok (.getfield 271, 3) := by decide +kernel
theorem dX9_seek_18 : decode cX9_seek 18 = .ok (.aload_n 1, 1) := by decide +kernel
theorem dX9_seek_19 : decode cX9_seek 19 = .ok (.getfield 277, 3) := by decide +kernel
theorem dX9_seek_22 : decode cX9_seek 22 = .ok (.invokevirtual 265, 3) := by decide +kernel
theorem dX9_seek_25 : decode cX9_seek 25 = .ok (.istore_n 2, 1) := by decide +kernel
theorem dX9_seek_26 : decode cX9_seek 26 = .ok (.iload_n 2, 1) := by decide +kernel
theorem dX9_seek_27 : decode cX9_seek 27 = .ok (.iconst (-1), 1) := by decide +kernel
theorem dX9_seek_28 : decode cX9_seek 28 = .ok (.if_icmp .ne 11, 3) := by decide +kernel
theorem dX9_seek_31 : decode cX9_seek 31 = .ok (.aload_n 0, 1) := by decide +kernel
theorem dX9_seek_32 : decode cX9_seek 32 = .ok (.bipush (-3), 2) := by decide +kernel
theorem dX9_seek_34 : decode cX9_seek 34 = .ok (.invokevirtual 225, 3) := by decide +kernel
theorem dX9_seek_37 : decode cX9_seek 37 = .ok (.pop, 1) := by decide +kernel
theorem dX9_seek_38 : decode cX9_seek 38 = .ok (.return_, 1) := by decide +kernel
theorem dX9_seek_39 : decode cX9_seek 39 = .ok (.aload_n 0, 1) := by decide +kernel
theorem dX9_seek_40 : decode cX9_seek 40 = .ok (.aload_n 0, 1) := by decide +kernel
theorem dX9_seek_41 : decode cX9_seek 41 = .ok (.aload_n 1, 1) := by decide +kernel
theorem dX9_seek_42 : decode cX9_seek 42 = .ok (.getfield 271, 3) := by decide +kernel
theorem dX9_seek_45 : decode cX9_seek 45 = .ok (.iload_n 2, 1) := by decide +kernel
theorem dX9_seek_46 : decode cX9_seek 46 = .ok (.invokevirtual 280, 3) := by decide +kernel
theorem dX9_seek_49 : decode cX9_seek 49 = .ok (.invokevirtual 283, 3) := by decide +kernel
theorem dX9_seek_52 : decode cX9_seek 52 = .ok (.return_, 1) := by decide +kernel
theorem dX9_make_0 : decode cX9_make 0 = .ok (.aload_n 0, 1) := by decide +kernel
theorem dX9_make_1 : decode cX9_make 1 = .ok (.aload_n 1, 1) := by decide +kernel
theorem dX9_make_2 : decode cX9_make 2 = .ok (.getfield 271, 3) := by decide +kernel
theorem dX9_make_5 : decode cX9_make 5 = .ok (.iconst 2, 1) := by decide +kernel
theorem dX9_make_6 : decode cX9_make 6 = .ok (.invokevirtual 274, 3) := by decide +kernel
theorem dX9_make_9 : decode cX9_make 9 = .ok (.ifCond .ne 4, 3) := by decide +kernel
theorem dX9_make_12 : decode cX9_make 12 = .ok (.return_, 1) := by decide +kernel
theorem dX9_make_13 : decode cX9_make 13 = .ok (.aload_n 0, 1) := by decide +kernel
theorem dX9_make_14 : decode cX9_make 14 = .ok (.aload_n 1, 1) := by decide +kernel
theorem dX9_make_15 : decode cX9_make 15 = .ok (.getfield 271, 3) := by decide +kernel
theorem dX9_make_18 : decode cX9_make 18 = .ok (.aload_n 1, 1) := by decide +kernel
theorem dX9_make_19 : decode cX9_make 19 = .ok (.getfield 277, 3) := by decide +kernel
theorem dX9_make_22 : decode cX9_make 22 = .ok (.invokevirtual 265, 3) := by decide +kernel
theorem dX9_make_25 : decode cX9_make 25 = .ok (.iconst (-1), 1) := by decide +kernel
theorem dX9_make_26 : decode cX9_make 26 = .ok (.if_icmp .eq 11, 3) := by decide +kernel
theorem dX9_make_29 : decode cX9_make 29 = .ok (.aload_n 0, 1) := by decide +kernel
theorem dX9_make_30 : decode cX9_make 30 = .ok (.bipush (-6), 2) := by decide +kernel
theorem dX9_make_32 : decode cX9_make 32 = .ok (.invokevirtual 225, 3) := by decide +kernel
theorem dX9_make_35 : decode cX9_make 35 = .ok (.pop, 1) := by decide +kernel
theorem dX9_make_36 : decode cX9_make 36 = .ok (.return_, 1) := by decide +kernel
theorem dX9_make_37 : decode cX9_make 37 = .ok (.aload_n 0, 1) := by decide +kernel
theorem dX9_make_38 : decode cX9_make 38 = .ok (.aload_n 1, 1) := by decide +kernel
theorem dX9_make_39 : decode cX9_make 39 = .ok (.getfield 271, 3) := by decide +kernel
theorem dX9_make_42 : decode cX9_make 42 = .ok (.bipush 16, 2) := by decide +kernel
theorem dX9_make_44 : decode cX9_make 44 = .ok (.idiv, 1) := by decide +kernel
theorem dX9_make_45 : decode cX9_make 45 = .ok (.invokevirtual 286, 3) := by decide +kernel
theorem dX9_make_48 : decode cX9_make 48 = .ok (.istore_n 2, 1) := by decide +kernel
theorem dX9_make_49 : decode cX9_make 49 = .ok (.iload_n 2, 1) := by decide +kernel
theorem dX9_make_50 : decode cX9_make 50 = .ok (.invokestatic 96, 3) := by decide +kernel
theorem dX9_make_53 : decode cX9_make 53 = .ok (.ifCond .eq 12, 3) := by decide +kernel
theorem dX9_make_56 : decode cX9_make 56 = .ok (.aload_n 0, 1) := by decide +kernel
theorem dX9_make_57 : decode cX9_make 57 = .ok (.iload_n 2, 1) := by decide +kernel
theorem dX9_make_58 : decode cX9_make 58 = .ok (.iconst 2, 1) := by decide +kernel
theorem dX9_make_59 : decode cX9_make 59 = .ok (.invokevirtual 211, 3) := by decide +kernel
theorem dX9_make_62 : decode cX9_make 62 = .ok (.ifCond .ne 4, 3) := by decide +kernel
theorem dX9_make_65 : decode cX9_make 65 = .ok (.return_, 1) := by decide +kernel
theorem dX9_make_66 : decode cX9_make 66 = .ok (.aload_n 0, 1) := by decide +kernel
theorem dX9_make_67 : decode cX9_make 67 = .ok (.iload_n 2, 1) := by decide +kernel
theorem dX9_make_68 : decode cX9_make 68 = .ok (.invokestatic 193, 3) := by decide +kernel
theorem dX9_make_71 : decode cX9_make 71 = .ok (.invokevirtual 222, 3) := by decide +kernel
theorem dX9_make_74 : decode cX9_make 74 = .ok (.aload_n 0, 1) := by decide +kernel
theorem dX9_make_75 : decode cX9_make 75 = .ok (.iload_n 2, 1) := by decide +kernel
theorem dX9_make_76 : decode cX9_make 76 = .ok (.invokestatic 193, 3) := by decide +kernel
theorem dX9_make_79 : decode cX9_make 79 = .ok (.iconst 0, 1) := by decide +kernel
theorem dX9_make_80 : decode cX9_make 80 = .ok (.aload_n 1, 1) := by decide +kernel
theorem dX9_make_81 : decode cX9_make 81 = .ok (.getfield 289, 3) := by decide +kernel
theorem dX9_make_84 : decode cX9_make 84 = .ok (.invokevirtual 204, 3) := by decide +kernel
theorem dX9_make_87 : decode cX9_make 87 = .ok (.aload_n 0, 1) := by decide +kernel
theorem dX9_make_88 : decode cX9_make 88 = .ok (.iload_n 2, 1) := by decide +kernel
theorem dX9_make_89 : decode cX9_make 89 = .ok (.invokestatic 193, 3) := by decide +kernel
theorem dX9_make_92 : decode cX9_make 92 = .ok (.iconst 1, 1) := by decide +kernel
theorem dX9_make_93 : decode cX9_make 93 = .ok (.iconst 1, 1) := by decide +kernel
theorem dX9_make_94 : decode cX9_make 94 = .ok (.invokevirtual 204, 3) := by decide +kernel
theorem dX9_make_97 : decode cX9_make 97 = .ok (.aload_n 0, 1) := by decide +kernel
theorem dX9_make_98 : decode cX9_make 98 = .ok (.aload_n 1, 1) := by decide +kernel
theorem dX9_make_99 : decode cX9_make 99 = .ok (.getfield 271, 3) := by decide +kernel
theorem dX9_make_102 : decode cX9_make 102 = .ok (.aload_n 1, 1) := by decide +kernel
theorem dX9_make_103 : decode cX9_make 103 = .ok (.getfield 277, 3) := by decide +kernel
theorem dX9_make_106 : decode cX9_make 106 = .ok (.iload_n 2, 1) := by decide +kernel
theorem dX9_make_107 : decode cX9_make 107 = .ok (.iload_n 2, 1) := by decide +kernel
theorem dX9_make_108 : decode cX9_make 108 = .ok (.invokevirtual 292, 3) := by decide +kernel
theorem dX9_make_111 : decode cX9_make 111 = .ok (.return_, 1) := by decide +kernel
theorem dX9_remove_0 : decode cX9_remove 0 = .ok (.aload_n 0, 1) := by decide +kernel
theorem dX9_remove_1 : decode cX9_remove 1 = .ok (.aload_n 1, 1) := by decide +kernel
theorem dX9_remove_2 : decode cX9_remove 2 = .ok (.getfield 271, 3) := by decide +kernel
theorem dX9_remove_5 : decode cX9_remove 5 = .ok (.iconst 2, 1) := by decide +kernel
theorem dX9_remove_6 : decode cX9_remove 6 = .ok (.invokevirtual 274, 3) := by decide +kernel
theorem dX9_remove_9 : decode cX9_remove 9 = .ok (.ifCond .ne 4, 3) := by decide +kernel
theorem dX9_remove_12 : decode cX9_remove 12 = .ok (.return_, 1) := by decide +kernel
theorem dX9_remove_13 : decode cX9_remove 13 = .ok (.aload_n 0, 1) := by decide +kernel
theorem dX9_remove_14 : decode cX9_remove 14 = .ok (.aload_n 1, 1) := by decide +kernel
theorem dX9_remove_15 : decode cX9_remove 15 = .ok (.getfield 271, 3) := by decide +kernel
theorem dX9_remove_18 : decode cX9_remove 18 = .ok (.aload_n 1, 1) := by decide +kernel
theorem dX9_remove_19 : decode cX9_remove 19 = .ok (.getfield 277, 3) := by decide +kernel
theorem dX9_remove_22 : decode cX9_remove 22 = .ok (.invokevirtual 265, 3) := by decide +kernel
theorem dX9_remove_25 : decode cX9_remove 25 = .ok (.istore_n 2, 1) := by decide +kernel
theorem dX9_remove_26 : decode cX9_remove 26 = .ok (.iload_n 2, 1) := by decide +kernel
theorem dX9_remove_27 : decode cX9_remove 27 = .ok (.iconst (-1), 1) := by decide +kernel
theorem dX9_remove_28 : decode cX9_remove 28 = .ok (.if_icmp .ne 7, 3) := by decide +kernel
theorem dX9_remove_31 : decode cX9_remove 31 = .ok (.iconst (-1), 1) := by decide +kernel
theorem dX9_remove_32 : decode cX9_remove 32 = .ok (.goto 12, 3) := by decide +kernel
theorem dX9_remove_35 : decode cX9_remove 35 = .ok (.aload_n 0, 1) := by decide +kernel
theorem dX9_remove_36 : decode cX9_remove 36 = .ok (.aload_n 1, 1) := by decide +kernel
theorem dX9_remove_37 : decode cX9_remove 37 = .ok (.getfield 271, 3) := by decide +kernel
theorem dX9_remove_40 : decode cX9_remove 40 = .ok (.iload_n 2, 1) := by decide +kernel
theorem dX9_remove_41 : decode cX9_remove 41 = .ok (.invokevirtual 280, 3) := by decide +kernel
theorem dX9_remove_44 : decode cX9_remove 44 = .ok (.istore_n 3, 1) := by decide +kernel
theorem dX9_remove_45 : decode cX9_remove 45 = .ok (.iload_n 3, 1) := by decide +kernel
theorem dX9_remove_46 : decode cX9_remove 46 = .ok (.invokestatic 96, 3) := by decide +kernel
theorem dX9_remove_49 : decode cX9_remove 49 = .ok (.ifCond .ne 11, 3) := by decide +kernel
theorem dX9_remove_52 : decode cX9_remove 52 = .ok (.aload_n 0, 1) := by decide +kernel
theorem dX9_remove_53 : decode cX9_remove 53 = .ok (.bipush (-3), 2) := by decide +kernel
theorem dX9_remove_55 : decode cX9_remove 55 = .ok (.invokevirtual 225, 3) := by decide +kernel
theorem dX9_remove_58 : decode cX9_remove 58 = .ok (.pop, 1) := by decide +kernel
theorem dX9_remove_59 : decode cX9_remove 59 = .ok (.return_, 1) := by decide +kernel
theorem dX9_remove_60 : decode cX9_remove 60 = .ok (.aload_n 0, 1) := by decide +kernel
theorem dX9_remove_61 : decode cX9_remove 61 = .ok (.iload_n 3, 1) := by decide +kernel
theorem dX9_remove_62 : decode cX9_remove 62 = .ok (.iconst 2, 1) := by decide +kernel
theorem dX9_remove_63 : decode cX9_remove 63 = .ok (.invokevirtual 211, 3) := by decide +kernel
theorem dX9_remove_66 : decode cX9_remove 66 = .ok (.ifCond .ne 4, 3) := by decide +kernel
theorem dX9_remove_69 : decode cX9_remove 69 = .ok (.return_, 1) := by decide +kernel
theorem dX9_remove_70 : decode cX9_remove 70 = .ok (.iload_n 3, 1) := by decide +kernel
theorem dX9_remove_71 : decode cX9_remove 71 = .ok (.invokestatic 193, 3) := by decide +kernel
theorem dX9_remove_74 : decode cX9_remove 74 = .ok (.istore 4, 2) := by decide +kernel
theorem dX9_remove_76 : decode cX9_remove 76 = .ok (.aload_n 0, 1) := by decide +kernel
theorem dX9_remove_77 : decode cX9_remove 77 = .ok (.iload 4, 2) := by decide +kernel
theorem dX9_remove_79 : decode cX9_remove 79 = .ok (.iconst 0, 1) := by decide +kernel
theorem dX9_remove_80 : decode cX9_remove 80 = .ok (.invokevirtual 197, 3) := by decide +kernel
theorem dX9_remove_83 : decode cX9_remove 83 = .ok (.iconst 2, 1) := by decide +kernel
theorem dX9_remove_84 : decode cX9_remove 84 = .ok (.if_icmp .ne 20, 3) := by decide +kernel
theorem dX9_remove_87 : decode cX9_remove 87 = .ok (.aload_n 0, 1) := by decide +kernel
theorem dX9_remove_88 : decode cX9_remove 88 = .ok (.iload_n 3, 1) := by decide +kernel
theorem dX9_remove_89 : decode cX9_remove 89 = .ok (.iconst 0, 1) := by decide +kernel
theorem dX9_remove_90 : decode cX9_remove 90 = .ok (.invokevirtual 296, 3) := by decide +kernel
theorem dX9_remove_93 : decode cX9_remove 93 = .ok (.ifCond .eq 11, 3) := by decide +kernel
theorem dX9_remove_96 : decode cX9_remove 96 = .ok (.aload_n 0, 1) := by decide +kernel
theorem dX9_remove_97 : decode cX9_remove 97 = .ok (.bipush (-8), 2) := by decide +kernel
theorem dX9_remove_99 : decode cX9_remove 99 = .ok (.invokevirtual 225, 3) := by decide +kernel
theorem dX9_remove_102 : decode cX9_remove 102 = .ok (.pop, 1) := by decide +kernel
theorem dX9_remove_103 : decode cX9_remove 103 = .ok (.return_, 1) := by decide +kernel
theorem dX9_remove_104 : decode cX9_remove 104 = .ok (.aload_n 0, 1) := by decide +kernel
theorem dX9_remove_105 : decode cX9_remove 105 = .ok (.aload_n 1, 1) := by decide +kernel
theorem dX9_remove_106 : decode cX9_remove 106 = .ok (.getfield 271, 3) := by decide +kernel
theorem dX9_remove_109 : decode cX9_remove 109 = .ok (.iload_n 2, 1) := by decide +kernel
theorem dX9_remove_110 : decode cX9_remove 110 = .ok (.invokevirtual 299, 3) := by decide +kernel
theorem dX9_remove_113 : decode cX9_remove 113 = .ok (.aload_n 0, 1) := by decide +kernel
theorem dX9_remove_114 : decode cX9_remove 114 = .ok (.iload 4, 2) := by decide +kernel
theorem dX9_remove_116 : decode cX9_remove 116 = .ok (.iconst 1, 1) := by decide +kernel
theorem dX9_remove_117 : decode cX9_remove 117 = .ok (.invokevirtual 197, 3) := by decide +kernel
theorem dX9_remove_120 : decode cX9_remove 120 = .ok (.iconst 1, 1) := by decide +kernel
theorem dX9_remove_121 : decode cX9_remove 121 = .ok (.isub, 1) := by decide +kernel
theorem dX9_remove_122 : decode cX9_remove 122 = .ok (.istore 5, 2) := by decide +kernel
theorem dX9_remove_124 : decode cX9_remove 124 = .ok (.aload_n 0, 1) := by decide +kernel
theorem dX9_remove_125 : decode cX9_remove 125 = .ok (.iload 4, 2) := by decide +kernel
theorem dX9_remove_127 : decode cX9_remove 127 = .ok (.iconst 1, 1) := by decide +kernel
theorem dX9_remove_128 : decode cX9_remove 128 = .ok (.iload 5, 2) := by decide +kernel
theorem dX9_remove_130 : decode cX9_remove 130 = .ok (.invokevirtual 204, 3) := by decide +kernel
theorem dX9_remove_133 : decode cX9_remove 133 = .ok (.aload_n 0, 1) := by decide +kernel
theorem dX9_remove_134 : decode cX9_remove 134 = .ok (.iconst 0, 1) := by decide +kernel
theorem dX9_remove_135 : decode cX9_remove 135 = .ok (.putfield 45, 3) := by decide +kernel
theorem dX9_remove_138 : decode cX9_remove 138 = .ok (.aload_n 0, 1) := by decide +kernel
theorem dX9_remove_139 : decode cX9_remove 139 = .ok (.iload 5, 2) := by decide +kernel
theorem dX9_remove_141 : decode cX9_remove 141 = .ok (.ifCond .ne 7, 3) := by decide +kernel
theorem dX9_remove_144 : decode cX9_remove 144 = .ok (.iload_n 3, 1) := by decide +kernel
theorem dX9_remove_145 : decode cX9_remove 145 = .ok (.goto 4, 3) := by decide +kernel
theorem dX9_remove_148 : decode cX9_remove 148 = .ok (.iconst (-1), 1) := by decide +kernel
theorem dX9_remove_149 : decode cX9_remove 149 = .ok (.putfield 51, 3) := by decide +kernel
theorem dX9_remove_152 : decode cX9_remove 152 = .ok (.return_, 1) := by decide +kernel
theorem dX9_link_0 : decode cX9_link 0 = .ok (.aload_n 0, 1) := by decide +kernel
theorem dX9_link_1 : decode cX9_link 1 = .ok (.aload_n 1, 1) := by decide +kernel
theorem dX9_link_2 : decode cX9_link 2 = .ok (.getfield 271, 3) := by decide +kernel
theorem dX9_link_5 : decode cX9_link 5 = .ok (.iconst 2, 1) := by decide +kernel
theorem dX9_link_6 : decode cX9_link 6 = .ok (.invokevirtual 274, 3) := by decide +kernel
theorem dX9_link_9 : decode cX9_link 9 = .ok (.ifCond .ne 4, 3) := by decide +kernel
theorem dX9_link_12 : decode cX9_link 12 = .ok (.return_, 1) := by decide +kernel
theorem dX9_link_13 : decode cX9_link 13 = .ok (.aload_n 0, 1) := by decide +kernel
theorem dX9_link_14 : decode cX9_link 14 = .ok (.aload_n 1, 1) := by decide +kernel
theorem dX9_link_15 : decode cX9_link 15 = .ok (.getfield 271, 3) := by decide +kernel
theorem dX9_link_18 : decode cX9_link 18 = .ok (.aload_n 1, 1) := by decide +kernel
theorem dX9_link_19 : decode cX9_link 19 = .ok (.getfield 277, 3) := by decide +kernel
theorem dX9_link_22 : decode cX9_link 22 = .ok (.invokevirtual 265, 3) := by decide +kernel
theorem dX9_link_25 : decode cX9_link 25 = .ok (.iconst (-1), 1) := by decide +kernel
theorem dX9_link_26 : decode cX9_link 26 = .ok (.if_icmp .eq 11, 3) := by decide +kernel
theorem dX9_link_29 : decode cX9_link 29 = .ok (.aload_n 0, 1) := by decide +kernel
theorem dX9_link_30 : decode cX9_link 30 = .ok (.bipush (-6), 2) := by decide +kernel
theorem dX9_link_32 : decode cX9_link 32 = .ok (.invokevirtual 225, 3) := by decide +kernel
theorem dX9_link_35 : decode cX9_link 35 = .ok (.pop, 1) := by decide +kernel
theorem dX9_link_36 : decode cX9_link 36 = .ok (.return_, 1) := by decide +kernel
theorem dX9_link_37 : decode cX9_link 37 = .ok (.aload_n 0, 1) := by decide +kernel
theorem dX9_link_38 : decode cX9_link 38 = .ok (.aload_n 1, 1) := by decide +kernel
theorem dX9_link_39 : decode cX9_link 39 = .ok (.getfield 289, 3) := by decide +kernel
theorem dX9_link_42 : decode cX9_link 42 = .ok (.iconst 2, 1) := by decide +kernel
theorem dX9_link_43 : decode cX9_link 43 = .ok (.invokevirtual 303, 3) := by decide +kernel
theorem dX9_link_46 : decode cX9_link 46 = .ok (.ifCond .ne 4, 3) := by decide +kernel
theorem dX9_link_49 : decode cX9_link 49 = .ok (.return_, 1) := by decide +kernel
theorem dX9_link_50 : decode cX9_link 50 = .ok (.aload_n 0, 1) := by decide +kernel
theorem dX9_link_51 : decode cX9_link 51 = .ok (.aload_n 1, 1) := by decide +kernel
theorem dX9_link_52 : decode cX9_link 52 = .ok (.getfield 289, 3) := by decide +kernel
theorem dX9_link_55 : decode cX9_link 55 = .ok (.invokestatic 193, 3) := by decide +kernel
theorem dX9_link_58 : decode cX9_link 58 = .ok (.iconst 1, 1) := by decide +kernel
theorem dX9_link_59 : decode cX9_link 59 = .ok (.invokevirtual 197, 3) := by decide +kernel
theorem dX9_link_62 : decode cX9_link 62 = .ok (.iconst 1, 1) := by decide +kernel
theorem dX9_link_63 : decode cX9_link 63 = .ok (.iadd, 1) := by decide +kernel
theorem dX9_link_64 : decode cX9_link 64 = .ok (.istore_n 2, 1) := by decide +kernel
theorem dX9_link_65 : decode cX9_link 65 = .ok (.aload_n 0, 1) := by decide +kernel
theorem dX9_link_66 : decode cX9_link 66 = .ok (.aload_n 1, 1) := by decide +kernel
theorem dX9_link_67 : decode cX9_link 67 = .ok (.getfield 289, 3) := by decide +kernel
theorem dX9_link_70 : decode cX9_link 70 = .ok (.invokestatic 193, 3) := by decide +kernel
theorem dX9_link_73 : decode cX9_link 73 = .ok (.iconst 1, 1) := by decide +kernel
theorem dX9_link_74 : decode cX9_link 74 = .ok (.iload_n 2, 1) := by decide +kernel
theorem dX9_link_75 : decode cX9_link 75 = .ok (.invokevirtual 204, 3) := by decide +kernel
theorem dX9_link_78 : decode cX9_link 78 = .ok (.aload_n 0, 1) := by decide +kernel
theorem dX9_link_79 : decode cX9_link 79 = .ok (.aload_n 1, 1) := by decide +kernel
theorem dX9_link_80 : decode cX9_link 80 = .ok (.getfield 271, 3) := by decide +kernel
theorem dX9_link_83 : decode cX9_link 83 = .ok (.aload_n 1, 1) := by decide +kernel
theorem dX9_link_84 : decode cX9_link 84 = .ok (.getfield 277, 3) := by decide +kernel
theorem dX9_link_87 : decode cX9_link 87 = .ok (.aload_n 1, 1) := by decide +kernel
theorem dX9_link_88 : decode cX9_link 88 = .ok (.getfield 289, 3) := by decide +kernel
theorem dX9_link_91 : decode cX9_link 91 = .ok (.iload_n 2, 1) := by decide +kernel
theorem dX9_link_92 : decode cX9_link 92 = .ok (.invokevirtual 292, 3) := by decide +kernel
theorem dX9_link_95 : decode cX9_link 95 = .ok (.return_, 1) := by decide +kernel
theorem dX9_rename_0 : decode cX9_rename 0 = .ok (.aload_n 0, 1) := by decide +kernel
theorem dX9_rename_1 : decode cX9_rename 1 = .ok (.aload_n 1, 1) := by decide +kernel
theorem dX9_rename_2 : decode cX9_rename 2 = .ok (.getfield 271, 3) := by decide +kernel
theorem dX9_rename_5 : decode cX9_rename 5 = .ok (.iconst 2, 1) := by decide +kernel
theorem dX9_rename_6 : decode cX9_rename 6 = .ok (.invokevirtual 274, 3) := by decide +kernel
theorem dX9_rename_9 : decode cX9_rename 9 = .ok (.ifCond .eq 15, 3) := by decide +kernel
theorem dX9_rename_12 : decode cX9_rename 12 = .ok (.aload_n 0, 1) := by decide +kernel
theorem dX9_rename_13 : decode cX9_rename 13 = .ok (.aload_n 1, 1) := by decide +kernel
theorem dX9_rename_14 : decode cX9_rename 14 = .ok (.getfield 289, 3) := by decide +kernel
theorem dX9_rename_17 : decode cX9_rename 17 = .ok (.iconst 2, 1) := by decide +kernel
theorem dX9_rename_18 : decode cX9_rename 18 = .ok (.invokevirtual 274, 3) := by decide +kernel
theorem dX9_rename_21 : decode cX9_rename 21 = .ok (.ifCond .ne 4, 3) := by decide +kernel
theorem dX9_rename_24 : decode cX9_rename 24 = .ok (.return_, 1) := by decide +kernel
theorem dX9_rename_25 : decode cX9_rename 25 = .ok (.aload_n 0, 1) := by decide +kernel
theorem dX9_rename_26 : decode cX9_rename 26 = .ok (.aload_n 1, 1) := by decide +kernel
theorem dX9_rename_27 : decode cX9_rename 27 = .ok (.getfield 271, 3) := by decide +kernel
theorem dX9_rename_30 : decode cX9_rename 30 = .ok (.aload_n 1, 1) := by decide +kernel
theorem dX9_rename_31 : decode cX9_rename 31 = .ok (.getfield 277, 3) := by decide +kernel
theorem dX9_rename_34 : decode cX9_rename 34 = .ok (.invokevirtual 265, 3) := by decide +kernel
theorem dX9_rename_37 : decode cX9_rename 37 = .ok (.istore_n 2, 1) := by decide +kernel
theorem dX9_rename_38 : decode cX9_rename 38 = .ok (.iload_n 2, 1) := by decide +kernel
theorem dX9_rename_39 : decode cX9_rename 39 = .ok (.iconst (-1), 1) := by decide +kernel
theorem dX9_rename_40 : decode cX9_rename 40 = .ok (.if_icmp .ne 7, 3) := by decide +kernel
theorem dX9_rename_43 : decode cX9_rename 43 = .ok (.iconst (-1), 1) := by decide +kernel
theorem dX9_rename_44 : decode cX9_rename 44 = .ok (.goto 12, 3) := by decide +kernel
theorem dX9_rename_47 : decode cX9_rename 47 = .ok (.aload_n 0, 1) := by decide +kernel
theorem dX9_rename_48 : decode cX9_rename 48 = .ok (.aload_n 1, 1) := by decide +kernel
theorem dX9_rename_49 : decode cX9_rename 49 = .ok (.getfield 271, 3) := by decide +kernel
theorem dX9_rename_52 : decode cX9_rename 52 = .ok (.iload_n 2, 1) := by decide +kernel
theorem dX9_rename_53 : decode cX9_rename 53 = .ok (.invokevirtual 280, 3) := by decide +kernel
theorem dX9_rename_56 : decode cX9_rename 56 = .ok (.istore_n 3, 1) := by decide +kernel
theorem dX9_rename_57 : decode cX9_rename 57 = .ok (.iload_n 3, 1) := by decide +kernel
theorem dX9_rename_58 : decode cX9_rename 58 = .ok (.invokestatic 96, 3) := by decide +kernel
theorem dX9_rename_61 : decode cX9_rename 61 = .ok (.ifCond .ne 11, 3) := by decide +kernel
theorem dX9_rename_64 : decode cX9_rename 64 = .ok (.aload_n 0, 1) := by decide +kernel
theorem dX9_rename_65 : decode cX9_rename 65 = .ok (.bipush (-3), 2) := by decide +kernel
theorem dX9_rename_67 : decode cX9_rename 67 = .ok (.invokevirtual 225, 3) := by decide +kernel
theorem dX9_rename_70 : decode cX9_rename 70 = .ok (.pop, 1) := by decide +kernel
theorem dX9_rename_71 : decode cX9_rename 71 = .ok (.return_, 1) := by decide +kernel
theorem dX9_rename_72 : decode cX9_rename 72 = .ok (.aload_n 1, 1) := by decide +kernel
theorem dX9_rename_73 : decode cX9_rename 73 = .ok (.getfield 271, 3) := by decide +kernel
theorem dX9_rename_76 : decode cX9_rename 76 = .ok (.aload_n 1, 1) := by decide +kernel
theorem dX9_rename_77 : decode cX9_rename 77 = .ok (.getfield 289, 3) := by decide +kernel
theorem dX9_rename_80 : decode cX9_rename 80 = .ok (.if_icmp .eq 34, 3) := by decide +kernel
theorem dX9_rename_83 : decode cX9_rename 83 = .ok (.aload_n 0, 1) := by decide +kernel
theorem dX9_rename_84 : decode cX9_rename 84 = .ok (.iload_n 3, 1) := by decide +kernel
theorem dX9_rename_85 : decode cX9_rename 85 = .ok (.iconst 1, 1) := by decide +kernel
theorem dX9_rename_86 : decode cX9_rename 86 = .ok (.invokevirtual 211, 3) := by decide +kernel
theorem dX9_rename_89 : decode cX9_rename 89 = .ok (.ifCond .ne 4, 3) := by decide +kernel
theorem dX9_rename_92 : decode cX9_rename 92 = .ok (.return_, 1) := by decide +kernel
theorem dX9_rename_93 : decode cX9_rename 93 = .ok (.aload_n 0, 1) := by decide +kernel
theorem dX9_rename_94 : decode cX9_rename 94 = .ok (.iload_n 3, 1) := by decide +kernel
theorem dX9_rename_95 : decode cX9_rename 95 = .ok (.invokestatic 193, 3) := by decide +kernel
theorem dX9_rename_98 : decode cX9_rename 98 = .ok (.iconst 0, 1) := by decide +kernel
theorem dX9_rename_99 : decode cX9_rename 99 = .ok (.invokevirtual 197, 3) := by decide +kernel
theorem dX9_rename_102 : decode cX9_rename 102 = .ok (.iconst 2, 1) := by decide +kernel
theorem dX9_rename_103 : decode cX9_rename 103 = .ok (.if_icmp .ne 28, 3) := by decide +kernel
theorem dX9_rename_106 : decode cX9_rename 106 = .ok (.aload_n 0, 1) := by decide +kernel
theorem dX9_rename_107 : decode cX9_rename 107 = .ok (.bipush (-9), 2) := by decide +kernel
theorem dX9_rename_109 : decode cX9_rename 109 = .ok (.invokevirtual 225, 3) := by decide +kernel
theorem dX9_rename_112 : decode cX9_rename 112 = .ok (.pop, 1) := by decide +kernel
theorem dX9_rename_113 : decode cX9_rename 113 = .ok (.return_, 1) := by decide +kernel
theorem dX9_rename_114 : decode cX9_rename 114 = .ok (.aload_n 1, 1) := by decide +kernel
theorem dX9_rename_115 : decode cX9_rename 115 = .ok (.getfield 277, 3) := by decide +kernel
theorem dX9_rename_118 : decode cX9_rename 118 = .ok (.aload_n 1, 1) := by decide +kernel
theorem dX9_rename_119 : decode cX9_rename 119 = .ok (.getfield 306, 3) := by decide +kernel
theorem dX9_rename_122 : decode cX9_rename 122 = .ok (.if_icmp .ne 9, 3) := by decide +kernel
theorem dX9_rename_125 : decode cX9_rename 125 = .ok (.aload_n 0, 1) := by decide +kernel
theorem dX9_rename_126 : decode cX9_rename 126 = .ok (.iconst 0, 1) := by decide +kernel
theorem dX9_rename_127 : decode cX9_rename 127 = .ok (.invokevirtual 283, 3) := by decide +kernel
theorem dX9_rename_130 : decode cX9_rename 130 = .ok (.return_, 1) := by decide +kernel
theorem dX9_rename_131 : decode cX9_rename 131 = .ok (.aload_n 0, 1) := by decide +kernel
theorem dX9_rename_132 : decode cX9_rename 132 = .ok (.aload_n 1, 1) := by decide +kernel
theorem dX9_rename_133 : decode cX9_rename 133 = .ok (.getfield 289, 3) := by decide +kernel
theorem dX9_rename_136 : decode cX9_rename 136 = .ok (.aload_n 1, 1) := by decide +kernel
theorem dX9_rename_137 : decode cX9_rename 137 = .ok (.getfield 306, 3) := by decide +kernel
theorem dX9_rename_140 : decode cX9_rename 140 = .ok (.invokevirtual 265, 3) := by decide +kernel
theorem dX9_rename_143 : decode cX9_rename 143 = .ok (.iconst (-1), 1) := by decide +kernel
theorem dX9_rename_144 : decode cX9_rename 144 = .ok (.if_icmp .eq 11, 3) := by decide +kernel
theorem dX9_rename_147 : decode cX9_rename 147 = .ok (.aload_n 0, 1) := by decide +kernel
theorem dX9_rename_148 : decode cX9_rename 148 = .ok (.bipush (-6), 2) := by decide +kernel
theorem dX9_rename_150 : decode cX9_rename 150 = .ok (.invokevirtual 225, 3) := by decide +kernel
theorem dX9_rename_153 : decode cX9_rename 153 = .ok (.pop, 1) := by decide +kernel
theorem dX9_rename_154 : decode cX9_rename 154 = .ok (.return_, 1) := by decide +kernel
theorem dX9_rename_155 : decode cX9_rename 155 = .ok (.aload_n 0, 1) := by decide +kernel
theorem dX9_rename_156 : decode cX9_rename 156 = .ok (.aload_n 1, 1) := by decide +kernel
theorem dX9_rename_157 : decode cX9_rename 157 = .ok (.getfield 271, 3) := by decide +kernel
theorem dX9_rename_160 : decode cX9_rename 160 = .ok (.iload_n 2, 1) := by decide +kernel
theorem dX9_rename_161 : decode cX9_rename 161 = .ok (.invokevirtual 299, 3) := by decide +kernel
theorem dX9_rename_164 : decode cX9_rename 164 = .ok (.aload_n 0, 1) := by decide +kernel
theorem dX9_rename_165 : decode cX9_rename 165 = .ok (.aload_n 1, 1) := by decide +kernel
theorem dX9_rename_166 : decode cX9_rename 166 = .ok (.getfield 289, 3) := by decide +kernel
theorem dX9_rename_169 : decode cX9_rename 169 = .ok (.aload_n 1, 1) := by decide +kernel
theorem dX9_rename_170 : decode cX9_rename 170 = .ok (.getfield 306, 3) := by decide +kernel
theorem dX9_rename_173 : decode cX9_rename 173 = .ok (.iload_n 3, 1) := by decide +kernel
theorem dX9_rename_174 : decode cX9_rename 174 = .ok (.iconst 0, 1) := by decide +kernel
theorem dX9_rename_175 : decode cX9_rename 175 = .ok (.invokevirtual 292, 3) := by decide +kernel
theorem dX9_rename_178 : decode cX9_rename 178 = .ok (.return_, 1) := by decide +kernel
theorem dX9_readWord_0 : decode cX9_readWord 0 = .ok (.aload_n 0, 1) := by decide +kernel
theorem dX9_readWord_1 : decode cX9_readWord 1 = .ok (.aload_n 1, 1) := by decide +kernel
theorem dX9_readWord_2 : decode cX9_readWord 2 = .ok (.getfield 271, 3) := by decide +kernel
theorem dX9_readWord_5 : decode cX9_readWord 5 = .ok (.iconst 1, 1) := by decide +kernel
theorem dX9_readWord_6 : decode cX9_readWord 6 = .ok (.invokevirtual 303, 3) := by decide +kernel
theorem dX9_readWord_9 : decode cX9_readWord 9 = .ok (.ifCond .ne 4, 3) := by decide +kernel
theorem dX9_readWord_12 : decode cX9_readWord 12 = .ok (.return_, 1) := by decide +kernel
theorem dX9_readWord_13 : decode cX9_readWord 13 = .ok (.aload_n 1, 1) := by decide +kernel
theorem dX9_readWord_14 : decode cX9_readWord 14 = .ok (.getfield 277, 3) := by decide +kernel
theorem dX9_readWord_17 : decode cX9_readWord 17 = .ok (.aload_n 0, 1) := by decide +kernel
theorem dX9_readWord_18 : decode cX9_readWord 18 = .ok (.aload_n 1, 1) := by decide +kernel
theorem dX9_readWord_19 : decode cX9_readWord 19 = .ok (.getfield 271, 3) := by decide +kernel
theorem dX9_readWord_22 : decode cX9_readWord 22 = .ok (.invokevirtual 253, 3) := by decide +kernel
theorem dX9_readWord_25 : decode cX9_readWord 25 = .ok (.if_icmp .lt 11, 3) := by decide +kernel
theorem dX9_readWord_28 : decode cX9_readWord 28 = .ok (.aload_n 0, 1) := by decide +kernel
theorem dX9_readWord_29 : decode cX9_readWord 29 = .ok (.bipush (-10), 2) := by decide +kernel
theorem dX9_readWord_31 : decode cX9_readWord 31 = .ok (.invokevirtual 225, 3) := by decide +kernel
theorem dX9_readWord_34 : decode cX9_readWord 34 = .ok (.pop, 1) := by decide +kernel
theorem dX9_readWord_35 : decode cX9_readWord 35 = .ok (.return_, 1) := by decide +kernel
theorem dX9_readWord_36 : decode cX9_readWord 36 = .ok (.aload_n 0, 1) := by decide +kernel
theorem dX9_readWord_37 : decode cX9_readWord 37 = .ok (.aload_n 1, 1) := by decide +kernel
theorem dX9_readWord_38 : decode cX9_readWord 38 = .ok (.getfield 271, 3) := by decide +kernel
theorem dX9_readWord_41 : decode cX9_readWord 41 = .ok (.aload_n 1, 1) := by decide +kernel
theorem dX9_readWord_42 : decode cX9_readWord 42 = .ok (.getfield 277, 3) := by decide +kernel
theorem dX9_readWord_45 : decode cX9_readWord 45 = .ok (.invokevirtual 256, 3) := by decide +kernel
theorem dX9_readWord_48 : decode cX9_readWord 48 = .ok (.istore_n 2, 1) := by decide +kernel
theorem dX9_readWord_49 : decode cX9_readWord 49 = .ok (.aload_n 0, 1) := by decide +kernel
theorem dX9_readWord_50 : decode cX9_readWord 50 = .ok (.iload_n 2, 1) := by decide +kernel
theorem dX9_readWord_51 : decode cX9_readWord 51 = .ok (.ifCond .ne 7, 3) := by decide +kernel
theorem dX9_readWord_54 : decode cX9_readWord 54 = .ok (.iconst 0, 1) := by decide +kernel
theorem dX9_readWord_55 : decode cX9_readWord 55 = .ok (.goto 15, 3) := by decide +kernel
theorem dX9_readWord_58 : decode cX9_readWord 58 = .ok (.aload_n 0, 1) := by decide +kernel
theorem dX9_readWord_59 : decode cX9_readWord 59 = .ok (.iload_n 2, 1) := by decide +kernel
theorem dX9_readWord_60 : decode cX9_readWord 60 = .ok (.aload_n 1, 1) := by decide +kernel
theorem dX9_readWord_61 : decode cX9_readWord 61 = .ok (.getfield 277, 3) := by decide +kernel
theorem dX9_readWord_64 : decode cX9_readWord 64 = .ok (.bipush 16, 2) := by decide +kernel
theorem dX9_readWord_66 : decode cX9_readWord 66 = .ok (.irem, 1) := by decide +kernel
theorem dX9_readWord_67 : decode cX9_readWord 67 = .ok (.invokevirtual 197, 3) := by decide +kernel
theorem dX9_readWord_70 : decode cX9_readWord 70 = .ok (.invokevirtual 283, 3) := by decide +kernel
theorem dX9_readWord_73 : decode cX9_readWord 73 = .ok (.return_, 1) := by decide +kernel
theorem dX9_writeWord_0 : decode cX9_writeWord 0 = .ok (.aload_n 0, 1) := by decide +kernel
theorem dX9_writeWord_1 : decode cX9_writeWord 1 = .ok (.aload_n 1, 1) := by decide +kernel
theorem dX9_writeWord_2 : decode cX9_writeWord 2 = .ok (.getfield 271, 3) := by decide +kernel
theorem dX9_writeWord_5 : decode cX9_writeWord 5 = .ok (.iconst 2, 1) := by decide +kernel
theorem dX9_writeWord_6 : decode cX9_writeWord 6 = .ok (.invokevirtual 211, 3) := by decide +kernel
theorem dX9_writeWord_9 : decode cX9_writeWord 9 = .ok (.ifCond .ne 4, 3) := by decide +kernel
theorem dX9_writeWord_12 : decode cX9_writeWord 12 = .ok (.return_, 1) := by decide +kernel
theorem dX9_writeWord_13 : decode cX9_writeWord 13 = .ok (.aload_n 1, 1) := by decide +kernel
theorem dX9_writeWord_14 : decode cX9_writeWord 14 = .ok (.getfield 54, 3) := by decide +kernel
theorem dX9_writeWord_17 : decode cX9_writeWord 17 = .ok (.bipush 12, 2) := by decide +kernel
theorem dX9_writeWord_19 : decode cX9_writeWord 19 = .ok (.if_icmp .ne 7, 3) := by decide +kernel
theorem dX9_writeWord_22 : decode cX9_writeWord 22 = .ok (.iconst 1, 1) := by decide +kernel
theorem dX9_writeWord_23 : decode cX9_writeWord 23 = .ok (.goto 4, 3) := by decide +kernel
theorem dX9_writeWord_26 : decode cX9_writeWord 26 = .ok (.iconst 0, 1) := by decide +kernel
theorem dX9_writeWord_27 : decode cX9_writeWord 27 = .ok (.istore_n 2, 1) := by decide +kernel
theorem dX9_writeWord_28 : decode cX9_writeWord 28 = .ok (.aload_n 0, 1) := by decide +kernel
theorem dX9_writeWord_29 : decode cX9_writeWord 29 = .ok (.aload_n 1, 1) := by decide +kernel
theorem dX9_writeWord_30 : decode cX9_writeWord 30 = .ok (.getfield 271, 3) := by decide +kernel
theorem dX9_writeWord_33 : decode cX9_writeWord 33 = .ok (.invokevirtual 253, 3) := by decide +kernel
theorem dX9_writeWord_36 : decode cX9_writeWord 36 = .ok (.istore_n 3, 1) := by decide +kernel
theorem dX9_writeWord_37 : decode cX9_writeWord 37 = .ok (.iload_n 2, 1) := by decide +kernel
theorem dX9_writeWord_38 : decode cX9_writeWord 38 = .ok (.ifCond .eq 7, 3) := by decide +kernel
theorem dX9_writeWord_41 : decode cX9_writeWord 41 = .ok (.iload_n 3, 1) := by decide +kernel
theorem dX9_writeWord_42 : decode cX9_writeWord 42 = .ok (.goto 7, 3) := by decide +kernel
theorem dX9_writeWord_45 : decode cX9_writeWord 45 = .ok (.aload_n 1, 1) := by decide +kernel
theorem dX9_writeWord_46 : decode cX9_writeWord 46 = .ok (.getfield 277, 3) := by decide +kernel
theorem dX9_writeWord_49 : decode cX9_writeWord 49 = .ok (.istore 4, 2) := by decide +kernel
theorem dX9_writeWord_51 : decode cX9_writeWord 51 = .ok (.iload 4, 2) := by decide +kernel
theorem dX9_writeWord_53 : decode cX9_writeWord 53 = .ok (.sipush 384, 3) := by decide +kernel
theorem dX9_writeWord_56 : decode cX9_writeWord 56 = .ok (.if_icmp .lt 11, 3) := by decide +kernel
theorem dX9_writeWord_59 : decode cX9_writeWord 59 = .ok (.aload_n 0, 1) := by decide +kernel
theorem dX9_writeWord_60 : decode cX9_writeWord 60 = .ok (.bipush (-7), 2) := by decide +kernel
theorem dX9_writeWord_62 : decode cX9_writeWord 62 = .ok (.invokevirtual 225, 3) := by decide +kernel
theorem dX9_writeWord_65 : decode cX9_writeWord 65 = .ok (.pop, 1) := by decide +kernel
theorem dX9_writeWord_66 : decode cX9_writeWord 66 = .ok (.return_, 1) := by decide +kernel
theorem dX9_writeWord_67 : decode cX9_writeWord 67 = .ok (.aload_n 0, 1) := by decide +kernel
theorem dX9_writeWord_68 : decode cX9_writeWord 68 = .ok (.aload_n 1, 1) := by decide +kernel
theorem dX9_writeWord_69 : decode cX9_writeWord 69 = .ok (.getfield 271, 3) := by decide +kernel
theorem dX9_writeWord_72 : decode cX9_writeWord 72 = .ok (.iconst 2, 1) := by decide +kernel
theorem dX9_writeWord_73 : decode cX9_writeWord 73 = .ok (.invokevirtual 303, 3) := by decide +kernel
theorem dX9_writeWord_76 : decode cX9_writeWord 76 = .ok (.ifCond .ne 4, 3) := by decide +kernel
theorem dX9_writeWord_79 : decode cX9_writeWord 79 = .ok (.return_, 1) := by decide +kernel
theorem dX9_writeWord_80 : decode cX9_writeWord 80 = .ok (.aload_n 0, 1) := by decide +kernel
theorem dX9_writeWord_81 : decode cX9_writeWord 81 = .ok (.aload_n 1, 1) := by decide +kernel
theorem dX9_writeWord_82 : decode cX9_writeWord 82 = .ok (.getfield 271, 3) := by decide +kernel
theorem dX9_writeWord_85 : decode cX9_writeWord 85 = .ok (.iload 4, 2) := by decide +kernel
theorem dX9_writeWord_87 : decode cX9_writeWord 87 = .ok (.invokevirtual 268, 3) := by decide +kernel
theorem dX9_writeWord_90 : decode cX9_writeWord 90 = .ok (.istore 5, 2) := by decide +kernel
theorem dX9_writeWord_92 : decode cX9_writeWord 92 = .ok (.iload 5, 2) := by decide +kernel
theorem dX9_writeWord_94 : decode cX9_writeWord 94 = .ok (.ifCond .ne 4, 3) := by decide +kernel
theorem dX9_writeWord_97 : decode cX9_writeWord 97 = .ok (.return_, 1) := by decide +kernel
theorem dX9_writeWord_98 : decode cX9_writeWord 98 = .ok (.iload_n 2, 1) := by decide +kernel
theorem dX9_writeWord_99 : decode cX9_writeWord 99 = .ok (.ifCond .eq 10, 3) := by decide +kernel
theorem dX9_writeWord_102 : decode cX9_writeWord 102 = .ok (.aload_n 1, 1) := by decide +kernel
theorem dX9_writeWord_103 : decode cX9_writeWord 103 = .ok (.getfield 277, 3) := by decide +kernel
theorem dX9_writeWord_106 : decode cX9_writeWord 106 = .ok (.goto 7, 3) := by decide +kernel
theorem dX9_writeWord_109 : decode cX9_writeWord 109 = .ok (.aload_n 1, 1) := by decide +kernel
theorem dX9_writeWord_110 : decode cX9_writeWord 110 = .ok (.getfield 289, 3) := by decide +kernel
theorem dX9_writeWord_113 : decode cX9_writeWord 113 = .ok (.istore 6, 2) := by decide +kernel
theorem dX9_writeWord_115 : decode cX9_writeWord 115 = .ok (.aload_n 1, 1) := by decide +kernel
theorem dX9_writeWord_116 : decode cX9_writeWord 116 = .ok (.getfield 54, 3) := by decide +kernel
theorem dX9_writeWord_119 : decode cX9_writeWord 119 = .ok (.bipush 11, 2) := by decide +kernel
theorem dX9_writeWord_121 : decode cX9_writeWord 121 = .ok (.if_icmp .ne 19, 3) := by decide +kernel
theorem dX9_writeWord_124 : decode cX9_writeWord 124 = .ok (.iload 6, 2) := by decide +kernel
theorem dX9_writeWord_126 : decode cX9_writeWord 126 = .ok (.aload_n 0, 1) := by decide +kernel
theorem dX9_writeWord_127 : decode cX9_writeWord 127 = .ok (.iload 5, 2) := by decide +kernel
theorem dX9_writeWord_129 : decode cX9_writeWord 129 = .ok (.iload 4, 2) := by decide +kernel
theorem dX9_writeWord_131 : decode cX9_writeWord 131 = .ok (.bipush 16, 2) := by decide +kernel
theorem dX9_writeWord_133 : decode cX9_writeWord 133 = .ok (.irem, 1) := by decide +kernel
theorem dX9_writeWord_134 : decode cX9_writeWord 134 = .ok (.invokevirtual 197, 3) := by decide +kernel
theorem dX9_writeWord_137 : decode cX9_writeWord 137 = .ok (.iadd, 1) := by decide +kernel
theorem dX9_writeWord_138 : decode cX9_writeWord 138 = .ok (.istore 6, 2) := by decide +kernel
theorem dX9_writeWord_140 : decode cX9_writeWord 140 = .ok (.aload_n 0, 1) := by decide +kernel
theorem dX9_writeWord_141 : decode cX9_writeWord 141 = .ok (.iload 5, 2) := by decide +kernel
theorem dX9_writeWord_143 : decode cX9_writeWord 143 = .ok (.iload 4, 2) := by decide +kernel
theorem dX9_writeWord_145 : decode cX9_writeWord 145 = .ok (.bipush 16, 2) := by decide +kernel
theorem dX9_writeWord_147 : decode cX9_writeWord 147 = .ok (.irem, 1) := by decide +kernel
theorem dX9_writeWord_148 : decode cX9_writeWord 148 = .ok (.iload 6, 2) := by decide +kernel
theorem dX9_writeWord_150 : decode cX9_writeWord 150 = .ok (.invokevirtual 204, 3) := by decide +kernel
theorem dX9_writeWord_153 : decode cX9_writeWord 153 = .ok (.iload 4, 2) := by decide +kernel
theorem dX9_writeWord_155 : decode cX9_writeWord 155 = .ok (.iload_n 3, 1) := by decide +kernel
theorem dX9_writeWord_156 : decode cX9_writeWord 156 = .ok (.if_icmp .lt 19, 3) := by decide +kernel
theorem dX9_writeWord_159 : decode cX9_writeWord 159 = .ok (.aload_n 0, 1) := by decide +kernel
theorem dX9_writeWord_160 : decode cX9_writeWord 160 = .ok (.aload_n 1, 1) := by decide +kernel
theorem dX9_writeWord_161 : decode cX9_writeWord 161 = .ok (.getfield 271, 3) := by decide +kernel
theorem dX9_writeWord_164 : decode cX9_writeWord 164 = .ok (.invokestatic 193, 3) := by decide +kernel
theorem dX9_writeWord_167 : decode cX9_writeWord 167 = .ok (.iconst 2, 1) := by decide +kernel
theorem dX9_writeWord_168 : decode cX9_writeWord 168 = .ok (.iload 4, 2) := by decide +kernel
theorem dX9_writeWord_170 : decode cX9_writeWord 170 = .ok (.iconst 1, 1) := by decide +kernel
theorem dX9_writeWord_171 : decode cX9_writeWord 171 = .ok (.iadd, 1) := by decide +kernel
theorem dX9_writeWord_172 : decode cX9_writeWord 172 = .ok (.invokevirtual 204, 3) := by decide +kernel
theorem dX9_writeWord_175 : decode cX9_writeWord 175 = .ok (.aload_n 0, 1) := by decide +kernel
theorem dX9_writeWord_176 : decode cX9_writeWord 176 = .ok (.iload_n 2, 1) := by decide +kernel
theorem dX9_writeWord_177 : decode cX9_writeWord 177 = .ok (.ifCond .eq 8, 3) := by decide +kernel
theorem dX9_writeWord_180 : decode cX9_writeWord 180 = .ok (.iload 4, 2) := by decide +kernel
theorem dX9_writeWord_182 : decode cX9_writeWord 182 = .ok (.goto 5, 3) := by decide +kernel
theorem dX9_writeWord_185 : decode cX9_writeWord 185 = .ok (.iload 6, 2) := by decide +kernel
theorem dX9_writeWord_187 : decode cX9_writeWord 187 = .ok (.invokevirtual 283, 3) := by decide +kernel
theorem dX9_writeWord_190 : decode cX9_writeWord 190 = .ok (.return_, 1) := by decide +kernel
theorem dX9_cut_0 : decode cX9_cut 0 = .ok (.aload_n 0, 1) := by decide +kernel
theorem dX9_cut_1 : decode cX9_cut 1 = .ok (.aload_n 1, 1) := by decide +kernel
theorem dX9_cut_2 : decode cX9_cut 2 = .ok (.getfield 271, 3) := by decide +kernel
theorem dX9_cut_5 : decode cX9_cut 5 = .ok (.iconst 2, 1) := by decide +kernel
theorem dX9_cut_6 : decode cX9_cut 6 = .ok (.invokevirtual 303, 3) := by decide +kernel
theorem dX9_cut_9 : decode cX9_cut 9 = .ok (.ifCond .ne 4, 3) := by decide +kernel
theorem dX9_cut_12 : decode cX9_cut 12 = .ok (.return_, 1) := by decide +kernel
theorem dX9_cut_13 : decode cX9_cut 13 = .ok (.aload_n 1, 1) := by decide +kernel
theorem dX9_cut_14 : decode cX9_cut 14 = .ok (.getfield 271, 3) := by decide +kernel
theorem dX9_cut_17 : decode cX9_cut 17 = .ok (.invokestatic 193, 3) := by decide +kernel
theorem dX9_cut_20 : decode cX9_cut 20 = .ok (.istore_n 2, 1) := by decide +kernel
theorem dX9_cut_21 : decode cX9_cut 21 = .ok (.aload_n 1, 1) := by decide +kernel
theorem dX9_cut_22 : decode cX9_cut 22 = .ok (.getfield 277, 3) := by decide +kernel
theorem dX9_cut_25 : decode cX9_cut 25 = .ok (.istore_n 3, 1) := by decide +kernel
theorem dX9_cut_26 : decode cX9_cut 26 = .ok (.aload_n 0, 1) := by decide +kernel
theorem dX9_cut_27 : decode cX9_cut 27 = .ok (.iload_n 2, 1) := by decide +kernel
theorem dX9_cut_28 : decode cX9_cut 28 = .ok (.iconst 2, 1) := by decide +kernel
theorem dX9_cut_29 : decode cX9_cut 29 = .ok (.invokevirtual 197, 3) := by decide +kernel
theorem dX9_cut_32 : decode cX9_cut 32 = .ok (.istore 4, 2) := by decide +kernel
theorem dX9_cut_34 : decode cX9_cut 34 = .ok (.iload_n 3, 1) := by decide +kernel
theorem dX9_cut_35 : decode cX9_cut 35 = .ok (.bipush 16, 2) := by decide +kernel
theorem dX9_cut_37 : decode cX9_cut 37 = .ok (.iadd, 1) := by decide +kernel
theorem dX9_cut_38 : decode cX9_cut 38 = .ok (.iconst 1, 1) := by decide +kernel
theorem dX9_cut_39 : decode cX9_cut 39 = .ok (.isub, 1) := by decide +kernel
theorem dX9_cut_40 : decode cX9_cut 40 = .ok (.bipush 16, 2) := by decide +kernel
theorem dX9_cut_42 : decode cX9_cut 42 = .ok (.idiv, 1) := by decide +kernel
theorem dX9_cut_43 : decode cX9_cut 43 = .ok (.istore 5, 2) := by decide +kernel
theorem dX9_cut_45 : decode cX9_cut 45 = .ok (.aload_n 0, 1) := by decide +kernel
theorem dX9_cut_46 : decode cX9_cut 46 = .ok (.iload_n 2, 1) := by decide +kernel
theorem dX9_cut_47 : decode cX9_cut 47 = .ok (.iconst 3, 1) := by decide +kernel
theorem dX9_cut_48 : decode cX9_cut 48 = .ok (.iload 5, 2) := by decide +kernel
theorem dX9_cut_50 : decode cX9_cut 50 = .ok (.iadd, 1) := by decide +kernel
theorem dX9_cut_51 : decode cX9_cut 51 = .ok (.bipush 11, 2) := by decide +kernel
theorem dX9_cut_53 : decode cX9_cut 53 = .ok (.invokevirtual 241, 3) := by decide +kernel
theorem dX9_cut_56 : decode cX9_cut 56 = .ok (.ifCond .ne 4, 3) := by decide +kernel
theorem dX9_cut_59 : decode cX9_cut 59 = .ok (.return_, 1) := by decide +kernel
theorem dX9_cut_60 : decode cX9_cut 60 = .ok (.aload_n 0, 1) := by decide +kernel
theorem dX9_cut_61 : decode cX9_cut 61 = .ok (.iload_n 2, 1) := by decide +kernel
theorem dX9_cut_62 : decode cX9_cut 62 = .ok (.bipush 11, 2) := by decide +kernel
theorem dX9_cut_64 : decode cX9_cut 64 = .ok (.invokevirtual 197, 3) := by decide +kernel
theorem dX9_cut_67 : decode cX9_cut 67 = .ok (.istore 6, 2) := by decide +kernel
theorem dX9_cut_69 : decode cX9_cut 69 = .ok (.iload 6, 2) := by decide +kernel
theorem dX9_cut_71 : decode cX9_cut 71 = .ok (.ifCond .eq 49, 3) := by decide +kernel
theorem dX9_cut_74 : decode cX9_cut 74 = .ok (.aload_n 0, 1) := by decide +kernel
theorem dX9_cut_75 : decode cX9_cut 75 = .ok (.iload 6, 2) := by decide +kernel
theorem dX9_cut_77 : decode cX9_cut 77 = .ok (.iload 5, 2) := by decide +kernel
theorem dX9_cut_79 : decode cX9_cut 79 = .ok (.bipush 8, 2) := by decide +kernel
theorem dX9_cut_81 : decode cX9_cut 81 = .ok (.isub, 1) := by decide +kernel
theorem dX9_cut_82 : decode cX9_cut 82 = .ok (.iconst 0, 1) := by decide +kernel
theorem dX9_cut_83 : decode cX9_cut 83 = .ok (.invokestatic 250, 3) := by decide +kernel
theorem dX9_cut_86 : decode cX9_cut 86 = .ok (.bipush 16, 2) := by decide +kernel
theorem dX9_cut_88 : decode cX9_cut 88 = .ok (.invokevirtual 241, 3) := by decide +kernel
theorem dX9_cut_91 : decode cX9_cut 91 = .ok (.ifCond .ne 4, 3) := by decide +kernel
theorem dX9_cut_94 : decode cX9_cut 94 = .ok (.return_, 1) := by decide +kernel
theorem dX9_cut_95 : decode cX9_cut 95 = .ok (.iload_n 3, 1) := by decide +kernel
theorem dX9_cut_96 : decode cX9_cut 96 = .ok (.sipush 128, 3) := by decide +kernel
theorem dX9_cut_99 : decode cX9_cut 99 = .ok (.if_icmp .gt 21, 3) := by decide +kernel
theorem dX9_cut_102 : decode cX9_cut 102 = .ok (.aload_n 0, 1) := by decide +kernel
theorem dX9_cut_103 : decode cX9_cut 103 = .ok (.iload 6, 2) := by decide +kernel
theorem dX9_cut_105 : decode cX9_cut 105 = .ok (.invokevirtual 238, 3) := by decide +kernel
theorem dX9_cut_108 : decode cX9_cut 108 = .ok (.ifCond .ne 4, 3) := by decide +kernel
theorem dX9_cut_111 : decode cX9_cut 111 = .ok (.return_, 1) := by decide +kernel
theorem dX9_cut_112 : decode cX9_cut 112 = .ok (.aload_n 0, 1) := by decide +kernel
theorem dX9_cut_113 : decode cX9_cut 113 = .ok (.iload_n 2, 1) := by decide +kernel
theorem dX9_cut_114 : decode cX9_cut 114 = .ok (.bipush 11, 2) := by decide +kernel
theorem dX9_cut_116 : decode cX9_cut 116 = .ok (.iconst 0, 1) := by decide +kernel
theorem dX9_cut_117 : decode cX9_cut 117 = .ok (.invokevirtual 204, 3) := by decide +kernel
theorem dX9_cut_120 : decode cX9_cut 120 = .ok (.aload_n 0, 1) := by decide +kernel
theorem dX9_cut_121 : decode cX9_cut 121 = .ok (.iload_n 2, 1) := by decide +kernel
theorem dX9_cut_122 : decode cX9_cut 122 = .ok (.iconst 2, 1) := by decide +kernel
theorem dX9_cut_123 : decode cX9_cut 123 = .ok (.iload_n 3, 1) := by decide +kernel
theorem dX9_cut_124 : decode cX9_cut 124 = .ok (.invokevirtual 204, 3) := by decide +kernel
theorem dX9_cut_127 : decode cX9_cut 127 = .ok (.iload_n 3, 1) := by decide +kernel
theorem dX9_cut_128 : decode cX9_cut 128 = .ok (.bipush 16, 2) := by decide +kernel
theorem dX9_cut_130 : decode cX9_cut 130 = .ok (.irem, 1) := by decide +kernel
theorem dX9_cut_131 : decode cX9_cut 131 = .ok (.ifCond .ne 7, 3) := by decide +kernel
theorem dX9_cut_134 : decode cX9_cut 134 = .ok (.iconst 0, 1) := by decide +kernel
theorem dX9_cut_135 : decode cX9_cut 135 = .ok (.goto 12, 3) := by decide +kernel
theorem dX9_cut_138 : decode cX9_cut 138 = .ok (.aload_n 0, 1) := by decide +kernel
theorem dX9_cut_139 : decode cX9_cut 139 = .ok (.aload_n 1, 1) := by decide +kernel
theorem dX9_cut_140 : decode cX9_cut 140 = .ok (.getfield 271, 3) := by decide +kernel
theorem dX9_cut_143 : decode cX9_cut 143 = .ok (.iload_n 3, 1) := by decide +kernel
theorem dX9_cut_144 : decode cX9_cut 144 = .ok (.invokevirtual 256, 3) := by decide +kernel
theorem dX9_cut_147 : decode cX9_cut 147 = .ok (.istore 7, 2) := by decide +kernel
theorem dX9_cut_149 : decode cX9_cut 149 = .ok (.iload_n 3, 1) := by decide +kernel
theorem dX9_cut_150 : decode cX9_cut 150 = .ok (.bipush 16, 2) := by decide +kernel
theorem dX9_cut_152 : decode cX9_cut 152 = .ok (.irem, 1) := by decide +kernel
theorem dX9_cut_153 : decode cX9_cut 153 = .ok (.istore 8, 2) := by decide +kernel
theorem dX9_cut_155 : decode cX9_cut 155 = .ok (.iload 7, 2) := by decide +kernel
theorem dX9_cut_157 : decode cX9_cut 157 = .ok (.ifCond .eq 25, 3) := by decide +kernel
theorem dX9_cut_160 : decode cX9_cut 160 = .ok (.iload 8, 2) := by decide +kernel
theorem dX9_cut_162 : decode cX9_cut 162 = .ok (.bipush 16, 2) := by decide +kernel
theorem dX9_cut_164 : decode cX9_cut 164 = .ok (.if_icmp .ge 18, 3) := by decide +kernel
theorem dX9_cut_167 : decode cX9_cut 167 = .ok (.aload_n 0, 1) := by decide +kernel
theorem dX9_cut_168 : decode cX9_cut 168 = .ok (.iload 7, 2) := by decide +kernel
theorem dX9_cut_170 : decode cX9_cut 170 = .ok (.iload 8, 2) := by decide +kernel
theorem dX9_cut_172 : decode cX9_cut 172 = .ok (.iconst 0, 1) := by decide +kernel
theorem dX9_cut_173 : decode cX9_cut 173 = .ok (.invokevirtual 204, 3) := by decide +kernel
theorem dX9_cut_176 : decode cX9_cut 176 = .ok (.iinc 8 1, 3) := by decide +kernel
theorem dX9_cut_179 : decode cX9_cut 179 = .ok (.goto (-24), 3) := by decide +kernel
theorem dX9_cut_182 : decode cX9_cut 182 = .ok (.aload_n 0, 1) := by decide +kernel
theorem dX9_cut_183 : decode cX9_cut 183 = .ok (.iload 4, 2) := by decide +kernel
theorem dX9_cut_185 : decode cX9_cut 185 = .ok (.invokevirtual 283, 3) := by decide +kernel
theorem dX9_cut_188 : decode cX9_cut 188 = .ok (.return_, 1) := by decide +kernel
theorem dX9_entry_0 : decode cX9_entry 0 = .ok (.aload_n 0, 1) := by decide +kernel
theorem dX9_entry_1 : decode cX9_entry 1 = .ok (.aload_n 1, 1) := by decide +kernel
theorem dX9_entry_2 : decode cX9_entry 2 = .ok (.getfield 271, 3) := by decide +kernel
theorem dX9_entry_5 : decode cX9_entry 5 = .ok (.iconst 1, 1) := by decide +kernel
theorem dX9_entry_6 : decode cX9_entry 6 = .ok (.invokevirtual 274, 3) := by decide +kernel
theorem dX9_entry_9 : decode cX9_entry 9 = .ok (.ifCond .ne 4, 3) := by decide +kernel
theorem dX9_entry_12 : decode cX9_entry 12 = .ok (.return_, 1) := by decide +kernel
theorem dX9_entry_13 : decode cX9_entry 13 = .ok (.aload_n 0, 1) := by decide +kernel
theorem dX9_entry_14 : decode cX9_entry 14 = .ok (.aload_n 1, 1) := by decide +kernel
theorem dX9_entry_15 : decode cX9_entry 15 = .ok (.getfield 271, 3) := by decide +kernel
theorem dX9_entry_18 : decode cX9_entry 18 = .ok (.aload_n 1, 1) := by decide +kernel
theorem dX9_entry_19 : decode cX9_entry 19 = .ok (.getfield 277, 3) := by decide +kernel
theorem dX9_entry_22 : decode cX9_entry 22 = .ok (.invokevirtual 296, 3) := by decide +kernel
theorem dX9_entry_25 : decode cX9_entry 25 = .ok (.istore_n 2, 1) := by decide +kernel
theorem dX9_entry_26 : decode cX9_entry 26 = .ok (.iload_n 2, 1) := by decide +kernel
theorem dX9_entry_27 : decode cX9_entry 27 = .ok (.ifCond .ne 11, 3) := by decide +kernel
theorem dX9_entry_30 : decode cX9_entry 30 = .ok (.aload_n 0, 1) := by decide +kernel
theorem dX9_entry_31 : decode cX9_entry 31 = .ok (.bipush (-3), 2) := by decide +kernel
theorem dX9_entry_33 : decode cX9_entry 33 = .ok (.invokevirtual 225, 3) := by decide +kernel
theorem dX9_entry_36 : decode cX9_entry 36 = .ok (.pop, 1) := by decide +kernel
theorem dX9_entry_37 : decode cX9_entry 37 = .ok (.return_, 1) := by decide +kernel
theorem dX9_entry_38 : decode cX9_entry 38 = .ok (.aload_n 0, 1) := by decide +kernel
theorem dX9_entry_39 : decode cX9_entry 39 = .ok (.iload_n 2, 1) := by decide +kernel
theorem dX9_entry_40 : decode cX9_entry 40 = .ok (.invokevirtual 283, 3) := by decide +kernel
theorem dX9_entry_43 : decode cX9_entry 43 = .ok (.return_, 1) := by decide +kernel
theorem dX9_count_0 : decode cX9_count 0 = .ok (.aload_n 0, 1) := by decide +kernel
theorem dX9_count_1 : decode cX9_count 1 = .ok (.aload_n 1, 1) := by decide +kernel
theorem dX9_count_2 : decode cX9_count 2 = .ok (.getfield 271, 3) := by decide +kernel
theorem dX9_count_5 : decode cX9_count 5 = .ok (.iconst 1, 1) := by decide +kernel
theorem dX9_count_6 : decode cX9_count 6 = .ok (.invokevirtual 274, 3) := by decide +kernel
theorem dX9_count_9 : decode cX9_count 9 = .ok (.ifCond .eq 23, 3) := by decide +kernel
theorem dX9_count_12 : decode cX9_count 12 = .ok (.aload_n 0, 1) := by decide +kernel
theorem dX9_count_13 : decode cX9_count 13 = .ok (.aload_n 1, 1) := by decide +kernel
theorem dX9_count_14 : decode cX9_count 14 = .ok (.getfield 271, 3) := by decide +kernel
theorem dX9_count_17 : decode cX9_count 17 = .ok (.sipush 192, 3) := by decide +kernel
theorem dX9_count_20 : decode cX9_count 20 = .ok (.invokevirtual 296, 3) := by decide +kernel
theorem dX9_count_23 : decode cX9_count 23 = .ok (.pop, 1) := by decide +kernel
theorem dX9_count_24 : decode cX9_count 24 = .ok (.aload_n 0, 1) := by decide +kernel
theorem dX9_count_25 : decode cX9_count 25 = .ok (.aload_n 0, 1) := by decide +kernel
theorem dX9_count_26 : decode cX9_count 26 = .ok (.getfield 45, 3) := by decide +kernel
theorem dX9_count_29 : decode cX9_count 29 = .ok (.invokevirtual 283, 3) := by decide +kernel
theorem dX9_count_32 : decode cX9_count 32 = .ok (.return_, 1) := by decide +kernel
theorem dX9_stat_0 : decode cX9_stat 0 = .ok (.aload_n 0, 1) := by decide +kernel
theorem dX9_stat_1 : decode cX9_stat 1 = .ok (.aload_n 1, 1) := by decide +kernel
theorem dX9_stat_2 : decode cX9_stat 2 = .ok (.getfield 271, 3) := by decide +kernel
theorem dX9_stat_5 : decode cX9_stat 5 = .ok (.iconst 1, 1) := by decide +kernel
theorem dX9_stat_6 : decode cX9_stat 6 = .ok (.invokevirtual 211, 3) := by decide +kernel
theorem dX9_stat_9 : decode cX9_stat 9 = .ok (.ifCond .ne 4, 3) := by decide +kernel
theorem dX9_stat_12 : decode cX9_stat 12 = .ok (.return_, 1) := by decide +kernel
theorem dX9_stat_13 : decode cX9_stat 13 = .ok (.aload_n 1, 1) := by decide +kernel
theorem dX9_stat_14 : decode cX9_stat 14 = .ok (.getfield 271, 3) := by decide +kernel
theorem dX9_stat_17 : decode cX9_stat 17 = .ok (.invokestatic 193, 3) := by decide +kernel
theorem dX9_stat_20 : decode cX9_stat 20 = .ok (.istore_n 2, 1) := by decide +kernel
theorem dX9_stat_21 : decode cX9_stat 21 = .ok (.aload_n 0, 1) := by decide +kernel
theorem dX9_stat_22 : decode cX9_stat 22 = .ok (.iload_n 2, 1) := by decide +kernel
theorem dX9_stat_23 : decode cX9_stat 23 = .ok (.iconst 0, 1) := by decide +kernel
theorem dX9_stat_24 : decode cX9_stat 24 = .ok (.invokevirtual 197, 3) := by decide +kernel
theorem dX9_stat_27 : decode cX9_stat 27 = .ok (.ifCond .ne 11, 3) := by decide +kernel
theorem dX9_stat_30 : decode cX9_stat 30 = .ok (.aload_n 0, 1) := by decide +kernel
theorem dX9_stat_31 : decode cX9_stat 31 = .ok (.bipush (-5), 2) := by decide +kernel
theorem dX9_stat_33 : decode cX9_stat 33 = .ok (.invokevirtual 225, 3) := by decide +kernel
theorem dX9_stat_36 : decode cX9_stat 36 = .ok (.pop, 1) := by decide +kernel
theorem dX9_stat_37 : decode cX9_stat 37 = .ok (.return_, 1) := by decide +kernel
theorem dX9_stat_38 : decode cX9_stat 38 = .ok (.aload_n 1, 1) := by decide +kernel
theorem dX9_stat_39 : decode cX9_stat 39 = .ok (.getfield 277, 3) := by decide +kernel
theorem dX9_stat_42 : decode cX9_stat 42 = .ok (.iconst 2, 1) := by decide +kernel
theorem dX9_stat_43 : decode cX9_stat 43 = .ok (.if_icmp .gt 17, 3) := by decide +kernel
theorem dX9_stat_46 : decode cX9_stat 46 = .ok (.aload_n 0, 1) := by decide +kernel
theorem dX9_stat_47 : decode cX9_stat 47 = .ok (.aload_n 0, 1) := by decide +kernel
theorem dX9_stat_48 : decode cX9_stat 48 = .ok (.iload_n 2, 1) := by decide +kernel
theorem dX9_stat_49 : decode cX9_stat 49 = .ok (.aload_n 1, 1) := by decide +kernel
theorem dX9_stat_50 : decode cX9_stat 50 = .ok (.getfield 277, 3) := by decide +kernel
theorem dX9_stat_53 : decode cX9_stat 53 = .ok (.invokevirtual 197, 3) := by decide +kernel
theorem dX9_stat_56 : decode cX9_stat 56 = .ok (.invokevirtual 283, 3) := by decide +kernel
theorem dX9_stat_59 : decode cX9_stat 59 = .ok (.return_, 1) := by decide +kernel
theorem dX9_stat_60 : decode cX9_stat 60 = .ok (.aload_n 0, 1) := by decide +kernel
theorem dX9_stat_61 : decode cX9_stat 61 = .ok (.iload_n 2, 1) := by decide +kernel
theorem dX9_stat_62 : decode cX9_stat 62 = .ok (.iconst 3, 1) := by decide +kernel
theorem dX9_stat_63 : decode cX9_stat 63 = .ok (.bipush 11, 2) := by decide +kernel
theorem dX9_stat_65 : decode cX9_stat 65 = .ok (.invokevirtual 309, 3) := by decide +kernel
theorem dX9_stat_68 : decode cX9_stat 68 = .ok (.istore_n 3, 1) := by decide +kernel
theorem dX9_stat_69 : decode cX9_stat 69 = .ok (.aload_n 0, 1) := by decide +kernel
theorem dX9_stat_70 : decode cX9_stat 70 = .ok (.iload_n 2, 1) := by decide +kernel
theorem dX9_stat_71 : decode cX9_stat 71 = .ok (.bipush 11, 2) := by decide +kernel
theorem dX9_stat_73 : decode cX9_stat 73 = .ok (.invokevirtual 197, 3) := by decide +kernel
theorem dX9_stat_76 : decode cX9_stat 76 = .ok (.istore 4, 2) := by decide +kernel
theorem dX9_stat_78 : decode cX9_stat 78 = .ok (.aload_n 0, 1) := by decide +kernel
theorem dX9_stat_79 : decode cX9_stat 79 = .ok (.iload 4, 2) := by decide +kernel
theorem dX9_stat_81 : decode cX9_stat 81 = .ok (.ifCond .ne 7, 3) := by decide +kernel
theorem dX9_stat_84 : decode cX9_stat 84 = .ok (.iload_n 3, 1) := by decide +kernel
theorem dX9_stat_85 : decode cX9_stat 85 = .ok (.goto 16, 3) := by decide +kernel
theorem dX9_stat_88 : decode cX9_stat 88 = .ok (.iload_n 3, 1) := by decide +kernel
theorem dX9_stat_89 : decode cX9_stat 89 = .ok (.iconst 1, 1) := by decide +kernel
theorem dX9_stat_90 : decode cX9_stat 90 = .ok (.iadd, 1) := by decide +kernel
theorem dX9_stat_91 : decode cX9_stat 91 = .ok (.aload_n 0, 1) := by decide +kernel
theorem dX9_stat_92 : decode cX9_stat 92 = .ok (.iload 4, 2) := by decide +kernel
theorem dX9_stat_94 : decode cX9_stat 94 = .ok (.iconst 0, 1) := by decide +kernel
theorem dX9_stat_95 : decode cX9_stat 95 = .ok (.bipush 16, 2) := by decide +kernel
theorem dX9_stat_97 : decode cX9_stat 97 = .ok (.invokevirtual 309, 3) := by decide +kernel
theorem dX9_stat_100 : decode cX9_stat 100 = .ok (.iadd, 1) := by decide +kernel
theorem dX9_stat_101 : decode cX9_stat 101 = .ok (.invokevirtual 283, 3) := by decide +kernel
theorem dX9_stat_104 : decode cX9_stat 104 = .ok (.return_, 1) := by decide +kernel
theorem dX9_countPlaces_0 : decode cX9_countPlaces 0 = .ok (.iconst 0, 1) := by decide +kernel
theorem dX9_countPlaces_1 : decode cX9_countPlaces 1 = .ok (.istore 4, 2) := by decide +kernel
theorem dX9_countPlaces_3 : decode cX9_countPlaces 3 = .ok (.iload_n 2, 1) := by decide +kernel
theorem dX9_countPlaces_4 : decode cX9_countPlaces 4 = .ok (.istore 5, 2) := by decide +kernel
theorem dX9_countPlaces_6 : decode cX9_countPlaces 6 = .ok (.iload 5, 2) := by decide +kernel
theorem dX9_countPlaces_8 : decode cX9_countPlaces 8 = .ok (.iload_n 3, 1) := by decide +kernel
theorem dX9_countPlaces_9 : decode cX9_countPlaces 9 = .ok (.if_icmp .ge 29, 3) := by decide +kernel
theorem dX9_countPlaces_12 : decode cX9_countPlaces 12 = .ok (.iload 4, 2) := by decide +kernel
theorem dX9_countPlaces_14 : decode cX9_countPlaces 14 = .ok (.aload_n 0, 1) := by decide +kernel
theorem dX9_countPlaces_15 : decode cX9_countPlaces 15 = .ok (.iload_n 1, 1) := by decide +kernel
theorem dX9_countPlaces_16 : decode cX9_countPlaces 16 = .ok (.iload 5, 2) := by decide +kernel
theorem dX9_countPlaces_18 : decode cX9_countPlaces 18 = .ok (.invokevirtual 197, 3) := by decide +kernel
theorem dX9_countPlaces_21 : decode cX9_countPlaces 21 = .ok (.ifCond .eq 7, 3) := by decide +kernel
theorem dX9_countPlaces_24 : decode cX9_countPlaces 24 = .ok (.iconst 1, 1) := by decide +kernel
theorem dX9_countPlaces_25 : decode cX9_countPlaces 25 = .ok (.goto 4, 3) := by decide +kernel
theorem dX9_countPlaces_28 : decode cX9_countPlaces 28 = .ok (.iconst 0, 1) := by decide +kernel
theorem dX9_countPlaces_29 : decode cX9_countPlaces 29 = .ok (.iadd, 1) := by decide +kernel
theorem dX9_countPlaces_30 : decode cX9_countPlaces 30 = .ok (.istore 4, 2) := by decide +kernel
theorem dX9_countPlaces_32 : decode cX9_countPlaces 32 = .ok (.iinc 5 1, 3) := by decide +kernel
theorem dX9_countPlaces_35 : decode cX9_countPlaces 35 = .ok (.goto (-29), 3) := by decide +kernel
theorem dX9_countPlaces_38 : decode cX9_countPlaces 38 = .ok (.iload 4, 2) := by decide +kernel
theorem dX9_countPlaces_40 : decode cX9_countPlaces 40 = .ok (.ireturn, 1) := by decide +kernel
theorem dX9_room_0 : decode cX9_room 0 = .ok (.iconst 0, 1) := by decide +kernel
theorem dX9_room_1 : decode cX9_room 1 = .ok (.istore_n 1, 1) := by decide +kernel
theorem dX9_room_2 : decode cX9_room 2 = .ok (.iconst 0, 1) := by decide +kernel
theorem dX9_room_3 : decode cX9_room 3 = .ok (.istore_n 2, 1) := by decide +kernel
theorem dX9_room_4 : decode cX9_room 4 = .ok (.iload_n 2, 1) := by decide +kernel
theorem dX9_room_5 : decode cX9_room 5 = .ok (.bipush 8, 2) := by decide +kernel
theorem dX9_room_7 : decode cX9_room 7 = .ok (.if_icmp .ge 57, 3) := by decide +kernel
theorem dX9_room_10 : decode cX9_room 10 = .ok (.aload_n 0, 1) := by decide +kernel
theorem dX9_room_11 : decode cX9_room 11 = .ok (.iload_n 2, 1) := by decide +kernel
theorem dX9_room_12 : decode cX9_room 12 = .ok (.invokestatic 208, 3) := by decide +kernel
theorem dX9_room_15 : decode cX9_room 15 = .ok (.iconst 1, 1) := by decide +kernel
theorem dX9_room_16 : decode cX9_room 16 = .ok (.invokevirtual 211, 3) := by decide +kernel
theorem dX9_room_19 : decode cX9_room 19 = .ok (.ifCond .ne 4, 3) := by decide +kernel
theorem dX9_room_22 : decode cX9_room 22 = .ok (.return_, 1) := by decide +kernel
theorem dX9_room_23 : decode cX9_room 23 = .ok (.iload_n 1, 1) := by decide +kernel
theorem dX9_room_24 : decode cX9_room 24 = .ok (.bipush 47, 2) := by decide +kernel
theorem dX9_room_26 : decode cX9_room 26 = .ok (.aload_n 0, 1) := by decide +kernel
theorem dX9_room_27 : decode cX9_room 27 = .ok (.iload_n 2, 1) := by decide +kernel
theorem dX9_room_28 : decode cX9_room 28 = .ok (.invokestatic 214, 3) := by decide +kernel
theorem dX9_room_31 : decode cX9_room 31 = .ok (.iconst 1, 1) := by decide +kernel
theorem dX9_room_32 : decode cX9_room 32 = .ok (.invokevirtual 197, 3) := by decide +kernel
theorem dX9_room_35 : decode cX9_room 35 = .ok (.invokestatic 313, 3) := by decide +kernel
theorem dX9_room_38 : decode cX9_room 38 = .ok (.isub, 1) := by decide +kernel
theorem dX9_room_39 : decode cX9_room 39 = .ok (.aload_n 0, 1) := by decide +kernel
theorem dX9_room_40 : decode cX9_room 40 = .ok (.iload_n 2, 1) := by decide +kernel
theorem dX9_room_41 : decode cX9_room 41 = .ok (.invokestatic 214, 3) := by decide +kernel
theorem dX9_room_44 : decode cX9_room 44 = .ok (.iconst 2, 1) := by decide +kernel
theorem dX9_room_45 : decode cX9_room 45 = .ok (.invokevirtual 197, 3) := by decide +kernel
theorem dX9_room_48 : decode cX9_room 48 = .ok (.sipush 32767, 3) := by decide +kernel
theorem dX9_room_51 : decode cX9_room 51 = .ok (.iand, 1) := by decide +kernel
theorem dX9_room_52 : decode cX9_room 52 = .ok (.invokestatic 313, 3) := by decide +kernel
theorem dX9_room_55 : decode cX9_room 55 = .ok (.isub, 1) := by decide +kernel
theorem dX9_room_56 : decode cX9_room 56 = .ok (.iadd, 1) := by decide +kernel
theorem dX9_room_57 : decode cX9_room 57 = .ok (.istore_n 1, 1) := by decide +kernel
theorem dX9_room_58 : decode cX9_room 58 = .ok (.iinc 2 1, 3) := by decide +kernel
theorem dX9_room_61 : decode cX9_room 61 = .ok (.goto (-57), 3) := by decide +kernel
theorem dX9_room_64 : decode cX9_room 64 = .ok (.aload_n 0, 1) := by decide +kernel
theorem dX9_room_65 : decode cX9_room 65 = .ok (.iload_n 1, 1) := by decide +kernel
theorem dX9_room_66 : decode cX9_room 66 = .ok (.invokevirtual 283, 3) := by decide +kernel
theorem dX9_room_69 : decode cX9_room 69 = .ok (.return_, 1) := by decide +kernel
theorem dX10_init_0 : decode cX10_init 0 = .ok (.aload_n 0, 1) := by decide +kernel
theorem dX10_init_1 : decode cX10_init 1 = .ok (.invokespecial 3, 3) := by decide +kernel
theorem dX10_init_4 : decode cX10_init 4 = .ok (.iload_n 1, 1) := by decide +kernel
theorem dX10_init_5 : decode cX10_init 5 = .ok (.iconst 2, 1) := by decide +kernel
theorem dX10_init_6 : decode cX10_init 6 = .ok (.if_icmp .ge 7, 3) := by decide +kernel
theorem dX10_init_9 : decode cX10_init 9 = .ok (.iconst 2, 1) := by decide +kernel
theorem dX10_init_10 : decode cX10_init 10 = .ok (.goto 13, 3) := by decide +kernel
theorem dX10_init_13 : decode cX10_init 13 = .ok (.iload_n 1, 1) := by decide +kernel
theorem dX10_init_14 : decode cX10_init 14 = .ok (.iconst 4, 1) := by decide +kernel
theorem dX10_init_15 : decode cX10_init 15 = .ok (.if_icmp .le 7, 3) := by decide +kernel
theorem dX10_init_18 : decode cX10_init 18 = .ok (.iconst 4, 1) := by decide +kernel
theorem dX10_init_19 : decode cX10_init 19 = .ok (.goto 4, 3) := by decide +kernel
theorem dX10_init_22 : decode cX10_init 22 = .ok (.iload_n 1, 1) := by decide +kernel
theorem dX10_init_23 : decode cX10_init 23 = .ok (.istore_n 2, 1) := by decide +kernel
theorem dX10_init_24 : decode cX10_init 24 = .ok (.aload_n 0, 1) := by decide +kernel
theorem dX10_init_25 : decode cX10_init 25 = .ok (.sipush 10240, 3) := by decide +kernel
theorem dX10_init_28 : decode cX10_init 28 = .ok (.newarray .int, 2) := by decide +kernel
theorem dX10_init_30 : decode cX10_init 30 = .ok (.putfield 9, 3) := by decide +kernel
theorem dX10_init_33 : decode cX10_init 33 = .ok (.aload_n 0, 1) := by decide +kernel
theorem dX10_init_34 : decode cX10_init 34 = .ok (.getfield 9, 3) := by decide +kernel
theorem dX10_init_37 : decode cX10_init 37 = .ok (.iconst 0, 1) := by decide +kernel
theorem dX10_init_38 : decode cX10_init 38 = .ok (.sipush 7177, 3) := by decide +kernel
theorem dX10_init_41 : decode cX10_init 41 = .ok (.iastore, 1) := by decide +kernel
theorem dX10_init_42 : decode cX10_init 42 = .ok (.aload_n 0, 1) := by decide +kernel
theorem dX10_init_43 : decode cX10_init 43 = .ok (.getfield 9, 3) := by decide +kernel
theorem dX10_init_46 : decode cX10_init 46 = .ok (.iconst 1, 1) := by decide +kernel
theorem dX10_init_47 : decode cX10_init 47 = .ok (.iload_n 2, 1) := by decide +kernel
theorem dX10_init_48 : decode cX10_init 48 = .ok (.iastore, 1) := by decide +kernel
theorem dX10_init_49 : decode cX10_init 49 = .ok (.aload_n 0, 1) := by decide +kernel
theorem dX10_init_50 : decode cX10_init 50 = .ok (.getfield 9, 3) := by decide +kernel
theorem dX10_init_53 : decode cX10_init 53 = .ok (.sipush 2048, 3) := by decide +kernel
theorem dX10_init_56 : decode cX10_init 56 = .ok (.iconst 1, 1) := by decide +kernel
theorem dX10_init_57 : decode cX10_init 57 = .ok (.iastore, 1) := by decide +kernel
theorem dX10_init_58 : decode cX10_init 58 = .ok (.iconst 0, 1) := by decide +kernel
theorem dX10_init_59 : decode cX10_init 59 = .ok (.invokestatic 13, 3) := by decide +kernel
theorem dX10_init_62 : decode cX10_init 62 = .ok (.bipush 16, 2) := by decide +kernel
theorem dX10_init_64 : decode cX10_init 64 = .ok (.imul, 1) := by decide +kernel
theorem dX10_init_65 : decode cX10_init 65 = .ok (.istore_n 3, 1) := by decide +kernel
theorem dX10_init_66 : decode cX10_init 66 = .ok (.aload_n 0, 1) := by decide +kernel
theorem dX10_init_67 : decode cX10_init 67 = .ok (.getfield 9, 3) := by decide +kernel
theorem dX10_init_70 : decode cX10_init 70 = .ok (.iload_n 3, 1) := by decide +kernel
theorem dX10_init_71 : decode cX10_init 71 = .ok (.iconst 0, 1) := by decide +kernel
theorem dX10_init_72 : decode cX10_init 72 = .ok (.iadd, 1) := by decide +kernel
theorem dX10_init_73 : decode cX10_init 73 = .ok (.iconst 2, 1) := by decide +kernel
theorem dX10_init_74 : decode cX10_init 74 = .ok (.iastore, 1) := by decide +kernel
theorem dX10_init_75 : decode cX10_init 75 = .ok (.aload_n 0, 1) := by decide +kernel
theorem dX10_init_76 : decode cX10_init 76 = .ok (.getfield 9, 3) := by decide +kernel
theorem dX10_init_79 : decode cX10_init 79 = .ok (.iload_n 3, 1) := by decide +kernel
theorem dX10_init_80 : decode cX10_init 80 = .ok (.iconst 1, 1) := by decide +kernel
theorem dX10_init_81 : decode cX10_init 81 = .ok (.iadd, 1) := by decide +kernel
theorem dX10_init_82 : decode cX10_init 82 = .ok (.iconst 1, 1) := by decide +kernel
theorem dX10_init_83 : decode cX10_init 83 = .ok (.iastore, 1) := by decide +kernel
theorem dX10_init_84 : decode cX10_init 84 = .ok (.aload_n 0, 1) := by decide +kernel
theorem dX10_init_85 : decode cX10_init 85 = .ok (.iload_n 2, 1) := by decide +kernel
theorem dX10_init_86 : decode cX10_init 86 = .ok (.anewarray 17, 3) := by decide +kernel
theorem dX10_init_89 : decode cX10_init 89 = .ok (.putfield 19, 3) := by decide +kernel
theorem dX10_init_92 : decode cX10_init 92 = .ok (.iconst 0, 1) := by decide +kernel
theorem dX10_init_93 : decode cX10_init 93 = .ok (.istore 4, 2) := by decide +kernel
theorem dX10_init_95 : decode cX10_init 95 = .ok (.iload 4, 2) := by decide +kernel
theorem dX10_init_97 : decode cX10_init 97 = .ok (.iload_n 2, 1) := by decide +kernel
theorem dX10_init_98 : decode cX10_init 98 = .ok (.if_icmp .ge 25, 3) := by decide +kernel
theorem dX10_init_101 : decode cX10_init 101 = .ok (.aload_n 0, 1) := by decide +kernel
theorem dX10_init_102 : decode cX10_init 102 = .ok (.getfield 19, 3) := by decide +kernel
theorem dX10_init_105 : decode cX10_init 105 = .ok (.iload 4, 2) := by decide +kernel
theorem dX10_init_107 : decode cX10_init 107 = .ok (.new 17, 3) := by decide +kernel
theorem dX10_init_110 : decode cX10_init 110 = .ok (.dup, 1) := by decide +kernel
theorem dX10_init_111 : decode cX10_init 111 = .ok (.iload 4, 2) := by decide +kernel
theorem dX10_init_113 : decode cX10_init 113 = .ok (.invokespecial 23, 3) := by decide +kernel
theorem dX10_init_116 : decode cX10_init 116 = .ok (.aastore, 1) := by decide +kernel
theorem dX10_init_117 : decode cX10_init 117 = .ok (.iinc 4 1, 3) := by decide +kernel
theorem dX10_init_120 : decode cX10_init 120 = .ok (.goto (-25), 3) := by decide +kernel
theorem dX10_init_123 : decode cX10_init 123 = .ok (.aload_n 0, 1) := by decide +kernel
theorem dX10_init_124 : decode cX10_init 124 = .ok (.new 26, 3) := by decide +kernel
theorem dX10_init_127 : decode cX10_init 127 = .ok (.dup, 1) := by decide +kernel
theorem dX10_init_128 : decode cX10_init 128 = .ok (.invokespecial 28, 3) := by decide +kernel
theorem dX10_init_131 : decode cX10_init 131 = .ok (.putfield 29, 3) := by decide +kernel
theorem dX10_init_134 : decode cX10_init 134 = .ok (.aload_n 0, 1) := by decide +kernel
theorem dX10_init_135 : decode cX10_init 135 = .ok (.new 33, 3) := by decide +kernel
theorem dX10_init_138 : decode cX10_init 138 = .ok (.dup, 1) := by decide +kernel
theorem dX10_init_139 : decode cX10_init 139 = .ok (.invokespecial 35, 3) := by decide +kernel
theorem dX10_init_142 : decode cX10_init 142 = .ok (.putfield 36, 3) := by decide +kernel
theorem dX10_init_145 : decode cX10_init 145 = .ok (.aload_n 0, 1) := by decide +kernel
theorem dX10_init_146 : decode cX10_init 146 = .ok (.new 40, 3) := by decide +kernel
theorem dX10_init_149 : decode cX10_init 149 = .ok (.dup, 1) := by decide +kernel
theorem dX10_init_150 : decode cX10_init 150 = .ok (.invokespecial 42, 3) := by decide +kernel
theorem dX10_init_153 : decode cX10_init 153 = .ok (.putfield 43, 3) := by decide +kernel
theorem dX10_init_156 : decode cX10_init 156 = .ok (.aload_n 0, 1) := by decide +kernel
theorem dX10_init_157 : decode cX10_init 157 = .ok (.new 47, 3) := by decide +kernel
theorem dX10_init_160 : decode cX10_init 160 = .ok (.dup, 1) := by decide +kernel
theorem dX10_init_161 : decode cX10_init 161 = .ok (.aload_n 0, 1) := by decide +kernel
theorem dX10_init_162 : decode cX10_init 162 = .ok (.getfield 9, 3) := by decide +kernel
theorem dX10_init_165 : decode cX10_init 165 = .ok (.aload_n 0, 1) := by decide +kernel
theorem dX10_init_166 : decode cX10_init 166 = .ok (.getfield 19, 3) := by decide +kernel
theorem dX10_init_169 : decode cX10_init 169 = .ok (.iconst 0, 1) := by decide +kernel
theorem dX10_init_170 : decode cX10_init 170 = .ok (.aaload, 1) := by decide +kernel
theorem dX10_init_171 : decode cX10_init 171 = .ok (.invokespecial 49, 3) := by decide +kernel
theorem dX10_init_174 : decode cX10_init 174 = .ok (.putfield 52, 3) := by decide +kernel
theorem dX10_init_177 : decode cX10_init 177 = .ok (.aload_n 0, 1) := by decide +kernel
theorem dX10_init_178 : decode cX10_init 178 = .ok (.new 56, 3) := by decide +kernel
theorem dX10_init_181 : decode cX10_init 181 = .ok (.dup, 1) := by decide +kernel
theorem dX10_init_182 : decode cX10_init 182 = .ok (.aload_n 0, 1) := by decide +kernel
theorem dX10_init_183 : decode cX10_init 183 = .ok (.getfield 9, 3) := by decide +kernel
theorem dX10_init_186 : decode cX10_init 186 = .ok (.invokespecial 58, 3) := by decide +kernel
theorem dX10_init_189 : decode cX10_init 189 = .ok (.putfield 61, 3) := by decide +kernel
theorem dX10_init_192 : decode cX10_init 192 = .ok (.return_, 1) := by decide +kernel
theorem dX10_call_0 : decode cX10_call 0 = .ok (.aload_n 0, 1) := by decide +kernel
theorem dX10_call_1 : decode cX10_call 1 = .ok (.iload_n 1, 1) := by decide +kernel
theorem dX10_call_2 : decode cX10_call 2 = .ok (.invokevirtual 65, 3) := by decide +kernel
theorem dX10_call_5 : decode cX10_call 5 = .ok (.ifCond .eq 17, 3) := by decide +kernel
theorem dX10_call_8 : decode cX10_call 8 = .ok (.iload_n 2, 1) := by decide +kernel
theorem dX10_call_9 : decode cX10_call 9 = .ok (.iload_n 3, 1) := by decide +kernel
theorem dX10_call_10 : decode cX10_call 10 = .ok (.iload 4, 2) := by decide +kernel
theorem dX10_call_12 : decode cX10_call 12 = .ok (.iload 5, 2) := by decide +kernel
theorem dX10_call_14 : decode cX10_call 14 = .ok (.iload 6, 2) := by decide +kernel
theorem dX10_call_16 : decode cX10_call 16 = .ok (.invokestatic 69, 3) := by decide +kernel
theorem dX10_call_19 : decode cX10_call 19 = .ok (.ifCond .ne 13, 3) := by decide +kernel
theorem dX10_call_22 : decode cX10_call 22 = .ok (.new 73, 3) := by decide +kernel
theorem dX10_call_25 : decode cX10_call 25 = .ok (.dup, 1) := by decide +kernel
theorem dX10_call_26 : decode cX10_call 26 = .ok (.ldc 75, 2) := by decide +kernel
theorem dX10_call_28 : decode cX10_call 28 = .ok (.invokespecial 77, 3) := by decide +kernel
theorem dX10_call_31 : decode cX10_call 31 = .ok (.athrow, 1) := by decide +kernel
theorem dX10_call_32 : decode cX10_call 32 = .ok (.aload_n 0, 1) := by decide +kernel
theorem dX10_call_33 : decode cX10_call 33 = .ok (.getfield 19, 3) := by decide +kernel
theorem dX10_call_36 : decode cX10_call 36 = .ok (.iload_n 1, 1) := by decide +kernel
theorem dX10_call_37 : decode cX10_call 37 = .ok (.aaload, 1) := by decide +kernel
theorem dX10_call_38 : decode cX10_call 38 = .ok (.astore 7, 2) := by decide +kernel
theorem dX10_call_40 : decode cX10_call 40 = .ok (.aload 7, 2) := by decide +kernel
theorem dX10_call_42 : decode cX10_call 42 = .ok (.getfield 80, 3) := by decide +kernel
theorem dX10_call_45 : decode cX10_call 45 = .ok (.ifCond .eq 15, 3) := by decide +kernel
theorem dX10_call_48 : decode cX10_call 48 = .ok (.aload 7, 2) := by decide +kernel
theorem dX10_call_50 : decode cX10_call 50 = .ok (.getfield 84, 3) := by decide +kernel
theorem dX10_call_53 : decode cX10_call 53 = .ok (.getfield 88, 3) := by decide +kernel
theorem dX10_call_56 : decode cX10_call 56 = .ok (.iconst 1, 1) := by decide +kernel
theorem dX10_call_57 : decode cX10_call 57 = .ok (.if_icmp .ne 13, 3) := by decide +kernel
theorem dX10_call_60 : decode cX10_call 60 = .ok (.new 94, 3) := by decide +kernel
theorem dX10_call_63 : decode cX10_call 63 = .ok (.dup, 1) := by decide +kernel
theorem dX10_call_64 : decode cX10_call 64 = .ok (.ldc 96, 2) := by decide +kernel
theorem dX10_call_66 : decode cX10_call 66 = .ok (.invokespecial 98, 3) := by decide +kernel
theorem dX10_call_69 : decode cX10_call 69 = .ok (.athrow, 1) := by decide +kernel
theorem dX10_call_70 : decode cX10_call 70 = .ok (.aload 7, 2) := by decide +kernel
theorem dX10_call_72 : decode cX10_call 72 = .ok (.getfield 84, 3) := by decide +kernel
theorem dX10_call_75 : decode cX10_call 75 = .ok (.iload_n 2, 1) := by decide +kernel
theorem dX10_call_76 : decode cX10_call 76 = .ok (.aload_n 0, 1) := by decide +kernel
theorem dX10_call_77 : decode cX10_call 77 = .ok (.getfield 99, 3) := by decide +kernel
theorem dX10_call_80 : decode cX10_call 80 = .ok (.invokevirtual 102, 3) := by decide +kernel
theorem dX10_call_83 : decode cX10_call 83 = .ok (.aload 7, 2) := by decide +kernel
theorem dX10_call_85 : decode cX10_call 85 = .ok (.getfield 84, 3) := by decide +kernel
theorem dX10_call_88 : decode cX10_call 88 = .ok (.iload_n 3, 1) := by decide +kernel
theorem dX10_call_89 : decode cX10_call 89 = .ok (.iload 4, 2) := by decide +kernel
theorem dX10_call_91 : decode cX10_call 91 = .ok (.iload 5, 2) := by decide +kernel
theorem dX10_call_93 : decode cX10_call 93 = .ok (.iload 6, 2) := by decide +kernel
theorem dX10_call_95 : decode cX10_call 95 = .ok (.invokevirtual 106, 3) := by decide +kernel
theorem dX10_call_98 : decode cX10_call 98 = .ok (.aload_n 0, 1) := by decide +kernel
theorem dX10_call_99 : decode cX10_call 99 = .ok (.aload 7, 2) := by decide +kernel
theorem dX10_call_101 : decode cX10_call 101 = .ok (.invokevirtual 110, 3) := by decide +kernel
theorem dX10_call_104 : decode cX10_call 104 = .ok (.aload 7, 2) := by decide +kernel
theorem dX10_call_106 : decode cX10_call 106 = .ok (.getfield 84, 3) := by decide +kernel
theorem dX10_call_109 : decode cX10_call 109 = .ok (.getfield 88, 3) := by decide +kernel
theorem dX10_call_112 : decode cX10_call 112 = .ok (.iconst 1, 1) := by decide +kernel
theorem dX10_call_113 : decode cX10_call 113 = .ok (.if_icmp .ne 7, 3) := by decide +kernel
theorem dX10_call_116 : decode cX10_call 116 = .ok (.iconst 0, 1) := by decide +kernel
theorem dX10_call_117 : decode cX10_call 117 = .ok (.goto 4, 3) := by decide +kernel
theorem dX10_call_120 : decode cX10_call 120 = .ok (.iconst 1, 1) := by decide +kernel
theorem dX10_call_121 : decode cX10_call 121 = .ok (.ireturn, 1) := by decide +kernel
theorem dX10_delay_0 : decode cX10_delay 0 = .ok (.aload_n 0, 1) := by decide +kernel
theorem dX10_delay_1 : decode cX10_delay 1 = .ok (.iload_n 1, 1) := by decide +kernel
theorem dX10_delay_2 : decode cX10_delay 2 = .ok (.invokevirtual 65, 3) := by decide +kernel
theorem dX10_delay_5 : decode cX10_delay 5 = .ok (.ifCond .eq 22, 3) := by decide +kernel
theorem dX10_delay_8 : decode cX10_delay 8 = .ok (.aload_n 0, 1) := by decide +kernel
theorem dX10_delay_9 : decode cX10_delay 9 = .ok (.iload_n 2, 1) := by decide +kernel
theorem dX10_delay_10 : decode cX10_delay 10 = .ok (.invokevirtual 65, 3) := by decide +kernel
theorem dX10_delay_13 : decode cX10_delay 13 = .ok (.ifCond .eq 14, 3) := by decide +kernel
theorem dX10_delay_16 : decode cX10_delay 16 = .ok (.iload_n 3, 1) := by decide +kernel
theorem dX10_delay_17 : decode cX10_delay 17 = .ok (.iconst 1, 1) := by decide +kernel
theorem dX10_delay_18 : decode cX10_delay 18 = .ok (.if_icmp .lt 9, 3) := by decide +kernel
theorem dX10_delay_21 : decode cX10_delay 21 = .ok (.iload_n 3, 1) := by decide +kernel
theorem dX10_delay_22 : decode cX10_delay 22 = .ok (.bipush 20, 2) := by decide +kernel
theorem dX10_delay_24 : decode cX10_delay 24 = .ok (.if_icmp .le 13, 3) := by decide +kernel
theorem dX10_delay_27 : decode cX10_delay 27 = .ok (.new 73, 3) := by decide +kernel
theorem dX10_delay_30 : decode cX10_delay 30 = .ok (.dup, 1) := by decide +kernel
theorem dX10_delay_31 : decode cX10_delay 31 = .ok (.ldc 114, 2) := by decide +kernel
theorem dX10_delay_33 : decode cX10_delay 33 = .ok (.invokespecial 77, 3) := by decide +kernel
theorem dX10_delay_36 : decode cX10_delay 36 = .ok (.athrow, 1) := by decide +kernel
theorem dX10_delay_37 : decode cX10_delay 37 = .ok (.aload_n 0, 1) := by decide +kernel
theorem dX10_delay_38 : decode cX10_delay 38 = .ok (.getfield 36, 3) := by decide +kernel
theorem dX10_delay_41 : decode cX10_delay 41 = .ok (.getfield 116, 3) := by decide +kernel
theorem dX10_delay_44 : decode cX10_delay 44 = .ok (.iload_n 1, 1) := by decide +kernel
theorem dX10_delay_45 : decode cX10_delay 45 = .ok (.iconst 4, 1) := by decide +kernel
theorem dX10_delay_46 : decode cX10_delay 46 = .ok (.imul, 1) := by decide +kernel
theorem dX10_delay_47 : decode cX10_delay 47 = .ok (.iload_n 2, 1) := by decide +kernel
theorem dX10_delay_48 : decode cX10_delay 48 = .ok (.iadd, 1) := by decide +kernel
theorem dX10_delay_49 : decode cX10_delay 49 = .ok (.iload_n 3, 1) := by decide +kernel
theorem dX10_delay_50 : decode cX10_delay 50 = .ok (.iastore, 1) := by decide +kernel
theorem dX10_delay_51 : decode cX10_delay 51 = .ok (.return_, 1) := by decide +kernel
theorem dX10_tick_0 : decode cX10_tick 0 = .ok (.iload_n 1, 1) := by decide +kernel
theorem dX10_tick_1 : decode cX10_tick 1 = .ok (.ifCond .lt 9, 3) := by decide +kernel
theorem dX10_tick_4 : decode cX10_tick 4 = .ok (.iload_n 1, 1) := by decide +kernel
theorem dX10_tick_5 : decode cX10_tick 5 = .ok (.bipush 100, 2) := by decide +kernel
theorem dX10_tick_7 : decode cX10_tick 7 = .ok (.if_icmp .le 13, 3) := by decide +kernel
theorem dX10_tick_10 : decode cX10_tick 10 = .ok (.new 73, 3) := by decide +kernel
theorem dX10_tick_13 : decode cX10_tick 13 = .ok (.dup, 1) := by decide +kernel
theorem dX10_tick_14 : decode cX10_tick 14 = .ok (.ldc 119, 2) := by decide +kernel
theorem dX10_tick_16 : decode cX10_tick 16 = .ok (.invokespecial 77, 3) := by decide +kernel
theorem dX10_tick_19 : decode cX10_tick 19 = .ok (.athrow, 1) := by decide +kernel
theorem dX10_tick_20 : decode cX10_tick 20 = .ok (.aload_n 0, 1) := by decide +kernel
theorem dX10_tick_21 : decode cX10_tick 21 = .ok (.getfield 43, 3) := by decide +kernel
theorem dX10_tick_24 : decode cX10_tick 24 = .ok (.getfield 121, 3) := by decide +kernel
theorem dX10_tick_27 : decode cX10_tick 27 = .ok (.istore_n 2, 1) := by decide +kernel
theorem dX10_tick_28 : decode cX10_tick 28 = .ok (.iconst 0, 1) := by decide +kernel
theorem dX10_tick_29 : decode cX10_tick 29 = .ok (.istore_n 3, 1) := by decide +kernel
theorem dX10_tick_30 : decode cX10_tick 30 = .ok (.iload_n 3, 1) := by decide +kernel
theorem dX10_tick_31 : decode cX10_tick 31 = .ok (.iload_n 1, 1) := by decide +kernel
theorem dX10_tick_32 : decode cX10_tick 32 = .ok (.if_icmp .ge 120, 3) := by decide +kernel
theorem dX10_tick_35 : decode cX10_tick 35 = .ok (.aload_n 0, 1) := by decide +kernel
theorem dX10_tick_36 : decode cX10_tick 36 = .ok (.dup, 1) := by decide +kernel
theorem dX10_tick_37 : decode cX10_tick 37 = .ok (.getfield 99, 3) := by decide +kernel
theorem dX10_tick_40 : decode cX10_tick 40 = .ok (.iconst 1, 1) := by decide +kernel
theorem dX10_tick_41 : decode cX10_tick 41 = .ok (.iadd, 1) := by decide +kernel
theorem dX10_tick_42 : decode cX10_tick 42 = .ok (.putfield 99, 3) := by decide +kernel
theorem dX10_tick_45 : decode cX10_tick 45 = .ok (.aload_n 0, 1) := by decide +kernel
theorem dX10_tick_46 : decode cX10_tick 46 = .ok (.getfield 36, 3) := by decide +kernel
theorem dX10_tick_49 : decode cX10_tick 49 = .ok (.aload_n 0, 1) := by decide +kernel
theorem dX10_tick_50 : decode cX10_tick 50 = .ok (.getfield 99, 3) := by decide +kernel
theorem dX10_tick_53 : decode cX10_tick 53 = .ok (.invokevirtual 124, 3) := by decide +kernel
theorem dX10_tick_56 : decode cX10_tick 56 = .ok (.istore 4, 2) := by decide +kernel
theorem dX10_tick_58 : decode cX10_tick 58 = .ok (.iconst 0, 1) := by decide +kernel
theorem dX10_tick_59 : decode cX10_tick 59 = .ok (.istore 5, 2) := by decide +kernel
theorem dX10_tick_61 : decode cX10_tick 61 = .ok (.iload 5, 2) := by decide +kernel
theorem dX10_tick_63 : decode cX10_tick 63 = .ok (.iload 4, 2) := by decide +kernel
theorem dX10_tick_65 : decode cX10_tick 65 = .ok (.if_icmp .ge 37, 3) := by decide +kernel
theorem dX10_tick_68 : decode cX10_tick 68 = .ok (.aload_n 0, 1) := by decide +kernel
theorem dX10_tick_69 : decode cX10_tick 69 = .ok (.iload 5, 2) := by decide +kernel
theorem dX10_tick_71 : decode cX10_tick 71 = .ok (.invokevirtual 127, 3) := by decide +kernel
theorem dX10_tick_74 : decode cX10_tick 74 = .ok (.istore 6, 2) := by decide +kernel
theorem dX10_tick_76 : decode cX10_tick 76 = .ok (.aload_n 0, 1) := by decide +kernel
theorem dX10_tick_77 : decode cX10_tick 77 = .ok (.iload 6, 2) := by decide +kernel
theorem dX10_tick_79 : decode cX10_tick 79 = .ok (.invokevirtual 65, 3) := by decide +kernel
theorem dX10_tick_82 : decode cX10_tick 82 = .ok (.ifCond .eq 14, 3) := by decide +kernel
theorem dX10_tick_85 : decode cX10_tick 85 = .ok (.aload_n 0, 1) := by decide +kernel
theorem dX10_tick_86 : decode cX10_tick 86 = .ok (.aload_n 0, 1) := by decide +kernel
theorem dX10_tick_87 : decode cX10_tick 87 = .ok (.getfield 19, 3) := by decide +kernel
theorem dX10_tick_90 : decode cX10_tick 90 = .ok (.iload 6, 2) := by decide +kernel
theorem dX10_tick_92 : decode cX10_tick 92 = .ok (.aaload, 1) := by decide +kernel
theorem dX10_tick_93 : decode cX10_tick 93 = .ok (.invokevirtual 110, 3) := by decide +kernel
theorem dX10_tick_96 : decode cX10_tick 96 = .ok (.iinc 5 1, 3) := by decide +kernel
theorem dX10_tick_99 : decode cX10_tick 99 = .ok (.goto (-38), 3) := by decide +kernel
theorem dX10_tick_102 : decode cX10_tick 102 = .ok (.iconst 0, 1) := by decide +kernel
theorem dX10_tick_103 : decode cX10_tick 103 = .ok (.istore 5, 2) := by decide +kernel
theorem dX10_tick_105 : decode cX10_tick 105 = .ok (.iload 5, 2) := by decide +kernel
theorem dX10_tick_107 : decode cX10_tick 107 = .ok (.aload_n 0, 1) := by decide +kernel
theorem dX10_tick_108 : decode cX10_tick 108 = .ok (.getfield 19, 3) := by decide +kernel
theorem dX10_tick_111 : decode cX10_tick 111 = .ok (.arraylength, 1) := by decide +kernel
theorem dX10_tick_112 : decode cX10_tick 112 = .ok (.if_icmp .ge 34, 3) := by decide +kernel
theorem dX10_tick_115 : decode cX10_tick 115 = .ok (.aload_n 0, 1) := by decide +kernel
theorem dX10_tick_116 : decode cX10_tick 116 = .ok (.aload_n 0, 1) := by decide +kernel
theorem dX10_tick_117 : decode cX10_tick 117 = .ok (.getfield 19, 3) := by decide +kernel
theorem dX10_tick_120 : decode cX10_tick 120 = .ok (.iload 5, 2) := by decide +kernel
theorem dX10_tick_122 : decode cX10_tick 122 = .ok (.aaload, 1) := by decide +kernel
theorem dX10_tick_123 : decode cX10_tick 123 = .ok (.invokevirtual 130, 3) := by decide +kernel
theorem dX10_tick_126 : decode cX10_tick 126 = .ok (.ifCond .eq 14, 3) := by decide +kernel
theorem dX10_tick_129 : decode cX10_tick 129 = .ok (.aload_n 0, 1) := by decide +kernel
theorem dX10_tick_130 : decode cX10_tick 130 = .ok (.aload_n 0, 1) := by decide +kernel
theorem dX10_tick_131 : decode cX10_tick 131 = .ok (.getfield 19, 3) := by decide +kernel
theorem dX10_tick_134 : decode cX10_tick 134 = .ok (.iload 5, 2) := by decide +kernel
theorem dX10_tick_136 : decode cX10_tick 136 = .ok (.aaload, 1) := by decide +kernel
theorem dX10_tick_137 : decode cX10_tick 137 = .ok (.invokevirtual 110, 3) := by decide +kernel
theorem dX10_tick_140 : decode cX10_tick 140 = .ok (.iinc 5 1, 3) := by decide +kernel
theorem dX10_tick_143 : decode cX10_tick 143 = .ok (.goto (-38), 3) := by decide +kernel
theorem dX10_tick_146 : decode cX10_tick 146 = .ok (.iinc 3 1, 3) := by decide +kernel
theorem dX10_tick_149 : decode cX10_tick 149 = .ok (.goto (-119), 3) := by decide +kernel
theorem dX10_tick_152 : decode cX10_tick 152 = .ok (.aload_n 0, 1) := by decide +kernel
theorem dX10_tick_153 : decode cX10_tick 153 = .ok (.getfield 43, 3) := by decide +kernel
theorem dX10_tick_156 : decode cX10_tick 156 = .ok (.getfield 121, 3) := by decide +kernel
theorem dX10_tick_159 : decode cX10_tick 159 = .ok (.iload_n 2, 1) := by decide +kernel
theorem dX10_tick_160 : decode cX10_tick 160 = .ok (.isub, 1) := by decide +kernel
theorem dX10_tick_161 : decode cX10_tick 161 = .ok (.ireturn, 1) := by decide +kernel
theorem dX10_crash_0 : decode cX10_crash 0 = .ok (.aload_n 0, 1) := by decide +kernel
theorem dX10_crash_1 : decode cX10_crash 1 = .ok (.iload_n 1, 1) := by decide +kernel
theorem dX10_crash_2 : decode cX10_crash 2 = .ok (.invokevirtual 65, 3) := by decide +kernel
theorem dX10_crash_5 : decode cX10_crash 5 = .ok (.ifCond .eq 13, 3) := by decide +kernel
theorem dX10_crash_8 : decode cX10_crash 8 = .ok (.iload_n 2, 1) := by decide +kernel
theorem dX10_crash_9 : decode cX10_crash 9 = .ok (.ifCond .lt 9, 3) := by decide +kernel
theorem dX10_crash_12 : decode cX10_crash 12 = .ok (.iload_n 2, 1) := by decide +kernel
theorem dX10_crash_13 : decode cX10_crash 13 = .ok (.bipush 16, 2) := by decide +kernel
theorem dX10_crash_15 : decode cX10_crash 15 = .ok (.if_icmp .lt 13, 3) := by decide +kernel
theorem dX10_crash_18 : decode cX10_crash 18 = .ok (.new 73, 3) := by decide +kernel
theorem dX10_crash_21 : decode cX10_crash 21 = .ok (.dup, 1) := by decide +kernel
theorem dX10_crash_22 : decode cX10_crash 22 = .ok (.ldc 134, 2) := by decide +kernel
theorem dX10_crash_24 : decode cX10_crash 24 = .ok (.invokespecial 77, 3) := by decide +kernel
theorem dX10_crash_27 : decode cX10_crash 27 = .ok (.athrow, 1) := by decide +kernel
theorem dX10_crash_28 : decode cX10_crash 28 = .ok (.aload_n 0, 1) := by decide +kernel
theorem dX10_crash_29 : decode cX10_crash 29 = .ok (.getfield 19, 3) := by decide +kernel
theorem dX10_crash_32 : decode cX10_crash 32 = .ok (.iload_n 1, 1) := by decide +kernel
theorem dX10_crash_33 : decode cX10_crash 33 = .ok (.aaload, 1) := by decide +kernel
theorem dX10_crash_34 : decode cX10_crash 34 = .ok (.astore_n 3, 1) := by decide +kernel
theorem dX10_crash_35 : decode cX10_crash 35 = .ok (.aload_n 3, 1) := by decide +kernel
theorem dX10_crash_36 : decode cX10_crash 36 = .ok (.getfield 80, 3) := by decide +kernel
theorem dX10_crash_39 : decode cX10_crash 39 = .ok (.ifCond .ne 13, 3) := by decide +kernel
theorem dX10_crash_42 : decode cX10_crash 42 = .ok (.new 94, 3) := by decide +kernel
theorem dX10_crash_45 : decode cX10_crash 45 = .ok (.dup, 1) := by decide +kernel
theorem dX10_crash_46 : decode cX10_crash 46 = .ok (.ldc 136, 2) := by decide +kernel
theorem dX10_crash_48 : decode cX10_crash 48 = .ok (.invokespecial 98, 3) := by decide +kernel
theorem dX10_crash_51 : decode cX10_crash 51 = .ok (.athrow, 1) := by decide +kernel
theorem dX10_crash_52 : decode cX10_crash 52 = .ok (.aload_n 0, 1) := by decide +kernel
theorem dX10_crash_53 : decode cX10_crash 53 = .ok (.aload_n 3, 1) := by decide +kernel
theorem dX10_crash_54 : decode cX10_crash 54 = .ok (.iload_n 2, 1) := by decide +kernel
theorem dX10_crash_55 : decode cX10_crash 55 = .ok (.invokevirtual 138, 3) := by decide +kernel
theorem dX10_crash_58 : decode cX10_crash 58 = .ok (.aload_n 0, 1) := by decide +kernel
theorem dX10_crash_59 : decode cX10_crash 59 = .ok (.getfield 43, 3) := by decide +kernel
theorem dX10_crash_62 : decode cX10_crash 62 = .ok (.iload_n 1, 1) := by decide +kernel
theorem dX10_crash_63 : decode cX10_crash 63 = .ok (.invokevirtual 142, 3) := by decide +kernel
theorem dX10_crash_66 : decode cX10_crash 66 = .ok (.aload_n 3, 1) := by decide +kernel
theorem dX10_crash_67 : decode cX10_crash 67 = .ok (.getfield 84, 3) := by decide +kernel
theorem dX10_crash_70 : decode cX10_crash 70 = .ok (.getfield 88, 3) := by decide +kernel
theorem dX10_crash_73 : decode cX10_crash 73 = .ok (.iconst 1, 1) := by decide +kernel
theorem dX10_crash_74 : decode cX10_crash 74 = .ok (.if_icmp .ne 26, 3) := by decide +kernel
theorem dX10_crash_77 : decode cX10_crash 77 = .ok (.aload_n 3, 1) := by decide +kernel
theorem dX10_crash_78 : decode cX10_crash 78 = .ok (.getfield 84, 3) := by decide +kernel
theorem dX10_crash_81 : decode cX10_crash 81 = .ok (.iconst 4, 1) := by decide +kernel
theorem dX10_crash_82 : decode cX10_crash 82 = .ok (.iconst 0, 1) := by decide +kernel
theorem dX10_crash_83 : decode cX10_crash 83 = .ok (.aload_n 0, 1) := by decide +kernel
theorem dX10_crash_84 : decode cX10_crash 84 = .ok (.getfield 99, 3) := by decide +kernel
theorem dX10_crash_87 : decode cX10_crash 87 = .ok (.invokevirtual 145, 3) := by decide +kernel
theorem dX10_crash_90 : decode cX10_crash 90 = .ok (.aload_n 0, 1) := by decide +kernel
theorem dX10_crash_91 : decode cX10_crash 91 = .ok (.dup, 1) := by decide +kernel
theorem dX10_crash_92 : decode cX10_crash 92 = .ok (.getfield 149, 3) := by decide +kernel
theorem dX10_crash_95 : decode cX10_crash 95 = .ok (.iconst 1, 1) := by decide +kernel
theorem dX10_crash_96 : decode cX10_crash 96 = .ok (.iadd, 1) := by decide +kernel
theorem dX10_crash_97 : decode cX10_crash 97 = .ok (.putfield 149, 3) := by decide +kernel
theorem dX10_crash_100 : decode cX10_crash 100 = .ok (.aload_n 3, 1) := by decide +kernel
theorem dX10_crash_101 : decode cX10_crash 101 = .ok (.invokevirtual 152, 3) := by decide +kernel
theorem dX10_crash_104 : decode cX10_crash 104 = .ok (.aload_n 0, 1) := by decide +kernel
theorem dX10_crash_105 : decode cX10_crash 105 = .ok (.getfield 36, 3) := by decide +kernel
theorem dX10_crash_108 : decode cX10_crash 108 = .ok (.iload_n 1, 1) := by decide +kernel
theorem dX10_crash_109 : decode cX10_crash 109 = .ok (.invokevirtual 155, 3) := by decide +kernel
theorem dX10_crash_112 : decode cX10_crash 112 = .ok (.iconst 0, 1) := by decide +kernel
theorem dX10_crash_113 : decode cX10_crash 113 = .ok (.istore 4, 2) := by decide +kernel
theorem dX10_crash_115 : decode cX10_crash 115 = .ok (.iload 4, 2) := by decide +kernel
theorem dX10_crash_117 : decode cX10_crash 117 = .ok (.sipush 136, 3) := by decide +kernel
theorem dX10_crash_120 : decode cX10_crash 120 = .ok (.if_icmp .ge 28, 3) := by decide +kernel
theorem dX10_crash_123 : decode cX10_crash 123 = .ok (.aload_n 0, 1) := by decide +kernel
theorem dX10_crash_124 : decode cX10_crash 124 = .ok (.iload 4, 2) := by decide +kernel
theorem dX10_crash_126 : decode cX10_crash 126 = .ok (.invokevirtual 158, 3) := by decide +kernel
theorem dX10_crash_129 : decode cX10_crash 129 = .ok (.iload_n 1, 1) := by decide +kernel
theorem dX10_crash_130 : decode cX10_crash 130 = .ok (.if_icmp .ne 12, 3) := by decide +kernel
theorem dX10_crash_133 : decode cX10_crash 133 = .ok (.aload_n 0, 1) := by decide +kernel
theorem dX10_crash_134 : decode cX10_crash 134 = .ok (.getfield 29, 3) := by decide +kernel
theorem dX10_crash_137 : decode cX10_crash 137 = .ok (.iload 4, 2) := by decide +kernel
theorem dX10_crash_139 : decode cX10_crash 139 = .ok (.invokevirtual 161, 3) := by decide +kernel
theorem dX10_crash_142 : decode cX10_crash 142 = .ok (.iinc 4 1, 3) := by decide +kernel
theorem dX10_crash_145 : decode cX10_crash 145 = .ok (.goto (-30), 3) := by decide +kernel
theorem dX10_crash_148 : decode cX10_crash 148 = .ok (.return_, 1) := by decide +kernel
theorem dX10_recover_0 : decode cX10_recover 0 = .ok (.aload_n 0, 1) := by decide +kernel
theorem dX10_recover_1 : decode cX10_recover 1 = .ok (.iload_n 1, 1) := by decide +kernel
theorem dX10_recover_2 : decode cX10_recover 2 = .ok (.invokevirtual 65, 3) := by decide +kernel
theorem dX10_recover_5 : decode cX10_recover 5 = .ok (.ifCond .ne 13, 3) := by decide +kernel
theorem dX10_recover_8 : decode cX10_recover 8 = .ok (.new 73, 3) := by decide +kernel
theorem dX10_recover_11 : decode cX10_recover 11 = .ok (.dup, 1) := by decide +kernel
theorem dX10_recover_12 : decode cX10_recover 12 = .ok (.ldc 164, 2) := by decide +kernel
theorem dX10_recover_14 : decode cX10_recover 14 = .ok (.invokespecial 77, 3) := by decide +kernel
theorem dX10_recover_17 : decode cX10_recover 17 = .ok (.athrow, 1) := by decide +kernel
theorem dX10_recover_18 : decode cX10_recover 18 = .ok (.aload_n 0, 1) := by decide +kernel
theorem dX10_recover_19 : decode cX10_recover 19 = .ok (.getfield 19, 3) := by decide +kernel
theorem dX10_recover_22 : decode cX10_recover 22 = .ok (.iload_n 1, 1) := by decide +kernel
theorem dX10_recover_23 : decode cX10_recover 23 = .ok (.aaload, 1) := by decide +kernel
theorem dX10_recover_24 : decode cX10_recover 24 = .ok (.getfield 80, 3) := by decide +kernel
theorem dX10_recover_27 : decode cX10_recover 27 = .ok (.ifCond .ne 15, 3) := by decide +kernel
theorem dX10_recover_30 : decode cX10_recover 30 = .ok (.aload_n 0, 1) := by decide +kernel
theorem dX10_recover_31 : decode cX10_recover 31 = .ok (.getfield 19, 3) := by decide +kernel
theorem dX10_recover_34 : decode cX10_recover 34 = .ok (.iload_n 1, 1) := by decide +kernel
theorem dX10_recover_35 : decode cX10_recover 35 = .ok (.aaload, 1) := by decide +kernel
theorem dX10_recover_36 : decode cX10_recover 36 = .ok (.getfield 166, 3) := by decide +kernel
theorem dX10_recover_39 : decode cX10_recover 39 = .ok (.ifCond .ne 13, 3) := by decide +kernel
theorem dX10_recover_42 : decode cX10_recover 42 = .ok (.new 94, 3) := by decide +kernel
theorem dX10_recover_45 : decode cX10_recover 45 = .ok (.dup, 1) := by decide +kernel
theorem dX10_recover_46 : decode cX10_recover 46 = .ok (.ldc 169, 2) := by decide +kernel
theorem dX10_recover_48 : decode cX10_recover 48 = .ok (.invokespecial 98, 3) := by decide +kernel
theorem dX10_recover_51 : decode cX10_recover 51 = .ok (.athrow, 1) := by decide +kernel
theorem dX10_recover_52 : decode cX10_recover 52 = .ok (.iconst 0, 1) := by decide +kernel
theorem dX10_recover_53 : decode cX10_recover 53 = .ok (.istore_n 2, 1) := by decide +kernel
theorem dX10_recover_54 : decode cX10_recover 54 = .ok (.iconst 0, 1) := by decide +kernel
theorem dX10_recover_55 : decode cX10_recover 55 = .ok (.istore_n 3, 1) := by decide +kernel
theorem dX10_recover_56 : decode cX10_recover 56 = .ok (.iload_n 3, 1) := by decide +kernel
theorem dX10_recover_57 : decode cX10_recover 57 = .ok (.aload_n 0, 1) := by decide +kernel
theorem dX10_recover_58 : decode cX10_recover 58 = .ok (.getfield 19, 3) := by decide +kernel
theorem dX10_recover_61 : decode cX10_recover 61 = .ok (.arraylength, 1) := by decide +kernel
theorem dX10_recover_62 : decode cX10_recover 62 = .ok (.if_icmp .ge 48, 3) := by decide +kernel
theorem dX10_recover_65 : decode cX10_recover 65 = .ok (.aload_n 0, 1) := by decide +kernel
theorem dX10_recover_66 : decode cX10_recover 66 = .ok (.getfield 19, 3) := by decide +kernel
theorem dX10_recover_69 : decode cX10_recover 69 = .ok (.iload_n 3, 1) := by decide +kernel
theorem dX10_recover_70 : decode cX10_recover 70 = .ok (.aaload, 1) := by decide +kernel
theorem dX10_recover_71 : decode cX10_recover 71 = .ok (.astore 4, 2) := by decide +kernel
theorem dX10_recover_73 : decode cX10_recover 73 = .ok (.aload 4, 2) := by decide +kernel
theorem dX10_recover_75 : decode cX10_recover 75 = .ok (.getfield 80, 3) := by decide +kernel
theorem dX10_recover_78 : decode cX10_recover 78 = .ok (.ifCond .ne 26, 3) := by decide +kernel
theorem dX10_recover_81 : decode cX10_recover 81 = .ok (.aload 4, 2) := by decide +kernel
theorem dX10_recover_83 : decode cX10_recover 83 = .ok (.getfield 166, 3) := by decide +kernel
theorem dX10_recover_86 : decode cX10_recover 86 = .ok (.ifCond .eq 18, 3) := by decide +kernel
theorem dX10_recover_89 : decode cX10_recover 89 = .ok (.iload_n 2, 1) := by decide +kernel
theorem dX10_recover_90 : decode cX10_recover 90 = .ok (.aload_n 0, 1) := by decide +kernel
theorem dX10_recover_91 : decode cX10_recover 91 = .ok (.aload 4, 2) := by decide +kernel
theorem dX10_recover_93 : decode cX10_recover 93 = .ok (.invokevirtual 171, 3) := by decide +kernel
theorem dX10_recover_96 : decode cX10_recover 96 = .ok (.iadd, 1) := by decide +kernel
theorem dX10_recover_97 : decode cX10_recover 97 = .ok (.istore_n 2, 1) := by decide +kernel
theorem dX10_recover_98 : decode cX10_recover 98 = .ok (.aload 4, 2) := by decide +kernel
theorem dX10_recover_100 : decode cX10_recover 100 = .ok (.iconst 0, 1) := by decide +kernel
theorem dX10_recover_101 : decode cX10_recover 101 = .ok (.putfield 166, 3) := by decide +kernel
theorem dX10_recover_104 : decode cX10_recover 104 = .ok (.iinc 3 1, 3) := by decide +kernel
theorem dX10_recover_107 : decode cX10_recover 107 = .ok (.goto (-51), 3) := by decide +kernel
theorem dX10_recover_110 : decode cX10_recover 110 = .ok (.aload_n 0, 1) := by decide +kernel
theorem dX10_recover_111 : decode cX10_recover 111 = .ok (.invokevirtual 175, 3) := by decide +kernel
theorem dX10_recover_114 : decode cX10_recover 114 = .ok (.iconst 0, 1) := by decide +kernel
theorem dX10_recover_115 : decode cX10_recover 115 = .ok (.istore_n 3, 1) := by decide +kernel
theorem dX10_recover_116 : decode cX10_recover 116 = .ok (.iload_n 3, 1) := by decide +kernel
theorem dX10_recover_117 : decode cX10_recover 117 = .ok (.aload_n 0, 1) := by decide +kernel
theorem dX10_recover_118 : decode cX10_recover 118 = .ok (.getfield 19, 3) := by decide +kernel
theorem dX10_recover_121 : decode cX10_recover 121 = .ok (.arraylength, 1) := by decide +kernel
theorem dX10_recover_122 : decode cX10_recover 122 = .ok (.if_icmp .ge 19, 3) := by decide +kernel
theorem dX10_recover_125 : decode cX10_recover 125 = .ok (.aload_n 0, 1) := by decide +kernel
theorem dX10_recover_126 : decode cX10_recover 126 = .ok (.aload_n 0, 1) := by decide +kernel
theorem dX10_recover_127 : decode cX10_recover 127 = .ok (.getfield 19, 3) := by decide +kernel
theorem dX10_recover_130 : decode cX10_recover 130 = .ok (.iload_n 3, 1) := by decide +kernel
theorem dX10_recover_131 : decode cX10_recover 131 = .ok (.aaload, 1) := by decide +kernel
theorem dX10_recover_132 : decode cX10_recover 132 = .ok (.invokevirtual 110, 3) := by decide +kernel
theorem dX10_recover_135 : decode cX10_recover 135 = .ok (.iinc 3 1, 3) := by decide +kernel
theorem dX10_recover_138 : decode cX10_recover 138 = .ok (.goto (-22), 3) := by decide +kernel
theorem dX10_recover_141 : decode cX10_recover 141 = .ok (.iload_n 2, 1) := by decide +kernel
theorem dX10_recover_142 : decode cX10_recover 142 = .ok (.ireturn, 1) := by decide +kernel
theorem dX10_start_0 : decode cX10_start 0 = .ok (.aload_n 0, 1) := by decide +kernel
theorem dX10_start_1 : decode cX10_start 1 = .ok (.iload_n 1, 1) := by decide +kernel
theorem dX10_start_2 : decode cX10_start 2 = .ok (.invokevirtual 65, 3) := by decide +kernel
theorem dX10_start_5 : decode cX10_start 5 = .ok (.ifCond .ne 13, 3) := by decide +kernel
theorem dX10_start_8 : decode cX10_start 8 = .ok (.new 73, 3) := by decide +kernel
theorem dX10_start_11 : decode cX10_start 11 = .ok (.dup, 1) := by decide +kernel
theorem dX10_start_12 : decode cX10_start 12 = .ok (.ldc 164, 2) := by decide +kernel
theorem dX10_start_14 : decode cX10_start 14 = .ok (.invokespecial 77, 3) := by decide +kernel
theorem dX10_start_17 : decode cX10_start 17 = .ok (.athrow, 1) := by decide +kernel
theorem dX10_start_18 : decode cX10_start 18 = .ok (.aload_n 0, 1) := by decide +kernel
theorem dX10_start_19 : decode cX10_start 19 = .ok (.getfield 19, 3) := by decide +kernel
theorem dX10_start_22 : decode cX10_start 22 = .ok (.iload_n 1, 1) := by decide +kernel
theorem dX10_start_23 : decode cX10_start 23 = .ok (.aaload, 1) := by decide +kernel
theorem dX10_start_24 : decode cX10_start 24 = .ok (.astore_n 2, 1) := by decide +kernel
theorem dX10_start_25 : decode cX10_start 25 = .ok (.aload_n 2, 1) := by decide +kernel
theorem dX10_start_26 : decode cX10_start 26 = .ok (.getfield 80, 3) := by decide +kernel
theorem dX10_start_29 : decode cX10_start 29 = .ok (.ifCond .ne 17, 3) := by decide +kernel
theorem dX10_start_32 : decode cX10_start 32 = .ok (.aload_n 2, 1) := by decide +kernel
theorem dX10_start_33 : decode cX10_start 33 = .ok (.getfield 166, 3) := by decide +kernel
theorem dX10_start_36 : decode cX10_start 36 = .ok (.ifCond .ne 10, 3) := by decide +kernel
theorem dX10_start_39 : decode cX10_start 39 = .ok (.aload_n 0, 1) := by decide +kernel
theorem dX10_start_40 : decode cX10_start 40 = .ok (.invokevirtual 178, 3) := by decide +kernel
theorem dX10_start_43 : decode cX10_start 43 = .ok (.ifCond .eq 13, 3) := by decide +kernel
theorem dX10_start_46 : decode cX10_start 46 = .ok (.new 94, 3) := by decide +kernel
theorem dX10_start_49 : decode cX10_start 49 = .ok (.dup, 1) := by decide +kernel
theorem dX10_start_50 : decode cX10_start 50 = .ok (.ldc 182, 2) := by decide +kernel
theorem dX10_start_52 : decode cX10_start 52 = .ok (.invokespecial 98, 3) := by decide +kernel
theorem dX10_start_55 : decode cX10_start 55 = .ok (.athrow, 1) := by decide +kernel
theorem dX10_start_56 : decode cX10_start 56 = .ok (.aload_n 2, 1) := by decide +kernel
theorem dX10_start_57 : decode cX10_start 57 = .ok (.iconst 1, 1) := by decide +kernel
theorem dX10_start_58 : decode cX10_start 58 = .ok (.putfield 80, 3) := by decide +kernel
theorem dX10_start_61 : decode cX10_start 61 = .ok (.aload_n 2, 1) := by decide +kernel
theorem dX10_start_62 : decode cX10_start 62 = .ok (.iconst 1, 1) := by decide +kernel
theorem dX10_start_63 : decode cX10_start 63 = .ok (.putfield 166, 3) := by decide +kernel
theorem dX10_start_66 : decode cX10_start 66 = .ok (.aload_n 0, 1) := by decide +kernel
theorem dX10_start_67 : decode cX10_start 67 = .ok (.invokevirtual 175, 3) := by decide +kernel
theorem dX10_start_70 : decode cX10_start 70 = .ok (.iconst 0, 1) := by decide +kernel
theorem dX10_start_71 : decode cX10_start 71 = .ok (.istore_n 3, 1) := by decide +kernel
theorem dX10_start_72 : decode cX10_start 72 = .ok (.iload_n 3, 1) := by decide +kernel
theorem dX10_start_73 : decode cX10_start 73 = .ok (.aload_n 0, 1) := by decide +kernel
theorem dX10_start_74 : decode cX10_start 74 = .ok (.getfield 19, 3) := by decide +kernel
theorem dX10_start_77 : decode cX10_start 77 = .ok (.arraylength, 1) := by decide +kernel
theorem dX10_start_78 : decode cX10_start 78 = .ok (.if_icmp .ge 19, 3) := by decide +kernel
theorem dX10_start_81 : decode cX10_start 81 = .ok (.aload_n 0, 1) := by decide +kernel
theorem dX10_start_82 : decode cX10_start 82 = .ok (.aload_n 0, 1) := by decide +kernel
theorem dX10_start_83 : decode cX10_start 83 = .ok (.getfield 19, 3) := by decide +kernel
theorem dX10_start_86 : decode cX10_start 86 = .ok (.iload_n 3, 1) := by decide +kernel
theorem dX10_start_87 : decode cX10_start 87 = .ok (.aaload, 1) := by decide +kernel
theorem dX10_start_88 : decode cX10_start 88 = .ok (.invokevirtual 110, 3) := by decide +kernel
theorem dX10_start_91 : decode cX10_start 91 = .ok (.iinc 3 1, 3) := by decide +kernel
theorem dX10_start_94 : decode cX10_start 94 = .ok (.goto (-22), 3) := by decide +kernel
theorem dX10_start_97 : decode cX10_start 97 = .ok (.return_, 1) := by decide +kernel
theorem dX10_result_0 : decode cX10_result 0 = .ok (.aload_n 0, 1) := by decide +kernel
theorem dX10_result_1 : decode cX10_result 1 = .ok (.iload_n 1, 1) := by decide +kernel
theorem dX10_result_2 : decode cX10_result 2 = .ok (.invokevirtual 65, 3) := by decide +kernel
theorem dX10_result_5 : decode cX10_result 5 = .ok (.ifCond .eq 12, 3) := by decide +kernel
theorem dX10_result_8 : decode cX10_result 8 = .ok (.iload_n 2, 1) := by decide +kernel
theorem dX10_result_9 : decode cX10_result 9 = .ok (.ifCond .lt 8, 3) := by decide +kernel
theorem dX10_result_12 : decode cX10_result 12 = .ok (.iload_n 2, 1) := by decide +kernel
theorem dX10_result_13 : decode cX10_result 13 = .ok (.iconst 4, 1) := by decide +kernel
theorem dX10_result_14 : decode cX10_result 14 = .ok (.if_icmp .le 13, 3) := by decide +kernel
theorem dX10_result_17 : decode cX10_result 17 = .ok (.new 73, 3) := by decide +kernel
theorem dX10_result_20 : decode cX10_result 20 = .ok (.dup, 1) := by decide +kernel
theorem dX10_result_21 : decode cX10_result 21 = .ok (.ldc 184, 2) := by decide +kernel
theorem dX10_result_23 : decode cX10_result 23 = .ok (.invokespecial 77, 3) := by decide +kernel
theorem dX10_result_26 : decode cX10_result 26 = .ok (.athrow, 1) := by decide +kernel
theorem dX10_result_27 : decode cX10_result 27 = .ok (.aload_n 0, 1) := by decide +kernel
theorem dX10_result_28 : decode cX10_result 28 = .ok (.getfield 19, 3) := by decide +kernel
theorem dX10_result_31 : decode cX10_result 31 = .ok (.iload_n 1, 1) := by decide +kernel
theorem dX10_result_32 : decode cX10_result 32 = .ok (.aaload, 1) := by decide +kernel
theorem dX10_result_33 : decode cX10_result 33 = .ok (.getfield 84, 3) := by decide +kernel
theorem dX10_result_36 : decode cX10_result 36 = .ok (.astore_n 3, 1) := by decide +kernel
theorem dX10_result_37 : decode cX10_result 37 = .ok (.iload_n 2, 1) := by decide +kernel
theorem dX10_result_38 : decode cX10_result 38 = .ok (.tableswitch 70 0 3 #[30, 35, 40, 65], 30) := by decide +kernel
theorem dX10_result_68 : decode cX10_result 68 = .ok (.aload_n 3, 1) := by decide +kernel
theorem dX10_result_69 : decode cX10_result 69 = .ok (.getfield 88, 3) := by decide +kernel
theorem dX10_result_72 : decode cX10_result 72 = .ok (.ireturn, 1) := by decide +kernel
theorem dX10_result_73 : decode cX10_result 73 = .ok (.aload_n 3, 1) := by decide +kernel
theorem dX10_result_74 : decode cX10_result 74 = .ok (.getfield 186, 3) := by decide +kernel
theorem dX10_result_77 : decode cX10_result 77 = .ok (.ireturn, 1) := by decide +kernel
theorem dX10_result_78 : decode cX10_result 78 = .ok (.aload_n 3, 1) := by decide +kernel
theorem dX10_result_79 : decode cX10_result 79 = .ok (.getfield 88, 3) := by decide +kernel
theorem dX10_result_82 : decode cX10_result 82 = .ok (.iconst 1, 1) := by decide +kernel
theorem dX10_result_83 : decode cX10_result 83 = .ok (.if_icmp .ne 15, 3) := by decide +kernel
theorem dX10_result_86 : decode cX10_result 86 = .ok (.aload_n 0, 1) := by decide +kernel
theorem dX10_result_87 : decode cX10_result 87 = .ok (.getfield 99, 3) := by decide +kernel
theorem dX10_result_90 : decode cX10_result 90 = .ok (.aload_n 3, 1) := by decide +kernel
theorem dX10_result_91 : decode cX10_result 91 = .ok (.getfield 189, 3) := by decide +kernel
theorem dX10_result_94 : decode cX10_result 94 = .ok (.isub, 1) := by decide +kernel
theorem dX10_result_95 : decode cX10_result 95 = .ok (.goto 7, 3) := by decide +kernel
theorem dX10_result_98 : decode cX10_result 98 = .ok (.aload_n 3, 1) := by decide +kernel
theorem dX10_result_99 : decode cX10_result 99 = .ok (.getfield 192, 3) := by decide +kernel
theorem dX10_result_102 : decode cX10_result 102 = .ok (.ireturn, 1) := by decide +kernel
theorem dX10_result_103 : decode cX10_result 103 = .ok (.aload_n 3, 1) := by decide +kernel
theorem dX10_result_104 : decode cX10_result 104 = .ok (.getfield 195, 3) := by decide +kernel
theorem dX10_result_107 : decode cX10_result 107 = .ok (.ireturn, 1) := by decide +kernel
theorem dX10_result_108 : decode cX10_result 108 = .ok (.aload_n 3, 1) := by decide +kernel
theorem dX10_result_109 : decode cX10_result 109 = .ok (.getfield 198, 3) := by decide +kernel
theorem dX10_result_112 : decode cX10_result 112 = .ok (.ireturn, 1) := by decide +kernel
theorem dX10_history_0 : decode cX10_history 0 = .ok (.iload_n 1, 1) := by decide +kernel
theorem dX10_history_1 : decode cX10_history 1 = .ok (.ifCond .lt 14, 3) := by decide +kernel
theorem dX10_history_4 : decode cX10_history 4 = .ok (.iload_n 1, 1) := by decide +kernel
theorem dX10_history_5 : decode cX10_history 5 = .ok (.aload_n 0, 1) := by decide +kernel
theorem dX10_history_6 : decode cX10_history 6 = .ok (.getfield 43, 3) := by decide +kernel
theorem dX10_history_9 : decode cX10_history 9 = .ok (.invokevirtual 201, 3) := by decide +kernel
theorem dX10_history_12 : decode cX10_history 12 = .ok (.if_icmp .lt 13, 3) := by decide +kernel
theorem dX10_history_15 : decode cX10_history 15 = .ok (.new 205, 3) := by decide +kernel
theorem dX10_history_18 : decode cX10_history 18 = .ok (.dup, 1) := by decide +kernel
theorem dX10_history_19 : decode cX10_history 19 = .ok (.ldc 207, 2) := by decide +kernel
theorem dX10_history_21 : decode cX10_history 21 = .ok (.invokespecial 209, 3) := by decide +kernel
theorem dX10_history_24 : decode cX10_history 24 = .ok (.athrow, 1) := by decide +kernel
theorem dX10_history_25 : decode cX10_history 25 = .ok (.iload_n 2, 1) := by decide +kernel
theorem dX10_history_26 : decode cX10_history 26 = .ok (.ifCond .lt 9, 3) := by decide +kernel
theorem dX10_history_29 : decode cX10_history 29 = .ok (.iload_n 2, 1) := by decide +kernel
theorem dX10_history_30 : decode cX10_history 30 = .ok (.bipush 10, 2) := by decide +kernel
theorem dX10_history_32 : decode cX10_history 32 = .ok (.if_icmp .lt 13, 3) := by decide +kernel
theorem dX10_history_35 : decode cX10_history 35 = .ok (.new 73, 3) := by decide +kernel
theorem dX10_history_38 : decode cX10_history 38 = .ok (.dup, 1) := by decide +kernel
theorem dX10_history_39 : decode cX10_history 39 = .ok (.ldc 210, 2) := by decide +kernel
theorem dX10_history_41 : decode cX10_history 41 = .ok (.invokespecial 77, 3) := by decide +kernel
theorem dX10_history_44 : decode cX10_history 44 = .ok (.athrow, 1) := by decide +kernel
theorem dX10_history_45 : decode cX10_history 45 = .ok (.aload_n 0, 1) := by decide +kernel
theorem dX10_history_46 : decode cX10_history 46 = .ok (.getfield 43, 3) := by decide +kernel
theorem dX10_history_49 : decode cX10_history 49 = .ok (.getfield 212, 3) := by decide +kernel
theorem dX10_history_52 : decode cX10_history 52 = .ok (.iload_n 1, 1) := by decide +kernel
theorem dX10_history_53 : decode cX10_history 53 = .ok (.bipush 10, 2) := by decide +kernel
theorem dX10_history_55 : decode cX10_history 55 = .ok (.imul, 1) := by decide +kernel
theorem dX10_history_56 : decode cX10_history 56 = .ok (.iload_n 2, 1) := by decide +kernel
theorem dX10_history_57 : decode cX10_history 57 = .ok (.iadd, 1) := by decide +kernel
theorem dX10_history_58 : decode cX10_history 58 = .ok (.iaload, 1) := by decide +kernel
theorem dX10_history_59 : decode cX10_history 59 = .ok (.ireturn, 1) := by decide +kernel
theorem dX10_word_0 : decode cX10_word 0 = .ok (.iload_n 1, 1) := by decide +kernel
theorem dX10_word_1 : decode cX10_word 1 = .ok (.iload_n 2, 1) := by decide +kernel
theorem dX10_word_2 : decode cX10_word 2 = .ok (.invokestatic 215, 3) := by decide +kernel
theorem dX10_word_5 : decode cX10_word 5 = .ok (.ifCond .ne 13, 3) := by decide +kernel
theorem dX10_word_8 : decode cX10_word 8 = .ok (.new 205, 3) := by decide +kernel
theorem dX10_word_11 : decode cX10_word 11 = .ok (.dup, 1) := by decide +kernel
theorem dX10_word_12 : decode cX10_word 12 = .ok (.ldc 219, 2) := by decide +kernel
theorem dX10_word_14 : decode cX10_word 14 = .ok (.invokespecial 209, 3) := by decide +kernel
theorem dX10_word_17 : decode cX10_word 17 = .ok (.athrow, 1) := by decide +kernel
theorem dX10_word_18 : decode cX10_word 18 = .ok (.aload_n 0, 1) := by decide +kernel
theorem dX10_word_19 : decode cX10_word 19 = .ok (.getfield 9, 3) := by decide +kernel
theorem dX10_word_22 : decode cX10_word 22 = .ok (.iload_n 1, 1) := by decide +kernel
theorem dX10_word_23 : decode cX10_word 23 = .ok (.bipush 16, 2) := by decide +kernel
theorem dX10_word_25 : decode cX10_word 25 = .ok (.imul, 1) := by decide +kernel
theorem dX10_word_26 : decode cX10_word 26 = .ok (.iload_n 2, 1) := by decide +kernel
theorem dX10_word_27 : decode cX10_word 27 = .ok (.iadd, 1) := by decide +kernel
theorem dX10_word_28 : decode cX10_word 28 = .ok (.iaload, 1) := by decide +kernel
theorem dX10_word_29 : decode cX10_word 29 = .ok (.ireturn, 1) := by decide +kernel
theorem dX10_cached_0 : decode cX10_cached 0 = .ok (.aload_n 0, 1) := by decide +kernel
theorem dX10_cached_1 : decode cX10_cached 1 = .ok (.iload_n 1, 1) := by decide +kernel
theorem dX10_cached_2 : decode cX10_cached 2 = .ok (.invokevirtual 65, 3) := by decide +kernel
theorem dX10_cached_5 : decode cX10_cached 5 = .ok (.ifCond .ne 13, 3) := by decide +kernel
theorem dX10_cached_8 : decode cX10_cached 8 = .ok (.new 73, 3) := by decide +kernel
theorem dX10_cached_11 : decode cX10_cached 11 = .ok (.dup, 1) := by decide +kernel
theorem dX10_cached_12 : decode cX10_cached 12 = .ok (.ldc 164, 2) := by decide +kernel
theorem dX10_cached_14 : decode cX10_cached 14 = .ok (.invokespecial 77, 3) := by decide +kernel
theorem dX10_cached_17 : decode cX10_cached 17 = .ok (.athrow, 1) := by decide +kernel
theorem dX10_cached_18 : decode cX10_cached 18 = .ok (.iload_n 2, 1) := by decide +kernel
theorem dX10_cached_19 : decode cX10_cached 19 = .ok (.iload_n 3, 1) := by decide +kernel
theorem dX10_cached_20 : decode cX10_cached 20 = .ok (.invokestatic 215, 3) := by decide +kernel
theorem dX10_cached_23 : decode cX10_cached 23 = .ok (.ifCond .ne 13, 3) := by decide +kernel
theorem dX10_cached_26 : decode cX10_cached 26 = .ok (.new 205, 3) := by decide +kernel
theorem dX10_cached_29 : decode cX10_cached 29 = .ok (.dup, 1) := by decide +kernel
theorem dX10_cached_30 : decode cX10_cached 30 = .ok (.ldc 219, 2) := by decide +kernel
theorem dX10_cached_32 : decode cX10_cached 32 = .ok (.invokespecial 209, 3) := by decide +kernel
theorem dX10_cached_35 : decode cX10_cached 35 = .ok (.athrow, 1) := by decide +kernel
theorem dX10_cached_36 : decode cX10_cached 36 = .ok (.aload_n 0, 1) := by decide +kernel
theorem dX10_cached_37 : decode cX10_cached 37 = .ok (.getfield 19, 3) := by decide +kernel
theorem dX10_cached_40 : decode cX10_cached 40 = .ok (.iload_n 1, 1) := by decide +kernel
theorem dX10_cached_41 : decode cX10_cached 41 = .ok (.aaload, 1) := by decide +kernel
theorem dX10_cached_42 : decode cX10_cached 42 = .ok (.getfield 221, 3) := by decide +kernel
theorem dX10_cached_45 : decode cX10_cached 45 = .ok (.astore 4, 2) := by decide +kernel
theorem dX10_cached_47 : decode cX10_cached 47 = .ok (.aload 4, 2) := by decide +kernel
theorem dX10_cached_49 : decode cX10_cached 49 = .ok (.getfield 225, 3) := by decide +kernel
theorem dX10_cached_52 : decode cX10_cached 52 = .ok (.iload_n 2, 1) := by decide +kernel
theorem dX10_cached_53 : decode cX10_cached 53 = .ok (.baload, 1) := by decide +kernel
theorem dX10_cached_54 : decode cX10_cached 54 = .ok (.ifCond .ne 13, 3) := by decide +kernel
theorem dX10_cached_57 : decode cX10_cached 57 = .ok (.new 231, 3) := by decide +kernel
theorem dX10_cached_60 : decode cX10_cached 60 = .ok (.dup, 1) := by decide +kernel
theorem dX10_cached_61 : decode cX10_cached 61 = .ok (.ldc 233, 2) := by decide +kernel
theorem dX10_cached_63 : decode cX10_cached 63 = .ok (.invokespecial 235, 3) := by decide +kernel
theorem dX10_cached_66 : decode cX10_cached 66 = .ok (.athrow, 1) := by decide +kernel
theorem dX10_cached_67 : decode cX10_cached 67 = .ok (.aload 4, 2) := by decide +kernel
theorem dX10_cached_69 : decode cX10_cached 69 = .ok (.getfield 236, 3) := by decide +kernel
theorem dX10_cached_72 : decode cX10_cached 72 = .ok (.iload_n 2, 1) := by decide +kernel
theorem dX10_cached_73 : decode cX10_cached 73 = .ok (.bipush 16, 2) := by decide +kernel
theorem dX10_cached_75 : decode cX10_cached 75 = .ok (.imul, 1) := by decide +kernel
theorem dX10_cached_76 : decode cX10_cached 76 = .ok (.iload_n 3, 1) := by decide +kernel
theorem dX10_cached_77 : decode cX10_cached 77 = .ok (.iadd, 1) := by decide +kernel
theorem dX10_cached_78 : decode cX10_cached 78 = .ok (.iaload, 1) := by decide +kernel
theorem dX10_cached_79 : decode cX10_cached 79 = .ok (.ireturn, 1) := by decide +kernel
theorem dX10_lock_0 : decode cX10_lock 0 = .ok (.aload_n 0, 1) := by decide +kernel
theorem dX10_lock_1 : decode cX10_lock 1 = .ok (.iload_n 1, 1) := by decide +kernel
theorem dX10_lock_2 : decode cX10_lock 2 = .ok (.invokevirtual 65, 3) := by decide +kernel
theorem dX10_lock_5 : decode cX10_lock 5 = .ok (.ifCond .eq 19, 3) := by decide +kernel
theorem dX10_lock_8 : decode cX10_lock 8 = .ok (.iload_n 2, 1) := by decide +kernel
theorem dX10_lock_9 : decode cX10_lock 9 = .ok (.invokestatic 239, 3) := by decide +kernel
theorem dX10_lock_12 : decode cX10_lock 12 = .ok (.ifCond .eq 12, 3) := by decide +kernel
theorem dX10_lock_15 : decode cX10_lock 15 = .ok (.iload_n 3, 1) := by decide +kernel
theorem dX10_lock_16 : decode cX10_lock 16 = .ok (.ifCond .lt 8, 3) := by decide +kernel
theorem dX10_lock_19 : decode cX10_lock 19 = .ok (.iload_n 3, 1) := by decide +kernel
theorem dX10_lock_20 : decode cX10_lock 20 = .ok (.iconst 4, 1) := by decide +kernel
theorem dX10_lock_21 : decode cX10_lock 21 = .ok (.if_icmp .le 13, 3) := by decide +kernel
theorem dX10_lock_24 : decode cX10_lock 24 = .ok (.new 73, 3) := by decide +kernel
theorem dX10_lock_27 : decode cX10_lock 27 = .ok (.dup, 1) := by decide +kernel
theorem dX10_lock_28 : decode cX10_lock 28 = .ok (.ldc 242, 2) := by decide +kernel
theorem dX10_lock_30 : decode cX10_lock 30 = .ok (.invokespecial 77, 3) := by decide +kernel
theorem dX10_lock_33 : decode cX10_lock 33 = .ok (.athrow, 1) := by decide +kernel
theorem dX10_lock_34 : decode cX10_lock 34 = .ok (.aload_n 0, 1) := by decide +kernel
theorem dX10_lock_35 : decode cX10_lock 35 = .ok (.getfield 19, 3) := by decide +kernel
theorem dX10_lock_38 : decode cX10_lock 38 = .ok (.iload_n 1, 1) := by decide +kernel
theorem dX10_lock_39 : decode cX10_lock 39 = .ok (.aaload, 1) := by decide +kernel
theorem dX10_lock_40 : decode cX10_lock 40 = .ok (.getfield 244, 3) := by decide +kernel
theorem dX10_lock_43 : decode cX10_lock 43 = .ok (.astore 4, 2) := by decide +kernel
theorem dX10_lock_45 : decode cX10_lock 45 = .ok (.iload_n 3, 1) := by decide +kernel
theorem dX10_lock_46 : decode cX10_lock 46 = .ok (.tableswitch 62 0 3 #[30, 38, 46, 54], 30) := by decide +kernel
theorem dX10_lock_76 : decode cX10_lock 76 = .ok (.aload 4, 2) := by decide +kernel
theorem dX10_lock_78 : decode cX10_lock 78 = .ok (.getfield 248, 3) := by decide +kernel
theorem dX10_lock_81 : decode cX10_lock 81 = .ok (.iload_n 2, 1) := by decide +kernel
theorem dX10_lock_82 : decode cX10_lock 82 = .ok (.iaload, 1) := by decide +kernel
theorem dX10_lock_83 : decode cX10_lock 83 = .ok (.ireturn, 1) := by decide +kernel
theorem dX10_lock_84 : decode cX10_lock 84 = .ok (.aload 4, 2) := by decide +kernel
theorem dX10_lock_86 : decode cX10_lock 86 = .ok (.getfield 253, 3) := by decide +kernel
theorem dX10_lock_89 : decode cX10_lock 89 = .ok (.iload_n 2, 1) := by decide +kernel
theorem dX10_lock_90 : decode cX10_lock 90 = .ok (.iaload, 1) := by decide +kernel
theorem dX10_lock_91 : decode cX10_lock 91 = .ok (.ireturn, 1) := by decide +kernel
theorem dX10_lock_92 : decode cX10_lock 92 = .ok (.aload 4, 2) := by decide +kernel
theorem dX10_lock_94 : decode cX10_lock 94 = .ok (.getfield 256, 3) := by decide +kernel
theorem dX10_lock_97 : decode cX10_lock 97 = .ok (.iload_n 2, 1) := by decide +kernel
theorem dX10_lock_98 : decode cX10_lock 98 = .ok (.iaload, 1) := by decide +kernel
theorem dX10_lock_99 : decode cX10_lock 99 = .ok (.ireturn, 1) := by decide +kernel
theorem dX10_lock_100 : decode cX10_lock 100 = .ok (.aload 4, 2) := by decide +kernel
theorem dX10_lock_102 : decode cX10_lock 102 = .ok (.getfield 259, 3) := by decide +kernel
theorem dX10_lock_105 : decode cX10_lock 105 = .ok (.iload_n 2, 1) := by decide +kernel
theorem dX10_lock_106 : decode cX10_lock 106 = .ok (.iaload, 1) := by decide +kernel
theorem dX10_lock_107 : decode cX10_lock 107 = .ok (.ireturn, 1) := by decide +kernel
theorem dX10_lock_108 : decode cX10_lock 108 = .ok (.aload_n 0, 1) := by decide +kernel
theorem dX10_lock_109 : decode cX10_lock 109 = .ok (.getfield 29, 3) := by decide +kernel
theorem dX10_lock_112 : decode cX10_lock 112 = .ok (.getfield 262, 3) := by decide +kernel
theorem dX10_lock_115 : decode cX10_lock 115 = .ok (.iload_n 2, 1) := by decide +kernel
theorem dX10_lock_116 : decode cX10_lock 116 = .ok (.iconst 4, 1) := by decide +kernel
theorem dX10_lock_117 : decode cX10_lock 117 = .ok (.imul, 1) := by decide +kernel
theorem dX10_lock_118 : decode cX10_lock 118 = .ok (.iload_n 1, 1) := by decide +kernel
theorem dX10_lock_119 : decode cX10_lock 119 = .ok (.iadd, 1) := by decide +kernel
theorem dX10_lock_120 : decode cX10_lock 120 = .ok (.iaload, 1) := by decide +kernel
theorem dX10_lock_121 : decode cX10_lock 121 = .ok (.ireturn, 1) := by decide +kernel
theorem dX10_row_0 : decode cX10_row 0 = .ok (.iload_n 1, 1) := by decide +kernel
theorem dX10_row_1 : decode cX10_row 1 = .ok (.invokestatic 239, 3) := by decide +kernel
theorem dX10_row_4 : decode cX10_row 4 = .ok (.ifCond .eq 7, 3) := by decide +kernel
theorem dX10_row_7 : decode cX10_row 7 = .ok (.iload_n 2, 1) := by decide +kernel
theorem dX10_row_8 : decode cX10_row 8 = .ok (.ifCond .ge 14, 3) := by decide +kernel
theorem dX10_row_11 : decode cX10_row 11 = .ok (.new 73, 3) := by decide +kernel
theorem dX10_row_14 : decode cX10_row 14 = .ok (.dup, 1) := by decide +kernel
theorem dX10_row_15 : decode cX10_row 15 = .ok (.ldc_w 265, 3) := by decide +kernel
theorem dX10_row_18 : decode cX10_row 18 = .ok (.invokespecial 77, 3) := by decide +kernel
theorem dX10_row_21 : decode cX10_row 21 = .ok (.athrow, 1) := by decide +kernel
theorem dX10_row_22 : decode cX10_row 22 = .ok (.iload_n 2, 1) := by decide +kernel
theorem dX10_row_23 : decode cX10_row 23 = .ok (.ifCond .ne 9, 3) := by decide +kernel
theorem dX10_row_26 : decode cX10_row 26 = .ok (.aload_n 0, 1) := by decide +kernel
theorem dX10_row_27 : decode cX10_row 27 = .ok (.iload_n 1, 1) := by decide +kernel
theorem dX10_row_28 : decode cX10_row 28 = .ok (.invokevirtual 158, 3) := by decide +kernel
theorem dX10_row_31 : decode cX10_row 31 = .ok (.ireturn, 1) := by decide +kernel
theorem dX10_row_32 : decode cX10_row 32 = .ok (.aload_n 0, 1) := by decide +kernel
theorem dX10_row_33 : decode cX10_row 33 = .ok (.getfield 29, 3) := by decide +kernel
theorem dX10_row_36 : decode cX10_row 36 = .ok (.getfield 267, 3) := by decide +kernel
theorem dX10_row_39 : decode cX10_row 39 = .ok (.iload_n 1, 1) := by decide +kernel
theorem dX10_row_40 : decode cX10_row 40 = .ok (.iaload, 1) := by decide +kernel
theorem dX10_row_41 : decode cX10_row 41 = .ok (.istore_n 3, 1) := by decide +kernel
theorem dX10_row_42 : decode cX10_row 42 = .ok (.iload_n 2, 1) := by decide +kernel
theorem dX10_row_43 : decode cX10_row 43 = .ok (.iconst 1, 1) := by decide +kernel
theorem dX10_row_44 : decode cX10_row 44 = .ok (.if_icmp .ne 5, 3) := by decide +kernel
theorem dX10_row_47 : decode cX10_row 47 = .ok (.iload_n 3, 1) := by decide +kernel
theorem dX10_row_48 : decode cX10_row 48 = .ok (.ireturn, 1) := by decide +kernel
theorem dX10_row_49 : decode cX10_row 49 = .ok (.iload_n 2, 1) := by decide +kernel
theorem dX10_row_50 : decode cX10_row 50 = .ok (.iconst 2, 1) := by decide +kernel
theorem dX10_row_51 : decode cX10_row 51 = .ok (.isub, 1) := by decide +kernel
theorem dX10_row_52 : decode cX10_row 52 = .ok (.iconst 2, 1) := by decide +kernel
theorem dX10_row_53 : decode cX10_row 53 = .ok (.idiv, 1) := by decide +kernel
theorem dX10_row_54 : decode cX10_row 54 = .ok (.istore 4, 2) := by decide +kernel
theorem dX10_row_56 : decode cX10_row 56 = .ok (.iload 4, 2) := by decide +kernel
theorem dX10_row_58 : decode cX10_row 58 = .ok (.iload_n 3, 1) := by decide +kernel
theorem dX10_row_59 : decode cX10_row 59 = .ok (.if_icmp .lt 5, 3) := by decide +kernel
theorem dX10_row_62 : decode cX10_row 62 = .ok (.iconst (-1), 1) := by decide +kernel
theorem dX10_row_63 : decode cX10_row 63 = .ok (.ireturn, 1) := by decide +kernel
theorem dX10_row_64 : decode cX10_row 64 = .ok (.iload_n 1, 1) := by decide +kernel
theorem dX10_row_65 : decode cX10_row 65 = .ok (.iconst 4, 1) := by decide +kernel
theorem dX10_row_66 : decode cX10_row 66 = .ok (.imul, 1) := by decide +kernel
theorem dX10_row_67 : decode cX10_row 67 = .ok (.iload 4, 2) := by decide +kernel
theorem dX10_row_69 : decode cX10_row 69 = .ok (.iadd, 1) := by decide +kernel
theorem dX10_row_70 : decode cX10_row 70 = .ok (.istore 5, 2) := by decide +kernel
theorem dX10_row_72 : decode cX10_row 72 = .ok (.iload_n 2, 1) := by decide +kernel
theorem dX10_row_73 : decode cX10_row 73 = .ok (.iconst 2, 1) := by decide +kernel
theorem dX10_row_74 : decode cX10_row 74 = .ok (.irem, 1) := by decide +kernel
theorem dX10_row_75 : decode cX10_row 75 = .ok (.ifCond .ne 16, 3) := by decide +kernel
theorem dX10_row_78 : decode cX10_row 78 = .ok (.aload_n 0, 1) := by decide +kernel
theorem dX10_row_79 : decode cX10_row 79 = .ok (.getfield 29, 3) := by decide +kernel
theorem dX10_row_82 : decode cX10_row 82 = .ok (.getfield 270, 3) := by decide +kernel
theorem dX10_row_85 : decode cX10_row 85 = .ok (.iload 5, 2) := by decide +kernel
theorem dX10_row_87 : decode cX10_row 87 = .ok (.iaload, 1) := by decide +kernel
theorem dX10_row_88 : decode cX10_row 88 = .ok (.goto 13, 3) := by decide +kernel
theorem dX10_row_91 : decode cX10_row 91 = .ok (.aload_n 0, 1) := by decide +kernel
theorem dX10_row_92 : decode cX10_row 92 = .ok (.getfield 29, 3) := by decide +kernel
theorem dX10_row_95 : decode cX10_row 95 = .ok (.getfield 273, 3) := by decide +kernel
theorem dX10_row_98 : decode cX10_row 98 = .ok (.iload 5, 2) := by decide +kernel
theorem dX10_row_100 : decode cX10_row 100 = .ok (.iaload, 1) := by decide +kernel
theorem dX10_row_101 : decode cX10_row 101 = .ok (.ireturn, 1) := by decide +kernel
theorem dX10_message_0 : decode cX10_message 0 = .ok (.iload_n 1, 1) := by decide +kernel
theorem dX10_message_1 : decode cX10_message 1 = .ok (.ifCond .lt 14, 3) := by decide +kernel
theorem dX10_message_4 : decode cX10_message 4 = .ok (.iload_n 1, 1) := by decide +kernel
theorem dX10_message_5 : decode cX10_message 5 = .ok (.aload_n 0, 1) := by decide +kernel
theorem dX10_message_6 : decode cX10_message 6 = .ok (.getfield 36, 3) := by decide +kernel
theorem dX10_message_9 : decode cX10_message 9 = .ok (.getfield 276, 3) := by decide +kernel
theorem dX10_message_12 : decode cX10_message 12 = .ok (.if_icmp .lt 14, 3) := by decide +kernel
theorem dX10_message_15 : decode cX10_message 15 = .ok (.new 205, 3) := by decide +kernel
theorem dX10_message_18 : decode cX10_message 18 = .ok (.dup, 1) := by decide +kernel
theorem dX10_message_19 : decode cX10_message 19 = .ok (.ldc_w 279, 3) := by decide +kernel
theorem dX10_message_22 : decode cX10_message 22 = .ok (.invokespecial 209, 3) := by decide +kernel
theorem dX10_message_25 : decode cX10_message 25 = .ok (.athrow, 1) := by decide +kernel
theorem dX10_message_26 : decode cX10_message 26 = .ok (.iload_n 2, 1) := by decide +kernel
theorem dX10_message_27 : decode cX10_message 27 = .ok (.ifCond .lt 9, 3) := by decide +kernel
theorem dX10_message_30 : decode cX10_message 30 = .ok (.iload_n 2, 1) := by decide +kernel
theorem dX10_message_31 : decode cX10_message 31 = .ok (.bipush 6, 2) := by decide +kernel
theorem dX10_message_33 : decode cX10_message 33 = .ok (.if_icmp .lt 13, 3) := by decide +kernel
theorem dX10_message_36 : decode cX10_message 36 = .ok (.new 73, 3) := by decide +kernel
theorem dX10_message_39 : decode cX10_message 39 = .ok (.dup, 1) := by decide +kernel
theorem dX10_message_40 : decode cX10_message 40 = .ok (.ldc 210, 2) := by decide +kernel
theorem dX10_message_42 : decode cX10_message 42 = .ok (.invokespecial 77, 3) := by decide +kernel
theorem dX10_message_45 : decode cX10_message 45 = .ok (.athrow, 1) := by decide +kernel
theorem dX10_message_46 : decode cX10_message 46 = .ok (.aload_n 0, 1) := by decide +kernel
theorem dX10_message_47 : decode cX10_message 47 = .ok (.getfield 36, 3) := by decide +kernel
theorem dX10_message_50 : decode cX10_message 50 = .ok (.getfield 281, 3) := by decide +kernel
theorem dX10_message_53 : decode cX10_message 53 = .ok (.iload_n 1, 1) := by decide +kernel
theorem dX10_message_54 : decode cX10_message 54 = .ok (.bipush 6, 2) := by decide +kernel
theorem dX10_message_56 : decode cX10_message 56 = .ok (.imul, 1) := by decide +kernel
theorem dX10_message_57 : decode cX10_message 57 = .ok (.iload_n 2, 1) := by decide +kernel
theorem dX10_message_58 : decode cX10_message 58 = .ok (.iadd, 1) := by decide +kernel
theorem dX10_message_59 : decode cX10_message 59 = .ok (.iaload, 1) := by decide +kernel
theorem dX10_message_60 : decode cX10_message 60 = .ok (.ireturn, 1) := by decide +kernel
theorem dX10_node_0 : decode cX10_node 0 = .ok (.aload_n 0, 1) := by decide +kernel
theorem dX10_node_1 : decode cX10_node 1 = .ok (.iload_n 1, 1) := by decide +kernel
theorem dX10_node_2 : decode cX10_node 2 = .ok (.invokevirtual 65, 3) := by decide +kernel
theorem dX10_node_5 : decode cX10_node 5 = .ok (.ifCond .eq 13, 3) := by decide +kernel
theorem dX10_node_8 : decode cX10_node 8 = .ok (.iload_n 2, 1) := by decide +kernel
theorem dX10_node_9 : decode cX10_node 9 = .ok (.ifCond .lt 9, 3) := by decide +kernel
theorem dX10_node_12 : decode cX10_node 12 = .ok (.iload_n 2, 1) := by decide +kernel
theorem dX10_node_13 : decode cX10_node 13 = .ok (.bipush 6, 2) := by decide +kernel
theorem dX10_node_15 : decode cX10_node 15 = .ok (.if_icmp .le 13, 3) := by decide +kernel
theorem dX10_node_18 : decode cX10_node 18 = .ok (.new 73, 3) := by decide +kernel
theorem dX10_node_21 : decode cX10_node 21 = .ok (.dup, 1) := by decide +kernel
theorem dX10_node_22 : decode cX10_node 22 = .ok (.ldc 184, 2) := by decide +kernel
theorem dX10_node_24 : decode cX10_node 24 = .ok (.invokespecial 77, 3) := by decide +kernel
theorem dX10_node_27 : decode cX10_node 27 = .ok (.athrow, 1) := by decide +kernel
theorem dX10_node_28 : decode cX10_node 28 = .ok (.aload_n 0, 1) := by decide +kernel
theorem dX10_node_29 : decode cX10_node 29 = .ok (.getfield 19, 3) := by decide +kernel
theorem dX10_node_32 : decode cX10_node 32 = .ok (.iload_n 1, 1) := by decide +kernel
theorem dX10_node_33 : decode cX10_node 33 = .ok (.aaload, 1) := by decide +kernel
theorem dX10_node_34 : decode cX10_node 34 = .ok (.astore_n 3, 1) := by decide +kernel
theorem dX10_node_35 : decode cX10_node 35 = .ok (.iload_n 2, 1) := by decide +kernel
theorem dX10_node_36 : decode cX10_node 36 = .ok (.tableswitch 98 0 5 #[40, 53, 66, 74, 82, 90], 40) := by decide +kernel
theorem dX10_node_76 : decode cX10_node 76 = .ok (.aload_n 3, 1) := by decide +kernel
theorem dX10_node_77 : decode cX10_node 77 = .ok (.getfield 80, 3) := by decide +kernel
theorem dX10_node_80 : decode cX10_node 80 = .ok (.ifCond .eq 7, 3) := by decide +kernel
theorem dX10_node_83 : decode cX10_node 83 = .ok (.iconst 1, 1) := by decide +kernel
theorem dX10_node_84 : decode cX10_node 84 = .ok (.goto 4, 3) := by decide +kernel
theorem dX10_node_87 : decode cX10_node 87 = .ok (.iconst 0, 1) := by decide +kernel
theorem dX10_node_88 : decode cX10_node 88 = .ok (.ireturn, 1) := by decide +kernel
theorem dX10_node_89 : decode cX10_node 89 = .ok (.aload_n 3, 1) := by decide +kernel
theorem dX10_node_90 : decode cX10_node 90 = .ok (.getfield 166, 3) := by decide +kernel
theorem dX10_node_93 : decode cX10_node 93 = .ok (.ifCond .eq 7, 3) := by decide +kernel
theorem dX10_node_96 : decode cX10_node 96 = .ok (.iconst 1, 1) := by decide +kernel
theorem dX10_node_97 : decode cX10_node 97 = .ok (.goto 4, 3) := by decide +kernel
theorem dX10_node_100 : decode cX10_node 100 = .ok (.iconst 0, 1) := by decide +kernel
theorem dX10_node_101 : decode cX10_node 101 = .ok (.ireturn, 1) := by decide +kernel
theorem dX10_node_102 : decode cX10_node 102 = .ok (.aload_n 3, 1) := by decide +kernel
theorem dX10_node_103 : decode cX10_node 103 = .ok (.getfield 284, 3) := by decide +kernel
theorem dX10_node_106 : decode cX10_node 106 = .ok (.getfield 288, 3) := by decide +kernel
theorem dX10_node_109 : decode cX10_node 109 = .ok (.ireturn, 1) := by decide +kernel
theorem dX10_node_110 : decode cX10_node 110 = .ok (.aload_n 3, 1) := by decide +kernel
theorem dX10_node_111 : decode cX10_node 111 = .ok (.getfield 284, 3) := by decide +kernel
theorem dX10_node_114 : decode cX10_node 114 = .ok (.invokevirtual 293, 3) := by decide +kernel
theorem dX10_node_117 : decode cX10_node 117 = .ok (.ireturn, 1) := by decide +kernel
theorem dX10_node_118 : decode cX10_node 118 = .ok (.aload_n 3, 1) := by decide +kernel
theorem dX10_node_119 : decode cX10_node 119 = .ok (.getfield 284, 3) := by decide +kernel
theorem dX10_node_122 : decode cX10_node 122 = .ok (.getfield 296, 3) := by decide +kernel
theorem dX10_node_125 : decode cX10_node 125 = .ok (.ireturn, 1) := by decide +kernel
theorem dX10_node_126 : decode cX10_node 126 = .ok (.aload_n 3, 1) := by decide +kernel
theorem dX10_node_127 : decode cX10_node 127 = .ok (.getfield 221, 3) := by decide +kernel
theorem dX10_node_130 : decode cX10_node 130 = .ok (.getfield 299, 3) := by decide +kernel
theorem dX10_node_133 : decode cX10_node 133 = .ok (.ireturn, 1) := by decide +kernel
theorem dX10_node_134 : decode cX10_node 134 = .ok (.aload_n 3, 1) := by decide +kernel
theorem dX10_node_135 : decode cX10_node 135 = .ok (.getfield 284, 3) := by decide +kernel
theorem dX10_node_138 : decode cX10_node 138 = .ok (.invokevirtual 300, 3) := by decide +kernel
theorem dX10_node_141 : decode cX10_node 141 = .ok (.ireturn, 1) := by decide +kernel
theorem dX10_about_0 : decode cX10_about 0 = .ok (.iload_n 1, 1) := by decide +kernel
theorem dX10_about_1 : decode cX10_about 1 = .ok (.tableswitch 124 0 9 #[55, 60, 68, 76, 81, 89, 94, 100, 106, 112], 55) := by decide +kernel
theorem dX10_about_56 : decode cX10_about 56 = .ok (.aload_n 0, 1) := by decide +kernel
theorem dX10_about_57 : decode cX10_about 57 = .ok (.getfield 99, 3) := by decide +kernel
theorem dX10_about_60 : decode cX10_about 60 = .ok (.ireturn, 1) := by decide +kernel
theorem dX10_about_61 : decode cX10_about 61 = .ok (.aload_n 0, 1) := by decide +kernel
theorem dX10_about_62 : decode cX10_about 62 = .ok (.getfield 36, 3) := by decide +kernel
theorem dX10_about_65 : decode cX10_about 65 = .ok (.getfield 276, 3) := by decide +kernel
theorem dX10_about_68 : decode cX10_about 68 = .ok (.ireturn, 1) := by decide +kernel
theorem dX10_about_69 : decode cX10_about 69 = .ok (.aload_n 0, 1) := by decide +kernel
theorem dX10_about_70 : decode cX10_about 70 = .ok (.getfield 36, 3) := by decide +kernel
theorem dX10_about_73 : decode cX10_about 73 = .ok (.getfield 303, 3) := by decide +kernel
theorem dX10_about_76 : decode cX10_about 76 = .ok (.ireturn, 1) := by decide +kernel
theorem dX10_about_77 : decode cX10_about 77 = .ok (.aload_n 0, 1) := by decide +kernel
theorem dX10_about_78 : decode cX10_about 78 = .ok (.getfield 306, 3) := by decide +kernel
theorem dX10_about_81 : decode cX10_about 81 = .ok (.ireturn, 1) := by decide +kernel
theorem dX10_about_82 : decode cX10_about 82 = .ok (.aload_n 0, 1) := by decide +kernel
theorem dX10_about_83 : decode cX10_about 83 = .ok (.getfield 43, 3) := by decide +kernel
theorem dX10_about_86 : decode cX10_about 86 = .ok (.getfield 121, 3) := by decide +kernel
theorem dX10_about_89 : decode cX10_about 89 = .ok (.ireturn, 1) := by decide +kernel
theorem dX10_about_90 : decode cX10_about 90 = .ok (.aload_n 0, 1) := by decide +kernel
theorem dX10_about_91 : decode cX10_about 91 = .ok (.getfield 149, 3) := by decide +kernel
theorem dX10_about_94 : decode cX10_about 94 = .ok (.ireturn, 1) := by decide +kernel
theorem dX10_about_95 : decode cX10_about 95 = .ok (.aload_n 0, 1) := by decide +kernel
theorem dX10_about_96 : decode cX10_about 96 = .ok (.getfield 19, 3) := by decide +kernel
theorem dX10_about_99 : decode cX10_about 99 = .ok (.arraylength, 1) := by decide +kernel
theorem dX10_about_100 : decode cX10_about 100 = .ok (.ireturn, 1) := by decide +kernel
theorem dX10_about_101 : decode cX10_about 101 = .ok (.aload_n 0, 1) := by decide +kernel
theorem dX10_about_102 : decode cX10_about 102 = .ok (.iconst 1, 1) := by decide +kernel
theorem dX10_about_103 : decode cX10_about 103 = .ok (.invokevirtual 309, 3) := by decide +kernel
theorem dX10_about_106 : decode cX10_about 106 = .ok (.ireturn, 1) := by decide +kernel
theorem dX10_about_107 : decode cX10_about 107 = .ok (.aload_n 0, 1) := by decide +kernel
theorem dX10_about_108 : decode cX10_about 108 = .ok (.iconst 0, 1) := by decide +kernel
theorem dX10_about_109 : decode cX10_about 109 = .ok (.invokevirtual 309, 3) := by decide +kernel
theorem dX10_about_112 : decode cX10_about 112 = .ok (.ireturn, 1) := by decide +kernel
theorem dX10_about_113 : decode cX10_about 113 = .ok (.aload_n 0, 1) := by decide +kernel
theorem dX10_about_114 : decode cX10_about 114 = .ok (.getfield 61, 3) := by decide +kernel
theorem dX10_about_117 : decode cX10_about 117 = .ok (.aload_n 0, 1) := by decide +kernel
theorem dX10_about_118 : decode cX10_about 118 = .ok (.getfield 19, 3) := by decide +kernel
theorem dX10_about_121 : decode cX10_about 121 = .ok (.invokevirtual 313, 3) := by decide +kernel
theorem dX10_about_124 : decode cX10_about 124 = .ok (.ireturn, 1) := by decide +kernel
theorem dX10_about_125 : decode cX10_about 125 = .ok (.new 73, 3) := by decide +kernel
theorem dX10_about_128 : decode cX10_about 128 = .ok (.dup, 1) := by decide +kernel
theorem dX10_about_129 : decode cX10_about 129 = .ok (.ldc 210, 2) := by decide +kernel
theorem dX10_about_131 : decode cX10_about 131 = .ok (.invokespecial 77, 3) := by decide +kernel
theorem dX10_about_134 : decode cX10_about 134 = .ok (.athrow, 1) := by decide +kernel
theorem dX10_isNode_0 : decode cX10_isNode 0 = .ok (.iload_n 1, 1) := by decide +kernel
theorem dX10_isNode_1 : decode cX10_isNode 1 = .ok (.ifCond .lt 16, 3) := by decide +kernel
theorem dX10_isNode_4 : decode cX10_isNode 4 = .ok (.iload_n 1, 1) := by decide +kernel
theorem dX10_isNode_5 : decode cX10_isNode 5 = .ok (.aload_n 0, 1) := by decide +kernel
theorem dX10_isNode_6 : decode cX10_isNode 6 = .ok (.getfield 19, 3) := by decide +kernel
theorem dX10_isNode_9 : decode cX10_isNode 9 = .ok (.arraylength, 1) := by decide +kernel
theorem dX10_isNode_10 : decode cX10_isNode 10 = .ok (.if_icmp .ge 7, 3) := by decide +kernel
theorem dX10_isNode_13 : decode cX10_isNode 13 = .ok (.iconst 1, 1) := by decide +kernel
theorem dX10_isNode_14 : decode cX10_isNode 14 = .ok (.goto 4, 3) := by decide +kernel
theorem dX10_isNode_17 : decode cX10_isNode 17 = .ok (.iconst 0, 1) := by decide +kernel
theorem dX10_isNode_18 : decode cX10_isNode 18 = .ok (.ireturn, 1) := by decide +kernel
theorem dX10_isResource_0 : decode cX10_isResource 0 = .ok (.iload_n 0, 1) := by decide +kernel
theorem dX10_isResource_1 : decode cX10_isResource 1 = .ok (.ifCond .lt 14, 3) := by decide +kernel
theorem dX10_isResource_4 : decode cX10_isResource 4 = .ok (.iload_n 0, 1) := by decide +kernel
theorem dX10_isResource_5 : decode cX10_isResource 5 = .ok (.sipush 136, 3) := by decide +kernel
theorem dX10_isResource_8 : decode cX10_isResource 8 = .ok (.if_icmp .ge 7, 3) := by decide +kernel
theorem dX10_isResource_11 : decode cX10_isResource 11 = .ok (.iconst 1, 1) := by decide +kernel
theorem dX10_isResource_12 : decode cX10_isResource 12 = .ok (.goto 4, 3) := by decide +kernel
theorem dX10_isResource_15 : decode cX10_isResource 15 = .ok (.iconst 0, 1) := by decide +kernel
theorem dX10_isResource_16 : decode cX10_isResource 16 = .ok (.ireturn, 1) := by decide +kernel
theorem dX10_isInode_0 : decode cX10_isInode 0 = .ok (.iload_n 0, 1) := by decide +kernel
theorem dX10_isInode_1 : decode cX10_isInode 1 = .ok (.ifCond .lt 14, 3) := by decide +kernel
theorem dX10_isInode_4 : decode cX10_isInode 4 = .ok (.iload_n 0, 1) := by decide +kernel
theorem dX10_isInode_5 : decode cX10_isInode 5 = .ok (.sipush 128, 3) := by decide +kernel
theorem dX10_isInode_8 : decode cX10_isInode 8 = .ok (.if_icmp .ge 7, 3) := by decide +kernel
theorem dX10_isInode_11 : decode cX10_isInode 11 = .ok (.iconst 1, 1) := by decide +kernel
theorem dX10_isInode_12 : decode cX10_isInode 12 = .ok (.goto 4, 3) := by decide +kernel
theorem dX10_isInode_15 : decode cX10_isInode 15 = .ok (.iconst 0, 1) := by decide +kernel
theorem dX10_isInode_16 : decode cX10_isInode 16 = .ok (.ireturn, 1) := by decide +kernel
theorem dX10_isBlock_0 : decode cX10_isBlock 0 = .ok (.iload_n 0, 1) := by decide +kernel
theorem dX10_isBlock_1 : decode cX10_isBlock 1 = .ok (.ifCond .lt 14, 3) := by decide +kernel
theorem dX10_isBlock_4 : decode cX10_isBlock 4 = .ok (.iload_n 0, 1) := by decide +kernel
theorem dX10_isBlock_5 : decode cX10_isBlock 5 = .ok (.sipush 640, 3) := by decide +kernel
theorem dX10_isBlock_8 : decode cX10_isBlock 8 = .ok (.if_icmp .ge 7, 3) := by decide +kernel
theorem dX10_isBlock_11 : decode cX10_isBlock 11 = .ok (.iconst 1, 1) := by decide +kernel
theorem dX10_isBlock_12 : decode cX10_isBlock 12 = .ok (.goto 4, 3) := by decide +kernel
theorem dX10_isBlock_15 : decode cX10_isBlock 15 = .ok (.iconst 0, 1) := by decide +kernel
theorem dX10_isBlock_16 : decode cX10_isBlock 16 = .ok (.ireturn, 1) := by decide +kernel
theorem dX10_isWord_0 : decode cX10_isWord 0 = .ok (.iload_n 0, 1) := by decide +kernel
theorem dX10_isWord_1 : decode cX10_isWord 1 = .ok (.ifCond .lt 24, 3) := by decide +kernel
theorem dX10_isWord_4 : decode cX10_isWord 4 = .ok (.iload_n 0, 1) := by decide +kernel
theorem dX10_isWord_5 : decode cX10_isWord 5 = .ok (.sipush 640, 3) := by decide +kernel
theorem dX10_isWord_8 : decode cX10_isWord 8 = .ok (.if_icmp .ge 17, 3) := by decide +kernel
theorem dX10_isWord_11 : decode cX10_isWord 11 = .ok (.iload_n 1, 1) := by decide +kernel
theorem dX10_isWord_12 : decode cX10_isWord 12 = .ok (.ifCond .lt 13, 3) := by decide +kernel
theorem dX10_isWord_15 : decode cX10_isWord 15 = .ok (.iload_n 1, 1) := by decide +kernel
theorem dX10_isWord_16 : decode cX10_isWord 16 = .ok (.bipush 16, 2) := by decide +kernel
theorem dX10_isWord_18 : decode cX10_isWord 18 = .ok (.if_icmp .ge 7, 3) := by decide +kernel
theorem dX10_isWord_21 : decode cX10_isWord 21 = .ok (.iconst 1, 1) := by decide +kernel
theorem dX10_isWord_22 : decode cX10_isWord 22 = .ok (.goto 4, 3) := by decide +kernel
theorem dX10_isWord_25 : decode cX10_isWord 25 = .ok (.iconst 0, 1) := by decide +kernel
theorem dX10_isWord_26 : decode cX10_isWord 26 = .ok (.ireturn, 1) := by decide +kernel
theorem dX10_isData_0 : decode cX10_isData 0 = .ok (.iload_n 0, 1) := by decide +kernel
theorem dX10_isData_1 : decode cX10_isData 1 = .ok (.sipush 128, 3) := by decide +kernel
theorem dX10_isData_4 : decode cX10_isData 4 = .ok (.if_icmp .lt 27, 3) := by decide +kernel
theorem dX10_isData_7 : decode cX10_isData 7 = .ok (.iload_n 0, 1) := by decide +kernel
theorem dX10_isData_8 : decode cX10_isData 8 = .ok (.sipush 640, 3) := by decide +kernel
theorem dX10_isData_11 : decode cX10_isData 11 = .ok (.if_icmp .ge 20, 3) := by decide +kernel
theorem dX10_isData_14 : decode cX10_isData 14 = .ok (.iload_n 0, 1) := by decide +kernel
theorem dX10_isData_15 : decode cX10_isData 15 = .ok (.sipush 128, 3) := by decide +kernel
theorem dX10_isData_18 : decode cX10_isData 18 = .ok (.isub, 1) := by decide +kernel
theorem dX10_isData_19 : decode cX10_isData 19 = .ok (.bipush 64, 2) := by decide +kernel
theorem dX10_isData_21 : decode cX10_isData 21 = .ok (.irem, 1) := by decide +kernel
theorem dX10_isData_22 : decode cX10_isData 22 = .ok (.bipush 17, 2) := by decide +kernel
theorem dX10_isData_24 : decode cX10_isData 24 = .ok (.if_icmp .lt 7, 3) := by decide +kernel
theorem dX10_isData_27 : decode cX10_isData 27 = .ok (.iconst 1, 1) := by decide +kernel
theorem dX10_isData_28 : decode cX10_isData 28 = .ok (.goto 4, 3) := by decide +kernel
theorem dX10_isData_31 : decode cX10_isData 31 = .ok (.iconst 0, 1) := by decide +kernel
theorem dX10_isData_32 : decode cX10_isData 32 = .ok (.ireturn, 1) := by decide +kernel
theorem dX10_isCall_0 : decode cX10_isCall 0 = .ok (.iload_n 0, 1) := by decide +kernel
theorem dX10_isCall_1 : decode cX10_isCall 1 = .ok (.tableswitch 273 0 14 #[75, 92, 75, 119, 143, 172, 172, 196, 220, 244, 271, 172, 266, 266, 271], 75) := by decide +kernel
theorem dX10_isCall_76 : decode cX10_isCall 76 = .ok (.iload_n 1, 1) := by decide +kernel
theorem dX10_isCall_77 : decode cX10_isCall 77 = .ok (.invokestatic 317, 3) := by decide +kernel
theorem dX10_isCall_80 : decode cX10_isCall 80 = .ok (.ifCond .eq 11, 3) := by decide +kernel
theorem dX10_isCall_83 : decode cX10_isCall 83 = .ok (.iload_n 2, 1) := by decide +kernel
theorem dX10_isCall_84 : decode cX10_isCall 84 = .ok (.ifCond .eq 7, 3) := by decide +kernel
theorem dX10_isCall_87 : decode cX10_isCall 87 = .ok (.iconst 1, 1) := by decide +kernel
theorem dX10_isCall_88 : decode cX10_isCall 88 = .ok (.goto 4, 3) := by decide +kernel
theorem dX10_isCall_91 : decode cX10_isCall 91 = .ok (.iconst 0, 1) := by decide +kernel
theorem dX10_isCall_92 : decode cX10_isCall 92 = .ok (.ireturn, 1) := by decide +kernel
theorem dX10_isCall_93 : decode cX10_isCall 93 = .ok (.iload_n 1, 1) := by decide +kernel
theorem dX10_isCall_94 : decode cX10_isCall 94 = .ok (.invokestatic 317, 3) := by decide +kernel
theorem dX10_isCall_97 : decode cX10_isCall 97 = .ok (.ifCond .eq 21, 3) := by decide +kernel
theorem dX10_isCall_100 : decode cX10_isCall 100 = .ok (.iload_n 2, 1) := by decide +kernel
theorem dX10_isCall_101 : decode cX10_isCall 101 = .ok (.ifCond .eq 17, 3) := by decide +kernel
theorem dX10_isCall_104 : decode cX10_isCall 104 = .ok (.iload_n 3, 1) := by decide +kernel
theorem dX10_isCall_105 : decode cX10_isCall 105 = .ok (.iconst 1, 1) := by decide +kernel
theorem dX10_isCall_106 : decode cX10_isCall 106 = .ok (.if_icmp .eq 8, 3) := by decide +kernel
theorem dX10_isCall_109 : decode cX10_isCall 109 = .ok (.iload_n 3, 1) := by decide +kernel
theorem dX10_isCall_110 : decode cX10_isCall 110 = .ok (.iconst 2, 1) := by decide +kernel
theorem dX10_isCall_111 : decode cX10_isCall 111 = .ok (.if_icmp .ne 7, 3) := by decide +kernel
theorem dX10_isCall_114 : decode cX10_isCall 114 = .ok (.iconst 1, 1) := by decide +kernel
theorem dX10_isCall_115 : decode cX10_isCall 115 = .ok (.goto 4, 3) := by decide +kernel
theorem dX10_isCall_118 : decode cX10_isCall 118 = .ok (.iconst 0, 1) := by decide +kernel
theorem dX10_isCall_119 : decode cX10_isCall 119 = .ok (.ireturn, 1) := by decide +kernel
theorem dX10_isCall_120 : decode cX10_isCall 120 = .ok (.iload_n 1, 1) := by decide +kernel
theorem dX10_isCall_121 : decode cX10_isCall 121 = .ok (.invokestatic 317, 3) := by decide +kernel
theorem dX10_isCall_124 : decode cX10_isCall 124 = .ok (.ifCond .eq 18, 3) := by decide +kernel
theorem dX10_isCall_127 : decode cX10_isCall 127 = .ok (.iload_n 2, 1) := by decide +kernel
theorem dX10_isCall_128 : decode cX10_isCall 128 = .ok (.ifCond .eq 14, 3) := by decide +kernel
theorem dX10_isCall_131 : decode cX10_isCall 131 = .ok (.iload_n 3, 1) := by decide +kernel
theorem dX10_isCall_132 : decode cX10_isCall 132 = .ok (.invokestatic 317, 3) := by decide +kernel
theorem dX10_isCall_135 : decode cX10_isCall 135 = .ok (.ifCond .eq 7, 3) := by decide +kernel
theorem dX10_isCall_138 : decode cX10_isCall 138 = .ok (.iconst 1, 1) := by decide +kernel
theorem dX10_isCall_139 : decode cX10_isCall 139 = .ok (.goto 4, 3) := by decide +kernel
theorem dX10_isCall_142 : decode cX10_isCall 142 = .ok (.iconst 0, 1) := by decide +kernel
theorem dX10_isCall_143 : decode cX10_isCall 143 = .ok (.ireturn, 1) := by decide +kernel
theorem dX10_isCall_144 : decode cX10_isCall 144 = .ok (.iload_n 1, 1) := by decide +kernel
theorem dX10_isCall_145 : decode cX10_isCall 145 = .ok (.invokestatic 317, 3) := by decide +kernel
theorem dX10_isCall_148 : decode cX10_isCall 148 = .ok (.ifCond .eq 23, 3) := by decide +kernel
theorem dX10_isCall_151 : decode cX10_isCall 151 = .ok (.iload_n 2, 1) := by decide +kernel
theorem dX10_isCall_152 : decode cX10_isCall 152 = .ok (.ifCond .eq 19, 3) := by decide +kernel
theorem dX10_isCall_155 : decode cX10_isCall 155 = .ok (.iload_n 3, 1) := by decide +kernel
theorem dX10_isCall_156 : decode cX10_isCall 156 = .ok (.invokestatic 317, 3) := by decide +kernel
theorem dX10_isCall_159 : decode cX10_isCall 159 = .ok (.ifCond .eq 12, 3) := by decide +kernel
theorem dX10_isCall_162 : decode cX10_isCall 162 = .ok (.iload 4, 2) := by decide +kernel
theorem dX10_isCall_164 : decode cX10_isCall 164 = .ok (.ifCond .eq 7, 3) := by decide +kernel
theorem dX10_isCall_167 : decode cX10_isCall 167 = .ok (.iconst 1, 1) := by decide +kernel
theorem dX10_isCall_168 : decode cX10_isCall 168 = .ok (.goto 4, 3) := by decide +kernel
theorem dX10_isCall_171 : decode cX10_isCall 171 = .ok (.iconst 0, 1) := by decide +kernel
theorem dX10_isCall_172 : decode cX10_isCall 172 = .ok (.ireturn, 1) := by decide +kernel
theorem dX10_isCall_173 : decode cX10_isCall 173 = .ok (.iload_n 1, 1) := by decide +kernel
theorem dX10_isCall_174 : decode cX10_isCall 174 = .ok (.invokestatic 317, 3) := by decide +kernel
theorem dX10_isCall_177 : decode cX10_isCall 177 = .ok (.ifCond .eq 18, 3) := by decide +kernel
theorem dX10_isCall_180 : decode cX10_isCall 180 = .ok (.iload_n 2, 1) := by decide +kernel
theorem dX10_isCall_181 : decode cX10_isCall 181 = .ok (.ifCond .lt 14, 3) := by decide +kernel
theorem dX10_isCall_184 : decode cX10_isCall 184 = .ok (.iload_n 2, 1) := by decide +kernel
theorem dX10_isCall_185 : decode cX10_isCall 185 = .ok (.sipush 384, 3) := by decide +kernel
theorem dX10_isCall_188 : decode cX10_isCall 188 = .ok (.if_icmp .ge 7, 3) := by decide +kernel
theorem dX10_isCall_191 : decode cX10_isCall 191 = .ok (.iconst 1, 1) := by decide +kernel
theorem dX10_isCall_192 : decode cX10_isCall 192 = .ok (.goto 4, 3) := by decide +kernel
theorem dX10_isCall_195 : decode cX10_isCall 195 = .ok (.iconst 0, 1) := by decide +kernel
theorem dX10_isCall_196 : decode cX10_isCall 196 = .ok (.ireturn, 1) := by decide +kernel
theorem dX10_isCall_197 : decode cX10_isCall 197 = .ok (.iload_n 1, 1) := by decide +kernel
theorem dX10_isCall_198 : decode cX10_isCall 198 = .ok (.invokestatic 317, 3) := by decide +kernel
theorem dX10_isCall_201 : decode cX10_isCall 201 = .ok (.ifCond .eq 18, 3) := by decide +kernel
theorem dX10_isCall_204 : decode cX10_isCall 204 = .ok (.iload_n 2, 1) := by decide +kernel
theorem dX10_isCall_205 : decode cX10_isCall 205 = .ok (.ifCond .lt 14, 3) := by decide +kernel
theorem dX10_isCall_208 : decode cX10_isCall 208 = .ok (.iload_n 2, 1) := by decide +kernel
theorem dX10_isCall_209 : decode cX10_isCall 209 = .ok (.sipush 384, 3) := by decide +kernel
theorem dX10_isCall_212 : decode cX10_isCall 212 = .ok (.if_icmp .gt 7, 3) := by decide +kernel
theorem dX10_isCall_215 : decode cX10_isCall 215 = .ok (.iconst 1, 1) := by decide +kernel
theorem dX10_isCall_216 : decode cX10_isCall 216 = .ok (.goto 4, 3) := by decide +kernel
theorem dX10_isCall_219 : decode cX10_isCall 219 = .ok (.iconst 0, 1) := by decide +kernel
theorem dX10_isCall_220 : decode cX10_isCall 220 = .ok (.ireturn, 1) := by decide +kernel
theorem dX10_isCall_221 : decode cX10_isCall 221 = .ok (.iload_n 1, 1) := by decide +kernel
theorem dX10_isCall_222 : decode cX10_isCall 222 = .ok (.invokestatic 317, 3) := by decide +kernel
theorem dX10_isCall_225 : decode cX10_isCall 225 = .ok (.ifCond .eq 18, 3) := by decide +kernel
theorem dX10_isCall_228 : decode cX10_isCall 228 = .ok (.iload_n 2, 1) := by decide +kernel
theorem dX10_isCall_229 : decode cX10_isCall 229 = .ok (.ifCond .lt 14, 3) := by decide +kernel
theorem dX10_isCall_232 : decode cX10_isCall 232 = .ok (.iload_n 2, 1) := by decide +kernel
theorem dX10_isCall_233 : decode cX10_isCall 233 = .ok (.sipush 192, 3) := by decide +kernel
theorem dX10_isCall_236 : decode cX10_isCall 236 = .ok (.if_icmp .ge 7, 3) := by decide +kernel
theorem dX10_isCall_239 : decode cX10_isCall 239 = .ok (.iconst 1, 1) := by decide +kernel
theorem dX10_isCall_240 : decode cX10_isCall 240 = .ok (.goto 4, 3) := by decide +kernel
theorem dX10_isCall_243 : decode cX10_isCall 243 = .ok (.iconst 0, 1) := by decide +kernel
theorem dX10_isCall_244 : decode cX10_isCall 244 = .ok (.ireturn, 1) := by decide +kernel
theorem dX10_isCall_245 : decode cX10_isCall 245 = .ok (.iload_n 1, 1) := by decide +kernel
theorem dX10_isCall_246 : decode cX10_isCall 246 = .ok (.invokestatic 317, 3) := by decide +kernel
theorem dX10_isCall_249 : decode cX10_isCall 249 = .ok (.ifCond .eq 16, 3) := by decide +kernel
theorem dX10_isCall_252 : decode cX10_isCall 252 = .ok (.iload_n 2, 1) := by decide +kernel
theorem dX10_isCall_253 : decode cX10_isCall 253 = .ok (.ifCond .lt 12, 3) := by decide +kernel
theorem dX10_isCall_256 : decode cX10_isCall 256 = .ok (.iload_n 2, 1) := by decide +kernel
theorem dX10_isCall_257 : decode cX10_isCall 257 = .ok (.iconst 3, 1) := by decide +kernel
theorem dX10_isCall_258 : decode cX10_isCall 258 = .ok (.if_icmp .gt 7, 3) := by decide +kernel
theorem dX10_isCall_261 : decode cX10_isCall 261 = .ok (.iconst 1, 1) := by decide +kernel
theorem dX10_isCall_262 : decode cX10_isCall 262 = .ok (.goto 4, 3) := by decide +kernel
theorem dX10_isCall_265 : decode cX10_isCall 265 = .ok (.iconst 0, 1) := by decide +kernel
theorem dX10_isCall_266 : decode cX10_isCall 266 = .ok (.ireturn, 1) := by decide +kernel
theorem dX10_isCall_267 : decode cX10_isCall 267 = .ok (.iload_n 1, 1) := by decide +kernel
theorem dX10_isCall_268 : decode cX10_isCall 268 = .ok (.invokestatic 317, 3) := by decide +kernel
theorem dX10_isCall_271 : decode cX10_isCall 271 = .ok (.ireturn, 1) := by decide +kernel
theorem dX10_isCall_272 : decode cX10_isCall 272 = .ok (.iconst 1, 1) := by decide +kernel
theorem dX10_isCall_273 : decode cX10_isCall 273 = .ok (.ireturn, 1) := by decide +kernel
theorem dX10_isCall_274 : decode cX10_isCall 274 = .ok (.iconst 0, 1) := by decide +kernel
theorem dX10_isCall_275 : decode cX10_isCall 275 = .ok (.ireturn, 1) := by decide +kernel
theorem dX10_inodeBlock_0 : decode cX10_inodeBlock 0 = .ok (.iload_n 0, 1) := by decide +kernel
theorem dX10_inodeBlock_1 : decode cX10_inodeBlock 1 = .ok (.bipush 16, 2) := by decide +kernel
theorem dX10_inodeBlock_3 : decode cX10_inodeBlock 3 = .ok (.idiv, 1) := by decide +kernel
theorem dX10_inodeBlock_4 : decode cX10_inodeBlock 4 = .ok (.invokestatic 320, 3) := by decide +kernel
theorem dX10_inodeBlock_7 : decode cX10_inodeBlock 7 = .ok (.iconst 1, 1) := by decide +kernel
theorem dX10_inodeBlock_8 : decode cX10_inodeBlock 8 = .ok (.iadd, 1) := by decide +kernel
theorem dX10_inodeBlock_9 : decode cX10_inodeBlock 9 = .ok (.iload_n 0, 1) := by decide +kernel
theorem dX10_inodeBlock_10 : decode cX10_inodeBlock 10 = .ok (.bipush 16, 2) := by decide +kernel
theorem dX10_inodeBlock_12 : decode cX10_inodeBlock 12 = .ok (.irem, 1) := by decide +kernel
theorem dX10_inodeBlock_13 : decode cX10_inodeBlock 13 = .ok (.iadd, 1) := by decide +kernel
theorem dX10_inodeBlock_14 : decode cX10_inodeBlock 14 = .ok (.ireturn, 1) := by decide +kernel
theorem dX10_mapBlock_0 : decode cX10_mapBlock 0 = .ok (.sipush 128, 3) := by decide +kernel
theorem dX10_mapBlock_3 : decode cX10_mapBlock 3 = .ok (.bipush 64, 2) := by decide +kernel
theorem dX10_mapBlock_5 : decode cX10_mapBlock 5 = .ok (.iload_n 0, 1) := by decide +kernel
theorem dX10_mapBlock_6 : decode cX10_mapBlock 6 = .ok (.imul, 1) := by decide +kernel
theorem dX10_mapBlock_7 : decode cX10_mapBlock 7 = .ok (.iadd, 1) := by decide +kernel
theorem dX10_mapBlock_8 : decode cX10_mapBlock 8 = .ok (.ireturn, 1) := by decide +kernel
theorem dX10_mapResource_0 : decode cX10_mapResource 0 = .ok (.sipush 128, 3) := by decide +kernel
theorem dX10_mapResource_3 : decode cX10_mapResource 3 = .ok (.iload_n 0, 1) := by decide +kernel
theorem dX10_mapResource_4 : decode cX10_mapResource 4 = .ok (.iadd, 1) := by decide +kernel
theorem dX10_mapResource_5 : decode cX10_mapResource 5 = .ok (.ireturn, 1) := by decide +kernel
theorem dX10_groupOf_0 : decode cX10_groupOf 0 = .ok (.iload_n 0, 1) := by decide +kernel
theorem dX10_groupOf_1 : decode cX10_groupOf 1 = .ok (.sipush 128, 3) := by decide +kernel
theorem dX10_groupOf_4 : decode cX10_groupOf 4 = .ok (.isub, 1) := by decide +kernel
theorem dX10_groupOf_5 : decode cX10_groupOf 5 = .ok (.bipush 64, 2) := by decide +kernel
theorem dX10_groupOf_7 : decode cX10_groupOf 7 = .ok (.idiv, 1) := by decide +kernel
theorem dX10_groupOf_8 : decode cX10_groupOf 8 = .ok (.ireturn, 1) := by decide +kernel
theorem dX10_dataNumber_0 : decode cX10_dataNumber 0 = .ok (.iload_n 0, 1) := by decide +kernel
theorem dX10_dataNumber_1 : decode cX10_dataNumber 1 = .ok (.sipush 128, 3) := by decide +kernel
theorem dX10_dataNumber_4 : decode cX10_dataNumber 4 = .ok (.isub, 1) := by decide +kernel
theorem dX10_dataNumber_5 : decode cX10_dataNumber 5 = .ok (.bipush 64, 2) := by decide +kernel
theorem dX10_dataNumber_7 : decode cX10_dataNumber 7 = .ok (.irem, 1) := by decide +kernel
theorem dX10_dataNumber_8 : decode cX10_dataNumber 8 = .ok (.bipush 17, 2) := by decide +kernel
theorem dX10_dataNumber_10 : decode cX10_dataNumber 10 = .ok (.isub, 1) := by decide +kernel
theorem dX10_dataNumber_11 : decode cX10_dataNumber 11 = .ok (.ireturn, 1) := by decide +kernel
theorem dX10_headBlock_0 : decode cX10_headBlock 0 = .ok (.iconst 1, 1) := by decide +kernel
theorem dX10_headBlock_1 : decode cX10_headBlock 1 = .ok (.bipush 24, 2) := by decide +kernel
theorem dX10_headBlock_3 : decode cX10_headBlock 3 = .ok (.iload_n 0, 1) := by decide +kernel
theorem dX10_headBlock_4 : decode cX10_headBlock 4 = .ok (.imul, 1) := by decide +kernel
theorem dX10_headBlock_5 : decode cX10_headBlock 5 = .ok (.iadd, 1) := by decide +kernel
theorem dX10_headBlock_6 : decode cX10_headBlock 6 = .ok (.ireturn, 1) := by decide +kernel
theorem dX10_someDownAndJoined_0 : decode cX10_someDownAndJoined 0 = .ok (.iconst 0, 1) := by decide +kernel
theorem dX10_someDownAndJoined_1 : decode cX10_someDownAndJoined 1 = .ok (.istore_n 1, 1) := by decide +kernel
theorem dX10_someDownAndJoined_2 : decode cX10_someDownAndJoined 2 = .ok (.iload_n 1, 1) := by decide +kernel
theorem dX10_someDownAndJoined_3 : decode cX10_someDownAndJoined 3 = .ok (.aload_n 0, 1) := by decide +kernel
theorem dX10_someDownAndJoined_4 : decode cX10_someDownAndJoined 4 = .ok (.getfield 19, 3) := by decide +kernel
theorem dX10_someDownAndJoined_7 : decode cX10_someDownAndJoined 7 = .ok (.arraylength, 1) := by decide +kernel
theorem dX10_someDownAndJoined_8 : decode cX10_someDownAndJoined 8 = .ok (.if_icmp .ge 35, 3) := by decide +kernel
theorem dX10_someDownAndJoined_11 : decode cX10_someDownAndJoined 11 = .ok (.aload_n 0, 1) := by decide +kernel
theorem dX10_someDownAndJoined_12 : decode cX10_someDownAndJoined 12 = .ok (.getfield 19, 3) := by decide +kernel
theorem dX10_someDownAndJoined_15 : decode cX10_someDownAndJoined 15 = .ok (.iload_n 1, 1) := by decide +kernel
theorem dX10_someDownAndJoined_16 : decode cX10_someDownAndJoined 16 = .ok (.aaload, 1) := by decide +kernel
theorem dX10_someDownAndJoined_17 : decode cX10_someDownAndJoined 17 = .ok (.getfield 80, 3) := by decide +kernel
theorem dX10_someDownAndJoined_20 : decode cX10_someDownAndJoined 20 = .ok (.ifCond .ne 17, 3) := by decide +kernel
theorem dX10_someDownAndJoined_23 : decode cX10_someDownAndJoined 23 = .ok (.aload_n 0, 1) := by decide +kernel
theorem dX10_someDownAndJoined_24 : decode cX10_someDownAndJoined 24 = .ok (.getfield 19, 3) := by decide +kernel
theorem dX10_someDownAndJoined_27 : decode cX10_someDownAndJoined 27 = .ok (.iload_n 1, 1) := by decide +kernel
theorem dX10_someDownAndJoined_28 : decode cX10_someDownAndJoined 28 = .ok (.aaload, 1) := by decide +kernel
theorem dX10_someDownAndJoined_29 : decode cX10_someDownAndJoined 29 = .ok (.getfield 166, 3) := by decide +kernel
theorem dX10_someDownAndJoined_32 : decode cX10_someDownAndJoined 32 = .ok (.ifCond .eq 5, 3) := by decide +kernel
theorem dX10_someDownAndJoined_35 : decode cX10_someDownAndJoined 35 = .ok (.iconst 1, 1) := by decide +kernel
theorem dX10_someDownAndJoined_36 : decode cX10_someDownAndJoined 36 = .ok (.ireturn, 1) := by decide +kernel
theorem dX10_someDownAndJoined_37 : decode cX10_someDownAndJoined 37 = .ok (.iinc 1 1, 3) := by decide +kernel
theorem dX10_someDownAndJoined_40 : decode cX10_someDownAndJoined 40 = .ok (.goto (-38), 3) := by decide +kernel
theorem dX10_someDownAndJoined_43 : decode cX10_someDownAndJoined 43 = .ok (.iconst 0, 1) := by decide +kernel
theorem dX10_someDownAndJoined_44 : decode cX10_someDownAndJoined 44 = .ok (.ireturn, 1) := by decide +kernel
theorem dX10_usedByMaps_0 : decode cX10_usedByMaps 0 = .ok (.iconst 0, 1) := by decide +kernel
theorem dX10_usedByMaps_1 : decode cX10_usedByMaps 1 = .ok (.istore_n 2, 1) := by decide +kernel
theorem dX10_usedByMaps_2 : decode cX10_usedByMaps 2 = .ok (.iconst 0, 1) := by decide +kernel
theorem dX10_usedByMaps_3 : decode cX10_usedByMaps 3 = .ok (.istore_n 3, 1) := by decide +kernel
theorem dX10_usedByMaps_4 : decode cX10_usedByMaps 4 = .ok (.iload_n 3, 1) := by decide +kernel
theorem dX10_usedByMaps_5 : decode cX10_usedByMaps 5 = .ok (.bipush 8, 2) := by decide +kernel
theorem dX10_usedByMaps_7 : decode cX10_usedByMaps 7 = .ok (.if_icmp .ge 71, 3) := by decide +kernel
theorem dX10_usedByMaps_10 : decode cX10_usedByMaps 10 = .ok (.iload_n 3, 1) := by decide +kernel
theorem dX10_usedByMaps_11 : decode cX10_usedByMaps 11 = .ok (.invokestatic 320, 3) := by decide +kernel
theorem dX10_usedByMaps_14 : decode cX10_usedByMaps 14 = .ok (.bipush 16, 2) := by decide +kernel
theorem dX10_usedByMaps_16 : decode cX10_usedByMaps 16 = .ok (.imul, 1) := by decide +kernel
theorem dX10_usedByMaps_17 : decode cX10_usedByMaps 17 = .ok (.istore 4, 2) := by decide +kernel
theorem dX10_usedByMaps_19 : decode cX10_usedByMaps 19 = .ok (.iload_n 2, 1) := by decide +kernel
theorem dX10_usedByMaps_20 : decode cX10_usedByMaps 20 = .ok (.iload_n 1, 1) := by decide +kernel
theorem dX10_usedByMaps_21 : decode cX10_usedByMaps 21 = .ok (.ifCond .eq 35, 3) := by decide +kernel
theorem dX10_usedByMaps_24 : decode cX10_usedByMaps 24 = .ok (.aload_n 0, 1) := by decide +kernel
theorem dX10_usedByMaps_25 : decode cX10_usedByMaps 25 = .ok (.getfield 9, 3) := by decide +kernel
theorem dX10_usedByMaps_28 : decode cX10_usedByMaps 28 = .ok (.iload 4, 2) := by decide +kernel
theorem dX10_usedByMaps_30 : decode cX10_usedByMaps 30 = .ok (.iconst 1, 1) := by decide +kernel
theorem dX10_usedByMaps_31 : decode cX10_usedByMaps 31 = .ok (.iadd, 1) := by decide +kernel
theorem dX10_usedByMaps_32 : decode cX10_usedByMaps 32 = .ok (.iaload, 1) := by decide +kernel
theorem dX10_usedByMaps_33 : decode cX10_usedByMaps 33 = .ok (.invokestatic 323, 3) := by decide +kernel
theorem dX10_usedByMaps_36 : decode cX10_usedByMaps 36 = .ok (.aload_n 0, 1) := by decide +kernel
theorem dX10_usedByMaps_37 : decode cX10_usedByMaps 37 = .ok (.getfield 9, 3) := by decide +kernel
theorem dX10_usedByMaps_40 : decode cX10_usedByMaps 40 = .ok (.iload 4, 2) := by decide +kernel
theorem dX10_usedByMaps_42 : decode cX10_usedByMaps 42 = .ok (.iconst 2, 1) := by decide +kernel
theorem dX10_usedByMaps_43 : decode cX10_usedByMaps 43 = .ok (.iadd, 1) := by decide +kernel
theorem dX10_usedByMaps_44 : decode cX10_usedByMaps 44 = .ok (.iaload, 1) := by decide +kernel
theorem dX10_usedByMaps_45 : decode cX10_usedByMaps 45 = .ok (.sipush 32767, 3) := by decide +kernel
theorem dX10_usedByMaps_48 : decode cX10_usedByMaps 48 = .ok (.iand, 1) := by decide +kernel
theorem dX10_usedByMaps_49 : decode cX10_usedByMaps 49 = .ok (.invokestatic 323, 3) := by decide +kernel
theorem dX10_usedByMaps_52 : decode cX10_usedByMaps 52 = .ok (.iadd, 1) := by decide +kernel
theorem dX10_usedByMaps_53 : decode cX10_usedByMaps 53 = .ok (.goto 17, 3) := by decide +kernel
theorem dX10_usedByMaps_56 : decode cX10_usedByMaps 56 = .ok (.aload_n 0, 1) := by decide +kernel
theorem dX10_usedByMaps_57 : decode cX10_usedByMaps 57 = .ok (.getfield 9, 3) := by decide +kernel
theorem dX10_usedByMaps_60 : decode cX10_usedByMaps 60 = .ok (.iload 4, 2) := by decide +kernel
theorem dX10_usedByMaps_62 : decode cX10_usedByMaps 62 = .ok (.iaload, 1) := by decide +kernel
theorem dX10_usedByMaps_63 : decode cX10_usedByMaps 63 = .ok (.ldc_w 328, 3) := by decide +kernel
theorem dX10_usedByMaps_66 : decode cX10_usedByMaps 66 = .ok (.iand, 1) := by decide +kernel
theorem dX10_usedByMaps_67 : decode cX10_usedByMaps 67 = .ok (.invokestatic 323, 3) := by decide +kernel
theorem dX10_usedByMaps_70 : decode cX10_usedByMaps 70 = .ok (.iadd, 1) := by decide +kernel
theorem dX10_usedByMaps_71 : decode cX10_usedByMaps 71 = .ok (.istore_n 2, 1) := by decide +kernel
theorem dX10_usedByMaps_72 : decode cX10_usedByMaps 72 = .ok (.iinc 3 1, 3) := by decide +kernel
theorem dX10_usedByMaps_75 : decode cX10_usedByMaps 75 = .ok (.goto (-71), 3) := by decide +kernel
theorem dX10_usedByMaps_78 : decode cX10_usedByMaps 78 = .ok (.iload_n 2, 1) := by decide +kernel
theorem dX10_usedByMaps_79 : decode cX10_usedByMaps 79 = .ok (.ireturn, 1) := by decide +kernel
theorem dX10_masterOf_0 : decode cX10_masterOf 0 = .ok (.aload_n 0, 1) := by decide +kernel
theorem dX10_masterOf_1 : decode cX10_masterOf 1 = .ok (.getfield 19, 3) := by decide +kernel
theorem dX10_masterOf_4 : decode cX10_masterOf 4 = .ok (.arraylength, 1) := by decide +kernel
theorem dX10_masterOf_5 : decode cX10_masterOf 5 = .ok (.istore_n 2, 1) := by decide +kernel
theorem dX10_masterOf_6 : decode cX10_masterOf 6 = .ok (.iload_n 2, 1) := by decide +kernel
theorem dX10_masterOf_7 : decode cX10_masterOf 7 = .ok (.ifCond .ne 5, 3) := by decide +kernel
theorem dX10_masterOf_10 : decode cX10_masterOf 10 = .ok (.iconst (-1), 1) := by decide +kernel
theorem dX10_masterOf_11 : decode cX10_masterOf 11 = .ok (.ireturn, 1) := by decide +kernel
theorem dX10_masterOf_12 : decode cX10_masterOf 12 = .ok (.iconst 0, 1) := by decide +kernel
theorem dX10_masterOf_13 : decode cX10_masterOf 13 = .ok (.istore_n 3, 1) := by decide +kernel
theorem dX10_masterOf_14 : decode cX10_masterOf 14 = .ok (.iload_n 3, 1) := by decide +kernel
theorem dX10_masterOf_15 : decode cX10_masterOf 15 = .ok (.iload_n 2, 1) := by decide +kernel
theorem dX10_masterOf_16 : decode cX10_masterOf 16 = .ok (.if_icmp .ge 32, 3) := by decide +kernel
theorem dX10_masterOf_19 : decode cX10_masterOf 19 = .ok (.iload_n 1, 1) := by decide +kernel
theorem dX10_masterOf_20 : decode cX10_masterOf 20 = .ok (.iload_n 3, 1) := by decide +kernel
theorem dX10_masterOf_21 : decode cX10_masterOf 21 = .ok (.iadd, 1) := by decide +kernel
theorem dX10_masterOf_22 : decode cX10_masterOf 22 = .ok (.iload_n 2, 1) := by decide +kernel
theorem dX10_masterOf_23 : decode cX10_masterOf 23 = .ok (.irem, 1) := by decide +kernel
theorem dX10_masterOf_24 : decode cX10_masterOf 24 = .ok (.istore 4, 2) := by decide +kernel
theorem dX10_masterOf_26 : decode cX10_masterOf 26 = .ok (.aload_n 0, 1) := by decide +kernel
theorem dX10_masterOf_27 : decode cX10_masterOf 27 = .ok (.getfield 19, 3) := by decide +kernel
theorem dX10_masterOf_30 : decode cX10_masterOf 30 = .ok (.iload 4, 2) := by decide +kernel
