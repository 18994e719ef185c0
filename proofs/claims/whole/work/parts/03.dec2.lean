theorem dX10_masterOf_32 : decode cX10_masterOf 32 = .ok (.aaload, 1) := by decide +kernel
theorem dX10_masterOf_33 : decode cX10_masterOf 33 = .ok (.getfield 166, 3) := by decide +kernel
theorem dX10_masterOf_36 : decode cX10_masterOf 36 = .ok (.ifCond .eq 6, 3) := by decide +kernel
theorem dX10_masterOf_39 : decode cX10_masterOf 39 = .ok (.iload 4, 2) := by decide +kernel
theorem dX10_masterOf_41 : decode cX10_masterOf 41 = .ok (.ireturn, 1) := by decide +kernel
theorem dX10_masterOf_42 : decode cX10_masterOf 42 = .ok (.iinc 3 1, 3) := by decide +kernel
theorem dX10_masterOf_45 : decode cX10_masterOf 45 = .ok (.goto (-31), 3) := by decide +kernel
theorem dX10_masterOf_48 : decode cX10_masterOf 48 = .ok (.iconst (-1), 1) := by decide +kernel
theorem dX10_masterOf_49 : decode cX10_masterOf 49 = .ok (.ireturn, 1) := by decide +kernel
theorem dX10_goOn_0 : decode cX10_goOn 0 = .ok (.iconst 0, 1) := by decide +kernel
theorem dX10_goOn_1 : decode cX10_goOn 1 = .ok (.istore_n 2, 1) := by decide +kernel
theorem dX10_goOn_2 : decode cX10_goOn 2 = .ok (.iload_n 2, 1) := by decide +kernel
theorem dX10_goOn_3 : decode cX10_goOn 3 = .ok (.sipush 274, 3) := by decide +kernel
theorem dX10_goOn_6 : decode cX10_goOn 6 = .ok (.if_icmp .ge 153, 3) := by decide +kernel
theorem dX10_goOn_9 : decode cX10_goOn 9 = .ok (.aload_n 0, 1) := by decide +kernel
theorem dX10_goOn_10 : decode cX10_goOn 10 = .ok (.aload_n 1, 1) := by decide +kernel
theorem dX10_goOn_11 : decode cX10_goOn 11 = .ok (.invokevirtual 329, 3) := by decide +kernel
theorem dX10_goOn_14 : decode cX10_goOn 14 = .ok (.ifCond .eq 145, 3) := by decide +kernel
theorem dX10_goOn_17 : decode cX10_goOn 17 = .ok (.aload_n 0, 1) := by decide +kernel
theorem dX10_goOn_18 : decode cX10_goOn 18 = .ok (.aload_n 1, 1) := by decide +kernel
theorem dX10_goOn_19 : decode cX10_goOn 19 = .ok (.invokevirtual 332, 3) := by decide +kernel
theorem dX10_goOn_22 : decode cX10_goOn 22 = .ok (.ifCond .eq 137, 3) := by decide +kernel
theorem dX10_goOn_25 : decode cX10_goOn 25 = .ok (.aload_n 1, 1) := by decide +kernel
theorem dX10_goOn_26 : decode cX10_goOn 26 = .ok (.getfield 84, 3) := by decide +kernel
theorem dX10_goOn_29 : decode cX10_goOn 29 = .ok (.dup, 1) := by decide +kernel
theorem dX10_goOn_30 : decode cX10_goOn 30 = .ok (.getfield 195, 3) := by decide +kernel
theorem dX10_goOn_33 : decode cX10_goOn 33 = .ok (.iconst 1, 1) := by decide +kernel
theorem dX10_goOn_34 : decode cX10_goOn 34 = .ok (.iadd, 1) := by decide +kernel
theorem dX10_goOn_35 : decode cX10_goOn 35 = .ok (.putfield 195, 3) := by decide +kernel
theorem dX10_goOn_38 : decode cX10_goOn 38 = .ok (.aload_n 0, 1) := by decide +kernel
theorem dX10_goOn_39 : decode cX10_goOn 39 = .ok (.getfield 52, 3) := by decide +kernel
theorem dX10_goOn_42 : decode cX10_goOn 42 = .ok (.aload_n 1, 1) := by decide +kernel
theorem dX10_goOn_43 : decode cX10_goOn 43 = .ok (.invokevirtual 335, 3) := by decide +kernel
theorem dX10_goOn_46 : decode cX10_goOn 46 = .ok (.aload_n 0, 1) := by decide +kernel
theorem dX10_goOn_47 : decode cX10_goOn 47 = .ok (.getfield 52, 3) := by decide +kernel
theorem dX10_goOn_50 : decode cX10_goOn 50 = .ok (.getfield 338, 3) := by decide +kernel
theorem dX10_goOn_53 : decode cX10_goOn 53 = .ok (.iconst 1, 1) := by decide +kernel
theorem dX10_goOn_54 : decode cX10_goOn 54 = .ok (.if_icmp .eq 10, 3) := by decide +kernel
theorem dX10_goOn_57 : decode cX10_goOn 57 = .ok (.aload_n 0, 1) := by decide +kernel
theorem dX10_goOn_58 : decode cX10_goOn 58 = .ok (.getfield 52, 3) := by decide +kernel
theorem dX10_goOn_61 : decode cX10_goOn 61 = .ok (.invokevirtual 341, 3) := by decide +kernel
theorem dX10_goOn_64 : decode cX10_goOn 64 = .ok (.aload_n 0, 1) := by decide +kernel
theorem dX10_goOn_65 : decode cX10_goOn 65 = .ok (.getfield 52, 3) := by decide +kernel
theorem dX10_goOn_68 : decode cX10_goOn 68 = .ok (.getfield 338, 3) := by decide +kernel
theorem dX10_goOn_71 : decode cX10_goOn 71 = .ok (.iconst 3, 1) := by decide +kernel
theorem dX10_goOn_72 : decode cX10_goOn 72 = .ok (.if_icmp .ne 46, 3) := by decide +kernel
theorem dX10_goOn_75 : decode cX10_goOn 75 = .ok (.aload_n 1, 1) := by decide +kernel
theorem dX10_goOn_76 : decode cX10_goOn 76 = .ok (.getfield 244, 3) := by decide +kernel
theorem dX10_goOn_79 : decode cX10_goOn 79 = .ok (.aload_n 0, 1) := by decide +kernel
theorem dX10_goOn_80 : decode cX10_goOn 80 = .ok (.getfield 52, 3) := by decide +kernel
theorem dX10_goOn_83 : decode cX10_goOn 83 = .ok (.getfield 344, 3) := by decide +kernel
theorem dX10_goOn_86 : decode cX10_goOn 86 = .ok (.aload_n 0, 1) := by decide +kernel
theorem dX10_goOn_87 : decode cX10_goOn 87 = .ok (.getfield 52, 3) := by decide +kernel
theorem dX10_goOn_90 : decode cX10_goOn 90 = .ok (.getfield 347, 3) := by decide +kernel
theorem dX10_goOn_93 : decode cX10_goOn 93 = .ok (.invokevirtual 350, 3) := by decide +kernel
theorem dX10_goOn_96 : decode cX10_goOn 96 = .ok (.aload_n 1, 1) := by decide +kernel
theorem dX10_goOn_97 : decode cX10_goOn 97 = .ok (.getfield 84, 3) := by decide +kernel
theorem dX10_goOn_100 : decode cX10_goOn 100 = .ok (.aload_n 1, 1) := by decide +kernel
theorem dX10_goOn_101 : decode cX10_goOn 101 = .ok (.getfield 244, 3) := by decide +kernel
theorem dX10_goOn_104 : decode cX10_goOn 104 = .ok (.getfield 353, 3) := by decide +kernel
theorem dX10_goOn_107 : decode cX10_goOn 107 = .ok (.putfield 198, 3) := by decide +kernel
theorem dX10_goOn_110 : decode cX10_goOn 110 = .ok (.aload_n 0, 1) := by decide +kernel
theorem dX10_goOn_111 : decode cX10_goOn 111 = .ok (.aload_n 1, 1) := by decide +kernel
theorem dX10_goOn_112 : decode cX10_goOn 112 = .ok (.invokevirtual 356, 3) := by decide +kernel
theorem dX10_goOn_115 : decode cX10_goOn 115 = .ok (.goto 38, 3) := by decide +kernel
theorem dX10_goOn_118 : decode cX10_goOn 118 = .ok (.aload_n 0, 1) := by decide +kernel
theorem dX10_goOn_119 : decode cX10_goOn 119 = .ok (.getfield 52, 3) := by decide +kernel
theorem dX10_goOn_122 : decode cX10_goOn 122 = .ok (.invokevirtual 359, 3) := by decide +kernel
theorem dX10_goOn_125 : decode cX10_goOn 125 = .ok (.ifCond .eq 23, 3) := by decide +kernel
theorem dX10_goOn_128 : decode cX10_goOn 128 = .ok (.aload_n 0, 1) := by decide +kernel
theorem dX10_goOn_129 : decode cX10_goOn 129 = .ok (.getfield 52, 3) := by decide +kernel
theorem dX10_goOn_132 : decode cX10_goOn 132 = .ok (.invokevirtual 341, 3) := by decide +kernel
theorem dX10_goOn_135 : decode cX10_goOn 135 = .ok (.aload_n 0, 1) := by decide +kernel
theorem dX10_goOn_136 : decode cX10_goOn 136 = .ok (.aload_n 1, 1) := by decide +kernel
theorem dX10_goOn_137 : decode cX10_goOn 137 = .ok (.invokevirtual 356, 3) := by decide +kernel
theorem dX10_goOn_140 : decode cX10_goOn 140 = .ok (.aload_n 0, 1) := by decide +kernel
theorem dX10_goOn_141 : decode cX10_goOn 141 = .ok (.aload_n 1, 1) := by decide +kernel
theorem dX10_goOn_142 : decode cX10_goOn 142 = .ok (.invokevirtual 362, 3) := by decide +kernel
theorem dX10_goOn_145 : decode cX10_goOn 145 = .ok (.goto 8, 3) := by decide +kernel
theorem dX10_goOn_148 : decode cX10_goOn 148 = .ok (.aload_n 0, 1) := by decide +kernel
theorem dX10_goOn_149 : decode cX10_goOn 149 = .ok (.aload_n 1, 1) := by decide +kernel
theorem dX10_goOn_150 : decode cX10_goOn 150 = .ok (.invokevirtual 365, 3) := by decide +kernel
theorem dX10_goOn_153 : decode cX10_goOn 153 = .ok (.iinc 2 1, 3) := by decide +kernel
theorem dX10_goOn_156 : decode cX10_goOn 156 = .ok (.goto (-154), 3) := by decide +kernel
theorem dX10_goOn_159 : decode cX10_goOn 159 = .ok (.return_, 1) := by decide +kernel
theorem dX10_mayGoOn_0 : decode cX10_mayGoOn 0 = .ok (.aload_n 1, 1) := by decide +kernel
theorem dX10_mayGoOn_1 : decode cX10_mayGoOn 1 = .ok (.getfield 84, 3) := by decide +kernel
theorem dX10_mayGoOn_4 : decode cX10_mayGoOn 4 = .ok (.astore_n 2, 1) := by decide +kernel
theorem dX10_mayGoOn_5 : decode cX10_mayGoOn 5 = .ok (.aload_n 2, 1) := by decide +kernel
theorem dX10_mayGoOn_6 : decode cX10_mayGoOn 6 = .ok (.getfield 88, 3) := by decide +kernel
theorem dX10_mayGoOn_9 : decode cX10_mayGoOn 9 = .ok (.iconst 1, 1) := by decide +kernel
theorem dX10_mayGoOn_10 : decode cX10_mayGoOn 10 = .ok (.if_icmp .ne 20, 3) := by decide +kernel
theorem dX10_mayGoOn_13 : decode cX10_mayGoOn 13 = .ok (.aload_n 2, 1) := by decide +kernel
theorem dX10_mayGoOn_14 : decode cX10_mayGoOn 14 = .ok (.getfield 368, 3) := by decide +kernel
theorem dX10_mayGoOn_17 : decode cX10_mayGoOn 17 = .ok (.ifCond .eq 15, 3) := by decide +kernel
theorem dX10_mayGoOn_20 : decode cX10_mayGoOn 20 = .ok (.aload_n 1, 1) := by decide +kernel
theorem dX10_mayGoOn_21 : decode cX10_mayGoOn 21 = .ok (.getfield 284, 3) := by decide +kernel
theorem dX10_mayGoOn_24 : decode cX10_mayGoOn 24 = .ok (.invokevirtual 371, 3) := by decide +kernel
theorem dX10_mayGoOn_27 : decode cX10_mayGoOn 27 = .ok (.ifCond .eq 5, 3) := by decide +kernel
theorem dX10_mayGoOn_30 : decode cX10_mayGoOn 30 = .ok (.iconst 0, 1) := by decide +kernel
theorem dX10_mayGoOn_31 : decode cX10_mayGoOn 31 = .ok (.ireturn, 1) := by decide +kernel
theorem dX10_mayGoOn_32 : decode cX10_mayGoOn 32 = .ok (.aload_n 2, 1) := by decide +kernel
theorem dX10_mayGoOn_33 : decode cX10_mayGoOn 33 = .ok (.iconst 0, 1) := by decide +kernel
theorem dX10_mayGoOn_34 : decode cX10_mayGoOn 34 = .ok (.putfield 368, 3) := by decide +kernel
theorem dX10_mayGoOn_37 : decode cX10_mayGoOn 37 = .ok (.aload_n 2, 1) := by decide +kernel
theorem dX10_mayGoOn_38 : decode cX10_mayGoOn 38 = .ok (.getfield 374, 3) := by decide +kernel
theorem dX10_mayGoOn_41 : decode cX10_mayGoOn 41 = .ok (.bipush 10, 2) := by decide +kernel
theorem dX10_mayGoOn_43 : decode cX10_mayGoOn 43 = .ok (.if_icmp .ne 20, 3) := by decide +kernel
theorem dX10_mayGoOn_46 : decode cX10_mayGoOn 46 = .ok (.aload_n 1, 1) := by decide +kernel
theorem dX10_mayGoOn_47 : decode cX10_mayGoOn 47 = .ok (.getfield 284, 3) := by decide +kernel
theorem dX10_mayGoOn_50 : decode cX10_mayGoOn 50 = .ok (.invokevirtual 377, 3) := by decide +kernel
theorem dX10_mayGoOn_53 : decode cX10_mayGoOn 53 = .ok (.ifCond .ne 10, 3) := by decide +kernel
theorem dX10_mayGoOn_56 : decode cX10_mayGoOn 56 = .ok (.aload_n 0, 1) := by decide +kernel
theorem dX10_mayGoOn_57 : decode cX10_mayGoOn 57 = .ok (.aload_n 1, 1) := by decide +kernel
theorem dX10_mayGoOn_58 : decode cX10_mayGoOn 58 = .ok (.invokevirtual 362, 3) := by decide +kernel
theorem dX10_mayGoOn_61 : decode cX10_mayGoOn 61 = .ok (.iconst 0, 1) := by decide +kernel
theorem dX10_mayGoOn_62 : decode cX10_mayGoOn 62 = .ok (.ireturn, 1) := by decide +kernel
theorem dX10_mayGoOn_63 : decode cX10_mayGoOn 63 = .ok (.iconst 1, 1) := by decide +kernel
theorem dX10_mayGoOn_64 : decode cX10_mayGoOn 64 = .ok (.ireturn, 1) := by decide +kernel
theorem dX10_waitForLog_0 : decode cX10_waitForLog 0 = .ok (.aload_n 1, 1) := by decide +kernel
theorem dX10_waitForLog_1 : decode cX10_waitForLog 1 = .ok (.getfield 84, 3) := by decide +kernel
theorem dX10_waitForLog_4 : decode cX10_waitForLog 4 = .ok (.iconst 1, 1) := by decide +kernel
theorem dX10_waitForLog_5 : decode cX10_waitForLog 5 = .ok (.putfield 368, 3) := by decide +kernel
theorem dX10_waitForLog_8 : decode cX10_waitForLog 8 = .ok (.aload_n 0, 1) := by decide +kernel
theorem dX10_waitForLog_9 : decode cX10_waitForLog 9 = .ok (.aload_n 1, 1) := by decide +kernel
theorem dX10_waitForLog_10 : decode cX10_waitForLog 10 = .ok (.invokevirtual 380, 3) := by decide +kernel
theorem dX10_waitForLog_13 : decode cX10_waitForLog 13 = .ok (.return_, 1) := by decide +kernel
theorem dX10_pinAll_0 : decode cX10_pinAll 0 = .ok (.aload_n 1, 1) := by decide +kernel
theorem dX10_pinAll_1 : decode cX10_pinAll 1 = .ok (.getfield 244, 3) := by decide +kernel
theorem dX10_pinAll_4 : decode cX10_pinAll 4 = .ok (.astore_n 2, 1) := by decide +kernel
theorem dX10_pinAll_5 : decode cX10_pinAll 5 = .ok (.iconst 0, 1) := by decide +kernel
theorem dX10_pinAll_6 : decode cX10_pinAll 6 = .ok (.istore_n 3, 1) := by decide +kernel
theorem dX10_pinAll_7 : decode cX10_pinAll 7 = .ok (.iload_n 3, 1) := by decide +kernel
theorem dX10_pinAll_8 : decode cX10_pinAll 8 = .ok (.aload_n 2, 1) := by decide +kernel
theorem dX10_pinAll_9 : decode cX10_pinAll 9 = .ok (.getfield 353, 3) := by decide +kernel
theorem dX10_pinAll_12 : decode cX10_pinAll 12 = .ok (.if_icmp .ge 133, 3) := by decide +kernel
theorem dX10_pinAll_15 : decode cX10_pinAll 15 = .ok (.aload_n 2, 1) := by decide +kernel
theorem dX10_pinAll_16 : decode cX10_pinAll 16 = .ok (.getfield 383, 3) := by decide +kernel
theorem dX10_pinAll_19 : decode cX10_pinAll 19 = .ok (.iload_n 3, 1) := by decide +kernel
theorem dX10_pinAll_20 : decode cX10_pinAll 20 = .ok (.iaload, 1) := by decide +kernel
theorem dX10_pinAll_21 : decode cX10_pinAll 21 = .ok (.istore 4, 2) := by decide +kernel
theorem dX10_pinAll_23 : decode cX10_pinAll 23 = .ok (.aload_n 2, 1) := by decide +kernel
theorem dX10_pinAll_24 : decode cX10_pinAll 24 = .ok (.getfield 385, 3) := by decide +kernel
theorem dX10_pinAll_27 : decode cX10_pinAll 27 = .ok (.iload 4, 2) := by decide +kernel
theorem dX10_pinAll_29 : decode cX10_pinAll 29 = .ok (.baload, 1) := by decide +kernel
theorem dX10_pinAll_30 : decode cX10_pinAll 30 = .ok (.ifCond .eq 6, 3) := by decide +kernel
theorem dX10_pinAll_33 : decode cX10_pinAll 33 = .ok (.goto 106, 3) := by decide +kernel
theorem dX10_pinAll_36 : decode cX10_pinAll 36 = .ok (.aload_n 2, 1) := by decide +kernel
theorem dX10_pinAll_37 : decode cX10_pinAll 37 = .ok (.getfield 256, 3) := by decide +kernel
theorem dX10_pinAll_40 : decode cX10_pinAll 40 = .ok (.iload 4, 2) := by decide +kernel
theorem dX10_pinAll_42 : decode cX10_pinAll 42 = .ok (.iaload, 1) := by decide +kernel
theorem dX10_pinAll_43 : decode cX10_pinAll 43 = .ok (.iconst (-1), 1) := by decide +kernel
theorem dX10_pinAll_44 : decode cX10_pinAll 44 = .ok (.if_icmp .eq 7, 3) := by decide +kernel
theorem dX10_pinAll_47 : decode cX10_pinAll 47 = .ok (.iconst 1, 1) := by decide +kernel
theorem dX10_pinAll_48 : decode cX10_pinAll 48 = .ok (.goto 4, 3) := by decide +kernel
theorem dX10_pinAll_51 : decode cX10_pinAll 51 = .ok (.iconst 0, 1) := by decide +kernel
theorem dX10_pinAll_52 : decode cX10_pinAll 52 = .ok (.istore 5, 2) := by decide +kernel
theorem dX10_pinAll_54 : decode cX10_pinAll 54 = .ok (.iload 5, 2) := by decide +kernel
theorem dX10_pinAll_56 : decode cX10_pinAll 56 = .ok (.ifCond .ne 20, 3) := by decide +kernel
theorem dX10_pinAll_59 : decode cX10_pinAll 59 = .ok (.aload_n 2, 1) := by decide +kernel
theorem dX10_pinAll_60 : decode cX10_pinAll 60 = .ok (.getfield 248, 3) := by decide +kernel
theorem dX10_pinAll_63 : decode cX10_pinAll 63 = .ok (.iload 4, 2) := by decide +kernel
theorem dX10_pinAll_65 : decode cX10_pinAll 65 = .ok (.iaload, 1) := by decide +kernel
theorem dX10_pinAll_66 : decode cX10_pinAll 66 = .ok (.aload_n 2, 1) := by decide +kernel
theorem dX10_pinAll_67 : decode cX10_pinAll 67 = .ok (.getfield 259, 3) := by decide +kernel
theorem dX10_pinAll_70 : decode cX10_pinAll 70 = .ok (.iload 4, 2) := by decide +kernel
theorem dX10_pinAll_72 : decode cX10_pinAll 72 = .ok (.iaload, 1) := by decide +kernel
theorem dX10_pinAll_73 : decode cX10_pinAll 73 = .ok (.if_icmp .ge 58, 3) := by decide +kernel
theorem dX10_pinAll_76 : decode cX10_pinAll 76 = .ok (.iload 5, 2) := by decide +kernel
theorem dX10_pinAll_78 : decode cX10_pinAll 78 = .ok (.ifCond .ne 51, 3) := by decide +kernel
theorem dX10_pinAll_81 : decode cX10_pinAll 81 = .ok (.aload_n 2, 1) := by decide +kernel
theorem dX10_pinAll_82 : decode cX10_pinAll 82 = .ok (.getfield 253, 3) := by decide +kernel
theorem dX10_pinAll_85 : decode cX10_pinAll 85 = .ok (.iload 4, 2) := by decide +kernel
theorem dX10_pinAll_87 : decode cX10_pinAll 87 = .ok (.iaload, 1) := by decide +kernel
theorem dX10_pinAll_88 : decode cX10_pinAll 88 = .ok (.ifCond .ne 41, 3) := by decide +kernel
theorem dX10_pinAll_91 : decode cX10_pinAll 91 = .ok (.aload_n 2, 1) := by decide +kernel
theorem dX10_pinAll_92 : decode cX10_pinAll 92 = .ok (.getfield 253, 3) := by decide +kernel
theorem dX10_pinAll_95 : decode cX10_pinAll 95 = .ok (.iload 4, 2) := by decide +kernel
theorem dX10_pinAll_97 : decode cX10_pinAll 97 = .ok (.aload_n 2, 1) := by decide +kernel
theorem dX10_pinAll_98 : decode cX10_pinAll 98 = .ok (.getfield 259, 3) := by decide +kernel
theorem dX10_pinAll_101 : decode cX10_pinAll 101 = .ok (.iload 4, 2) := by decide +kernel
theorem dX10_pinAll_103 : decode cX10_pinAll 103 = .ok (.iaload, 1) := by decide +kernel
theorem dX10_pinAll_104 : decode cX10_pinAll 104 = .ok (.iastore, 1) := by decide +kernel
theorem dX10_pinAll_105 : decode cX10_pinAll 105 = .ok (.aload_n 0, 1) := by decide +kernel
theorem dX10_pinAll_106 : decode cX10_pinAll 106 = .ok (.aload_n 1, 1) := by decide +kernel
theorem dX10_pinAll_107 : decode cX10_pinAll 107 = .ok (.getfield 388, 3) := by decide +kernel
theorem dX10_pinAll_110 : decode cX10_pinAll 110 = .ok (.aload_n 0, 1) := by decide +kernel
theorem dX10_pinAll_111 : decode cX10_pinAll 111 = .ok (.iload 4, 2) := by decide +kernel
theorem dX10_pinAll_113 : decode cX10_pinAll 113 = .ok (.invokevirtual 158, 3) := by decide +kernel
theorem dX10_pinAll_116 : decode cX10_pinAll 116 = .ok (.iconst 0, 1) := by decide +kernel
theorem dX10_pinAll_117 : decode cX10_pinAll 117 = .ok (.iload 4, 2) := by decide +kernel
theorem dX10_pinAll_119 : decode cX10_pinAll 119 = .ok (.aload_n 2, 1) := by decide +kernel
theorem dX10_pinAll_120 : decode cX10_pinAll 120 = .ok (.getfield 253, 3) := by decide +kernel
theorem dX10_pinAll_123 : decode cX10_pinAll 123 = .ok (.iload 4, 2) := by decide +kernel
theorem dX10_pinAll_125 : decode cX10_pinAll 125 = .ok (.iaload, 1) := by decide +kernel
theorem dX10_pinAll_126 : decode cX10_pinAll 126 = .ok (.invokevirtual 391, 3) := by decide +kernel
theorem dX10_pinAll_129 : decode cX10_pinAll 129 = .ok (.iconst 0, 1) := by decide +kernel
theorem dX10_pinAll_130 : decode cX10_pinAll 130 = .ok (.ireturn, 1) := by decide +kernel
theorem dX10_pinAll_131 : decode cX10_pinAll 131 = .ok (.aload_n 2, 1) := by decide +kernel
theorem dX10_pinAll_132 : decode cX10_pinAll 132 = .ok (.getfield 385, 3) := by decide +kernel
theorem dX10_pinAll_135 : decode cX10_pinAll 135 = .ok (.iload 4, 2) := by decide +kernel
theorem dX10_pinAll_137 : decode cX10_pinAll 137 = .ok (.iconst 1, 1) := by decide +kernel
theorem dX10_pinAll_138 : decode cX10_pinAll 138 = .ok (.bastore, 1) := by decide +kernel
theorem dX10_pinAll_139 : decode cX10_pinAll 139 = .ok (.iinc 3 1, 3) := by decide +kernel
theorem dX10_pinAll_142 : decode cX10_pinAll 142 = .ok (.goto (-135), 3) := by decide +kernel
theorem dX10_pinAll_145 : decode cX10_pinAll 145 = .ok (.iconst 1, 1) := by decide +kernel
theorem dX10_pinAll_146 : decode cX10_pinAll 146 = .ok (.ireturn, 1) := by decide +kernel
theorem dX10_unpinAll_0 : decode cX10_unpinAll 0 = .ok (.aload_n 1, 1) := by decide +kernel
theorem dX10_unpinAll_1 : decode cX10_unpinAll 1 = .ok (.getfield 244, 3) := by decide +kernel
theorem dX10_unpinAll_4 : decode cX10_unpinAll 4 = .ok (.astore_n 2, 1) := by decide +kernel
theorem dX10_unpinAll_5 : decode cX10_unpinAll 5 = .ok (.iconst 0, 1) := by decide +kernel
theorem dX10_unpinAll_6 : decode cX10_unpinAll 6 = .ok (.istore_n 3, 1) := by decide +kernel
theorem dX10_unpinAll_7 : decode cX10_unpinAll 7 = .ok (.iload_n 3, 1) := by decide +kernel
theorem dX10_unpinAll_8 : decode cX10_unpinAll 8 = .ok (.aload_n 2, 1) := by decide +kernel
theorem dX10_unpinAll_9 : decode cX10_unpinAll 9 = .ok (.getfield 353, 3) := by decide +kernel
theorem dX10_unpinAll_12 : decode cX10_unpinAll 12 = .ok (.if_icmp .ge 21, 3) := by decide +kernel
theorem dX10_unpinAll_15 : decode cX10_unpinAll 15 = .ok (.aload_n 2, 1) := by decide +kernel
theorem dX10_unpinAll_16 : decode cX10_unpinAll 16 = .ok (.getfield 385, 3) := by decide +kernel
theorem dX10_unpinAll_19 : decode cX10_unpinAll 19 = .ok (.aload_n 2, 1) := by decide +kernel
theorem dX10_unpinAll_20 : decode cX10_unpinAll 20 = .ok (.getfield 383, 3) := by decide +kernel
theorem dX10_unpinAll_23 : decode cX10_unpinAll 23 = .ok (.iload_n 3, 1) := by decide +kernel
theorem dX10_unpinAll_24 : decode cX10_unpinAll 24 = .ok (.iaload, 1) := by decide +kernel
theorem dX10_unpinAll_25 : decode cX10_unpinAll 25 = .ok (.iconst 0, 1) := by decide +kernel
theorem dX10_unpinAll_26 : decode cX10_unpinAll 26 = .ok (.bastore, 1) := by decide +kernel
theorem dX10_unpinAll_27 : decode cX10_unpinAll 27 = .ok (.iinc 3 1, 3) := by decide +kernel
theorem dX10_unpinAll_30 : decode cX10_unpinAll 30 = .ok (.goto (-23), 3) := by decide +kernel
theorem dX10_unpinAll_33 : decode cX10_unpinAll 33 = .ok (.iconst 0, 1) := by decide +kernel
theorem dX10_unpinAll_34 : decode cX10_unpinAll 34 = .ok (.istore_n 3, 1) := by decide +kernel
theorem dX10_unpinAll_35 : decode cX10_unpinAll 35 = .ok (.iload_n 3, 1) := by decide +kernel
theorem dX10_unpinAll_36 : decode cX10_unpinAll 36 = .ok (.aload_n 2, 1) := by decide +kernel
theorem dX10_unpinAll_37 : decode cX10_unpinAll 37 = .ok (.getfield 353, 3) := by decide +kernel
theorem dX10_unpinAll_40 : decode cX10_unpinAll 40 = .ok (.if_icmp .ge 20, 3) := by decide +kernel
theorem dX10_unpinAll_43 : decode cX10_unpinAll 43 = .ok (.aload_n 0, 1) := by decide +kernel
theorem dX10_unpinAll_44 : decode cX10_unpinAll 44 = .ok (.aload_n 1, 1) := by decide +kernel
theorem dX10_unpinAll_45 : decode cX10_unpinAll 45 = .ok (.aload_n 2, 1) := by decide +kernel
theorem dX10_unpinAll_46 : decode cX10_unpinAll 46 = .ok (.getfield 383, 3) := by decide +kernel
theorem dX10_unpinAll_49 : decode cX10_unpinAll 49 = .ok (.iload_n 3, 1) := by decide +kernel
theorem dX10_unpinAll_50 : decode cX10_unpinAll 50 = .ok (.iaload, 1) := by decide +kernel
theorem dX10_unpinAll_51 : decode cX10_unpinAll 51 = .ok (.invokevirtual 395, 3) := by decide +kernel
theorem dX10_unpinAll_54 : decode cX10_unpinAll 54 = .ok (.iinc 3 1, 3) := by decide +kernel
theorem dX10_unpinAll_57 : decode cX10_unpinAll 57 = .ok (.goto (-22), 3) := by decide +kernel
theorem dX10_unpinAll_60 : decode cX10_unpinAll 60 = .ok (.return_, 1) := by decide +kernel
theorem dX10_endCall_0 : decode cX10_endCall 0 = .ok (.aload_n 0, 1) := by decide +kernel
theorem dX10_endCall_1 : decode cX10_endCall 1 = .ok (.getfield 52, 3) := by decide +kernel
theorem dX10_endCall_4 : decode cX10_endCall 4 = .ok (.getfield 398, 3) := by decide +kernel
theorem dX10_endCall_7 : decode cX10_endCall 7 = .ok (.ifCond .le 7, 3) := by decide +kernel
theorem dX10_endCall_10 : decode cX10_endCall 10 = .ok (.iconst 1, 1) := by decide +kernel
theorem dX10_endCall_11 : decode cX10_endCall 11 = .ok (.goto 4, 3) := by decide +kernel
theorem dX10_endCall_14 : decode cX10_endCall 14 = .ok (.iconst 0, 1) := by decide +kernel
theorem dX10_endCall_15 : decode cX10_endCall 15 = .ok (.istore_n 2, 1) := by decide +kernel
theorem dX10_endCall_16 : decode cX10_endCall 16 = .ok (.aload_n 0, 1) := by decide +kernel
theorem dX10_endCall_17 : decode cX10_endCall 17 = .ok (.getfield 52, 3) := by decide +kernel
theorem dX10_endCall_20 : decode cX10_endCall 20 = .ok (.invokevirtual 401, 3) := by decide +kernel
theorem dX10_endCall_23 : decode cX10_endCall 23 = .ok (.aload_n 1, 1) := by decide +kernel
theorem dX10_endCall_24 : decode cX10_endCall 24 = .ok (.getfield 84, 3) := by decide +kernel
theorem dX10_endCall_27 : decode cX10_endCall 27 = .ok (.aload_n 0, 1) := by decide +kernel
theorem dX10_endCall_28 : decode cX10_endCall 28 = .ok (.getfield 52, 3) := by decide +kernel
theorem dX10_endCall_31 : decode cX10_endCall 31 = .ok (.getfield 338, 3) := by decide +kernel
theorem dX10_endCall_34 : decode cX10_endCall 34 = .ok (.iconst 2, 1) := by decide +kernel
theorem dX10_endCall_35 : decode cX10_endCall 35 = .ok (.if_icmp .ne 7, 3) := by decide +kernel
theorem dX10_endCall_38 : decode cX10_endCall 38 = .ok (.iconst 3, 1) := by decide +kernel
theorem dX10_endCall_39 : decode cX10_endCall 39 = .ok (.goto 4, 3) := by decide +kernel
theorem dX10_endCall_42 : decode cX10_endCall 42 = .ok (.iconst 2, 1) := by decide +kernel
theorem dX10_endCall_43 : decode cX10_endCall 43 = .ok (.aload_n 0, 1) := by decide +kernel
theorem dX10_endCall_44 : decode cX10_endCall 44 = .ok (.getfield 52, 3) := by decide +kernel
theorem dX10_endCall_47 : decode cX10_endCall 47 = .ok (.getfield 404, 3) := by decide +kernel
theorem dX10_endCall_50 : decode cX10_endCall 50 = .ok (.aload_n 0, 1) := by decide +kernel
theorem dX10_endCall_51 : decode cX10_endCall 51 = .ok (.getfield 99, 3) := by decide +kernel
theorem dX10_endCall_54 : decode cX10_endCall 54 = .ok (.invokevirtual 145, 3) := by decide +kernel
theorem dX10_endCall_57 : decode cX10_endCall 57 = .ok (.aload_n 0, 1) := by decide +kernel
theorem dX10_endCall_58 : decode cX10_endCall 58 = .ok (.getfield 43, 3) := by decide +kernel
theorem dX10_endCall_61 : decode cX10_endCall 61 = .ok (.aload_n 1, 1) := by decide +kernel
theorem dX10_endCall_62 : decode cX10_endCall 62 = .ok (.aload_n 0, 1) := by decide +kernel
theorem dX10_endCall_63 : decode cX10_endCall 63 = .ok (.getfield 99, 3) := by decide +kernel
theorem dX10_endCall_66 : decode cX10_endCall 66 = .ok (.iload_n 2, 1) := by decide +kernel
theorem dX10_endCall_67 : decode cX10_endCall 67 = .ok (.ifCond .eq 7, 3) := by decide +kernel
theorem dX10_endCall_70 : decode cX10_endCall 70 = .ok (.iconst 1, 1) := by decide +kernel
theorem dX10_endCall_71 : decode cX10_endCall 71 = .ok (.goto 4, 3) := by decide +kernel
theorem dX10_endCall_74 : decode cX10_endCall 74 = .ok (.iconst 0, 1) := by decide +kernel
theorem dX10_endCall_75 : decode cX10_endCall 75 = .ok (.invokevirtual 405, 3) := by decide +kernel
theorem dX10_endCall_78 : decode cX10_endCall 78 = .ok (.aload_n 0, 1) := by decide +kernel
theorem dX10_endCall_79 : decode cX10_endCall 79 = .ok (.aload_n 1, 1) := by decide +kernel
theorem dX10_endCall_80 : decode cX10_endCall 80 = .ok (.invokevirtual 356, 3) := by decide +kernel
theorem dX10_endCall_83 : decode cX10_endCall 83 = .ok (.aload_n 1, 1) := by decide +kernel
theorem dX10_endCall_84 : decode cX10_endCall 84 = .ok (.getfield 244, 3) := by decide +kernel
theorem dX10_endCall_87 : decode cX10_endCall 87 = .ok (.invokevirtual 409, 3) := by decide +kernel
theorem dX10_endCall_90 : decode cX10_endCall 90 = .ok (.return_, 1) := by decide +kernel
theorem dX10_post_0 : decode cX10_post 0 = .ok (.aload_n 0, 1) := by decide +kernel
theorem dX10_post_1 : decode cX10_post 1 = .ok (.getfield 36, 3) := by decide +kernel
theorem dX10_post_4 : decode cX10_post 4 = .ok (.dup, 1) := by decide +kernel
theorem dX10_post_5 : decode cX10_post 5 = .ok (.getfield 303, 3) := by decide +kernel
theorem dX10_post_8 : decode cX10_post 8 = .ok (.iconst 1, 1) := by decide +kernel
theorem dX10_post_9 : decode cX10_post 9 = .ok (.iadd, 1) := by decide +kernel
theorem dX10_post_10 : decode cX10_post 10 = .ok (.putfield 303, 3) := by decide +kernel
theorem dX10_post_13 : decode cX10_post 13 = .ok (.aload_n 0, 1) := by decide +kernel
theorem dX10_post_14 : decode cX10_post 14 = .ok (.iload_n 2, 1) := by decide +kernel
theorem dX10_post_15 : decode cX10_post 15 = .ok (.invokevirtual 65, 3) := by decide +kernel
theorem dX10_post_18 : decode cX10_post 18 = .ok (.ifCond .eq 33, 3) := by decide +kernel
theorem dX10_post_21 : decode cX10_post 21 = .ok (.aload_n 0, 1) := by decide +kernel
theorem dX10_post_22 : decode cX10_post 22 = .ok (.getfield 19, 3) := by decide +kernel
theorem dX10_post_25 : decode cX10_post 25 = .ok (.iload_n 2, 1) := by decide +kernel
theorem dX10_post_26 : decode cX10_post 26 = .ok (.aaload, 1) := by decide +kernel
theorem dX10_post_27 : decode cX10_post 27 = .ok (.getfield 80, 3) := by decide +kernel
theorem dX10_post_30 : decode cX10_post 30 = .ok (.ifCond .eq 21, 3) := by decide +kernel
theorem dX10_post_33 : decode cX10_post 33 = .ok (.aload_n 0, 1) := by decide +kernel
theorem dX10_post_34 : decode cX10_post 34 = .ok (.getfield 36, 3) := by decide +kernel
theorem dX10_post_37 : decode cX10_post 37 = .ok (.iload_n 1, 1) := by decide +kernel
theorem dX10_post_38 : decode cX10_post 38 = .ok (.iload_n 2, 1) := by decide +kernel
theorem dX10_post_39 : decode cX10_post 39 = .ok (.iload_n 3, 1) := by decide +kernel
theorem dX10_post_40 : decode cX10_post 40 = .ok (.iload 4, 2) := by decide +kernel
theorem dX10_post_42 : decode cX10_post 42 = .ok (.iload 5, 2) := by decide +kernel
theorem dX10_post_44 : decode cX10_post 44 = .ok (.aload_n 0, 1) := by decide +kernel
theorem dX10_post_45 : decode cX10_post 45 = .ok (.getfield 99, 3) := by decide +kernel
theorem dX10_post_48 : decode cX10_post 48 = .ok (.invokevirtual 412, 3) := by decide +kernel
theorem dX10_post_51 : decode cX10_post 51 = .ok (.return_, 1) := by decide +kernel
theorem dX10_deliver_0 : decode cX10_deliver 0 = .ok (.iload_n 1, 1) := by decide +kernel
theorem dX10_deliver_1 : decode cX10_deliver 1 = .ok (.bipush 6, 2) := by decide +kernel
theorem dX10_deliver_3 : decode cX10_deliver 3 = .ok (.imul, 1) := by decide +kernel
theorem dX10_deliver_4 : decode cX10_deliver 4 = .ok (.istore_n 2, 1) := by decide +kernel
theorem dX10_deliver_5 : decode cX10_deliver 5 = .ok (.aload_n 0, 1) := by decide +kernel
theorem dX10_deliver_6 : decode cX10_deliver 6 = .ok (.getfield 36, 3) := by decide +kernel
theorem dX10_deliver_9 : decode cX10_deliver 9 = .ok (.getfield 416, 3) := by decide +kernel
theorem dX10_deliver_12 : decode cX10_deliver 12 = .ok (.iload_n 2, 1) := by decide +kernel
theorem dX10_deliver_13 : decode cX10_deliver 13 = .ok (.iaload, 1) := by decide +kernel
theorem dX10_deliver_14 : decode cX10_deliver 14 = .ok (.istore_n 3, 1) := by decide +kernel
theorem dX10_deliver_15 : decode cX10_deliver 15 = .ok (.aload_n 0, 1) := by decide +kernel
theorem dX10_deliver_16 : decode cX10_deliver 16 = .ok (.getfield 36, 3) := by decide +kernel
theorem dX10_deliver_19 : decode cX10_deliver 19 = .ok (.getfield 416, 3) := by decide +kernel
theorem dX10_deliver_22 : decode cX10_deliver 22 = .ok (.iload_n 2, 1) := by decide +kernel
theorem dX10_deliver_23 : decode cX10_deliver 23 = .ok (.iconst 1, 1) := by decide +kernel
theorem dX10_deliver_24 : decode cX10_deliver 24 = .ok (.iadd, 1) := by decide +kernel
theorem dX10_deliver_25 : decode cX10_deliver 25 = .ok (.iaload, 1) := by decide +kernel
theorem dX10_deliver_26 : decode cX10_deliver 26 = .ok (.istore 4, 2) := by decide +kernel
theorem dX10_deliver_28 : decode cX10_deliver 28 = .ok (.aload_n 0, 1) := by decide +kernel
theorem dX10_deliver_29 : decode cX10_deliver 29 = .ok (.getfield 36, 3) := by decide +kernel
theorem dX10_deliver_32 : decode cX10_deliver 32 = .ok (.getfield 416, 3) := by decide +kernel
theorem dX10_deliver_35 : decode cX10_deliver 35 = .ok (.iload_n 2, 1) := by decide +kernel
theorem dX10_deliver_36 : decode cX10_deliver 36 = .ok (.iconst 2, 1) := by decide +kernel
theorem dX10_deliver_37 : decode cX10_deliver 37 = .ok (.iadd, 1) := by decide +kernel
theorem dX10_deliver_38 : decode cX10_deliver 38 = .ok (.iaload, 1) := by decide +kernel
theorem dX10_deliver_39 : decode cX10_deliver 39 = .ok (.istore 5, 2) := by decide +kernel
theorem dX10_deliver_41 : decode cX10_deliver 41 = .ok (.aload_n 0, 1) := by decide +kernel
theorem dX10_deliver_42 : decode cX10_deliver 42 = .ok (.getfield 36, 3) := by decide +kernel
theorem dX10_deliver_45 : decode cX10_deliver 45 = .ok (.getfield 416, 3) := by decide +kernel
theorem dX10_deliver_48 : decode cX10_deliver 48 = .ok (.iload_n 2, 1) := by decide +kernel
theorem dX10_deliver_49 : decode cX10_deliver 49 = .ok (.iconst 3, 1) := by decide +kernel
theorem dX10_deliver_50 : decode cX10_deliver 50 = .ok (.iadd, 1) := by decide +kernel
theorem dX10_deliver_51 : decode cX10_deliver 51 = .ok (.iaload, 1) := by decide +kernel
theorem dX10_deliver_52 : decode cX10_deliver 52 = .ok (.istore 6, 2) := by decide +kernel
theorem dX10_deliver_54 : decode cX10_deliver 54 = .ok (.aload_n 0, 1) := by decide +kernel
theorem dX10_deliver_55 : decode cX10_deliver 55 = .ok (.getfield 36, 3) := by decide +kernel
theorem dX10_deliver_58 : decode cX10_deliver 58 = .ok (.getfield 416, 3) := by decide +kernel
theorem dX10_deliver_61 : decode cX10_deliver 61 = .ok (.iload_n 2, 1) := by decide +kernel
theorem dX10_deliver_62 : decode cX10_deliver 62 = .ok (.iconst 4, 1) := by decide +kernel
theorem dX10_deliver_63 : decode cX10_deliver 63 = .ok (.iadd, 1) := by decide +kernel
theorem dX10_deliver_64 : decode cX10_deliver 64 = .ok (.iaload, 1) := by decide +kernel
theorem dX10_deliver_65 : decode cX10_deliver 65 = .ok (.istore 7, 2) := by decide +kernel
theorem dX10_deliver_67 : decode cX10_deliver 67 = .ok (.aload_n 0, 1) := by decide +kernel
theorem dX10_deliver_68 : decode cX10_deliver 68 = .ok (.iload 4, 2) := by decide +kernel
theorem dX10_deliver_70 : decode cX10_deliver 70 = .ok (.invokevirtual 65, 3) := by decide +kernel
theorem dX10_deliver_73 : decode cX10_deliver 73 = .ok (.ifCond .eq 11, 3) := by decide +kernel
theorem dX10_deliver_76 : decode cX10_deliver 76 = .ok (.iload 6, 2) := by decide +kernel
theorem dX10_deliver_78 : decode cX10_deliver 78 = .ok (.invokestatic 239, 3) := by decide +kernel
theorem dX10_deliver_81 : decode cX10_deliver 81 = .ok (.ifCond .ne 5, 3) := by decide +kernel
theorem dX10_deliver_84 : decode cX10_deliver 84 = .ok (.iconst (-1), 1) := by decide +kernel
theorem dX10_deliver_85 : decode cX10_deliver 85 = .ok (.ireturn, 1) := by decide +kernel
theorem dX10_deliver_86 : decode cX10_deliver 86 = .ok (.iload 5, 2) := by decide +kernel
theorem dX10_deliver_88 : decode cX10_deliver 88 = .ok (.tableswitch 92 0 3 #[32, 72, 92, 52], 32) := by decide +kernel
theorem dX10_deliver_120 : decode cX10_deliver 120 = .ok (.aload_n 0, 1) := by decide +kernel
theorem dX10_deliver_121 : decode cX10_deliver 121 = .ok (.getfield 29, 3) := by decide +kernel
theorem dX10_deliver_124 : decode cX10_deliver 124 = .ok (.iload 6, 2) := by decide +kernel
theorem dX10_deliver_126 : decode cX10_deliver 126 = .ok (.iload_n 3, 1) := by decide +kernel
theorem dX10_deliver_127 : decode cX10_deliver 127 = .ok (.iload 7, 2) := by decide +kernel
theorem dX10_deliver_129 : decode cX10_deliver 129 = .ok (.invokevirtual 419, 3) := by decide +kernel
theorem dX10_deliver_132 : decode cX10_deliver 132 = .ok (.aload_n 0, 1) := by decide +kernel
theorem dX10_deliver_133 : decode cX10_deliver 133 = .ok (.iload 6, 2) := by decide +kernel
theorem dX10_deliver_135 : decode cX10_deliver 135 = .ok (.invokevirtual 422, 3) := by decide +kernel
theorem dX10_deliver_138 : decode cX10_deliver 138 = .ok (.iconst (-1), 1) := by decide +kernel
theorem dX10_deliver_139 : decode cX10_deliver 139 = .ok (.ireturn, 1) := by decide +kernel
theorem dX10_deliver_140 : decode cX10_deliver 140 = .ok (.aload_n 0, 1) := by decide +kernel
theorem dX10_deliver_141 : decode cX10_deliver 141 = .ok (.getfield 29, 3) := by decide +kernel
theorem dX10_deliver_144 : decode cX10_deliver 144 = .ok (.iload 6, 2) := by decide +kernel
theorem dX10_deliver_146 : decode cX10_deliver 146 = .ok (.iload_n 3, 1) := by decide +kernel
theorem dX10_deliver_147 : decode cX10_deliver 147 = .ok (.iload 7, 2) := by decide +kernel
theorem dX10_deliver_149 : decode cX10_deliver 149 = .ok (.invokevirtual 425, 3) := by decide +kernel
theorem dX10_deliver_152 : decode cX10_deliver 152 = .ok (.aload_n 0, 1) := by decide +kernel
theorem dX10_deliver_153 : decode cX10_deliver 153 = .ok (.iload 6, 2) := by decide +kernel
theorem dX10_deliver_155 : decode cX10_deliver 155 = .ok (.invokevirtual 422, 3) := by decide +kernel
theorem dX10_deliver_158 : decode cX10_deliver 158 = .ok (.iconst (-1), 1) := by decide +kernel
theorem dX10_deliver_159 : decode cX10_deliver 159 = .ok (.ireturn, 1) := by decide +kernel
theorem dX10_deliver_160 : decode cX10_deliver 160 = .ok (.aload_n 0, 1) := by decide +kernel
theorem dX10_deliver_161 : decode cX10_deliver 161 = .ok (.getfield 19, 3) := by decide +kernel
theorem dX10_deliver_164 : decode cX10_deliver 164 = .ok (.iload 4, 2) := by decide +kernel
theorem dX10_deliver_166 : decode cX10_deliver 166 = .ok (.aaload, 1) := by decide +kernel
theorem dX10_deliver_167 : decode cX10_deliver 167 = .ok (.getfield 244, 3) := by decide +kernel
theorem dX10_deliver_170 : decode cX10_deliver 170 = .ok (.iload 6, 2) := by decide +kernel
theorem dX10_deliver_172 : decode cX10_deliver 172 = .ok (.iload 7, 2) := by decide +kernel
theorem dX10_deliver_174 : decode cX10_deliver 174 = .ok (.invokevirtual 428, 3) := by decide +kernel
theorem dX10_deliver_177 : decode cX10_deliver 177 = .ok (.iload 4, 2) := by decide +kernel
theorem dX10_deliver_179 : decode cX10_deliver 179 = .ok (.ireturn, 1) := by decide +kernel
theorem dX10_deliver_180 : decode cX10_deliver 180 = .ok (.aload_n 0, 1) := by decide +kernel
theorem dX10_deliver_181 : decode cX10_deliver 181 = .ok (.aload_n 0, 1) := by decide +kernel
theorem dX10_deliver_182 : decode cX10_deliver 182 = .ok (.getfield 19, 3) := by decide +kernel
theorem dX10_deliver_185 : decode cX10_deliver 185 = .ok (.iload 4, 2) := by decide +kernel
theorem dX10_deliver_187 : decode cX10_deliver 187 = .ok (.aaload, 1) := by decide +kernel
theorem dX10_deliver_188 : decode cX10_deliver 188 = .ok (.iload 6, 2) := by decide +kernel
theorem dX10_deliver_190 : decode cX10_deliver 190 = .ok (.iload 7, 2) := by decide +kernel
theorem dX10_deliver_192 : decode cX10_deliver 192 = .ok (.iload_n 3, 1) := by decide +kernel
theorem dX10_deliver_193 : decode cX10_deliver 193 = .ok (.invokevirtual 431, 3) := by decide +kernel
theorem dX10_deliver_196 : decode cX10_deliver 196 = .ok (.ifCond .eq 8, 3) := by decide +kernel
theorem dX10_deliver_199 : decode cX10_deliver 199 = .ok (.iload 4, 2) := by decide +kernel
theorem dX10_deliver_201 : decode cX10_deliver 201 = .ok (.goto 4, 3) := by decide +kernel
theorem dX10_deliver_204 : decode cX10_deliver 204 = .ok (.iconst (-1), 1) := by decide +kernel
theorem dX10_deliver_205 : decode cX10_deliver 205 = .ok (.ireturn, 1) := by decide +kernel
theorem dX10_serve_0 : decode cX10_serve 0 = .ok (.aload_n 0, 1) := by decide +kernel
theorem dX10_serve_1 : decode cX10_serve 1 = .ok (.iload_n 1, 1) := by decide +kernel
theorem dX10_serve_2 : decode cX10_serve 2 = .ok (.invokevirtual 158, 3) := by decide +kernel
theorem dX10_serve_5 : decode cX10_serve 5 = .ok (.istore_n 2, 1) := by decide +kernel
theorem dX10_serve_6 : decode cX10_serve 6 = .ok (.iconst 0, 1) := by decide +kernel
theorem dX10_serve_7 : decode cX10_serve 7 = .ok (.istore_n 3, 1) := by decide +kernel
theorem dX10_serve_8 : decode cX10_serve 8 = .ok (.iload_n 3, 1) := by decide +kernel
theorem dX10_serve_9 : decode cX10_serve 9 = .ok (.iconst 4, 1) := by decide +kernel
theorem dX10_serve_10 : decode cX10_serve 10 = .ok (.if_icmp .ge 92, 3) := by decide +kernel
theorem dX10_serve_13 : decode cX10_serve 13 = .ok (.aload_n 0, 1) := by decide +kernel
theorem dX10_serve_14 : decode cX10_serve 14 = .ok (.getfield 29, 3) := by decide +kernel
theorem dX10_serve_17 : decode cX10_serve 17 = .ok (.getfield 267, 3) := by decide +kernel
theorem dX10_serve_20 : decode cX10_serve 20 = .ok (.iload_n 1, 1) := by decide +kernel
theorem dX10_serve_21 : decode cX10_serve 21 = .ok (.iaload, 1) := by decide +kernel
theorem dX10_serve_22 : decode cX10_serve 22 = .ok (.ifCond .le 80, 3) := by decide +kernel
theorem dX10_serve_25 : decode cX10_serve 25 = .ok (.aload_n 0, 1) := by decide +kernel
theorem dX10_serve_26 : decode cX10_serve 26 = .ok (.getfield 29, 3) := by decide +kernel
theorem dX10_serve_29 : decode cX10_serve 29 = .ok (.getfield 270, 3) := by decide +kernel
theorem dX10_serve_32 : decode cX10_serve 32 = .ok (.iload_n 1, 1) := by decide +kernel
theorem dX10_serve_33 : decode cX10_serve 33 = .ok (.iconst 4, 1) := by decide +kernel
theorem dX10_serve_34 : decode cX10_serve 34 = .ok (.imul, 1) := by decide +kernel
theorem dX10_serve_35 : decode cX10_serve 35 = .ok (.iaload, 1) := by decide +kernel
theorem dX10_serve_36 : decode cX10_serve 36 = .ok (.istore 4, 2) := by decide +kernel
theorem dX10_serve_38 : decode cX10_serve 38 = .ok (.aload_n 0, 1) := by decide +kernel
theorem dX10_serve_39 : decode cX10_serve 39 = .ok (.getfield 29, 3) := by decide +kernel
theorem dX10_serve_42 : decode cX10_serve 42 = .ok (.getfield 273, 3) := by decide +kernel
theorem dX10_serve_45 : decode cX10_serve 45 = .ok (.iload_n 1, 1) := by decide +kernel
theorem dX10_serve_46 : decode cX10_serve 46 = .ok (.iconst 4, 1) := by decide +kernel
theorem dX10_serve_47 : decode cX10_serve 47 = .ok (.imul, 1) := by decide +kernel
theorem dX10_serve_48 : decode cX10_serve 48 = .ok (.iaload, 1) := by decide +kernel
theorem dX10_serve_49 : decode cX10_serve 49 = .ok (.istore 5, 2) := by decide +kernel
theorem dX10_serve_51 : decode cX10_serve 51 = .ok (.aload_n 0, 1) := by decide +kernel
theorem dX10_serve_52 : decode cX10_serve 52 = .ok (.iload_n 1, 1) := by decide +kernel
theorem dX10_serve_53 : decode cX10_serve 53 = .ok (.iload 4, 2) := by decide +kernel
theorem dX10_serve_55 : decode cX10_serve 55 = .ok (.iload 5, 2) := by decide +kernel
theorem dX10_serve_57 : decode cX10_serve 57 = .ok (.iload_n 2, 1) := by decide +kernel
theorem dX10_serve_58 : decode cX10_serve 58 = .ok (.invokevirtual 435, 3) := by decide +kernel
theorem dX10_serve_61 : decode cX10_serve 61 = .ok (.ifCond .eq 4, 3) := by decide +kernel
theorem dX10_serve_64 : decode cX10_serve 64 = .ok (.return_, 1) := by decide +kernel
theorem dX10_serve_65 : decode cX10_serve 65 = .ok (.aload_n 0, 1) := by decide +kernel
theorem dX10_serve_66 : decode cX10_serve 66 = .ok (.getfield 29, 3) := by decide +kernel
theorem dX10_serve_69 : decode cX10_serve 69 = .ok (.iload_n 1, 1) := by decide +kernel
theorem dX10_serve_70 : decode cX10_serve 70 = .ok (.iload 4, 2) := by decide +kernel
theorem dX10_serve_72 : decode cX10_serve 72 = .ok (.iload 5, 2) := by decide +kernel
theorem dX10_serve_74 : decode cX10_serve 74 = .ok (.invokevirtual 439, 3) := by decide +kernel
theorem dX10_serve_77 : decode cX10_serve 77 = .ok (.aload_n 0, 1) := by decide +kernel
theorem dX10_serve_78 : decode cX10_serve 78 = .ok (.getfield 29, 3) := by decide +kernel
theorem dX10_serve_81 : decode cX10_serve 81 = .ok (.iload_n 1, 1) := by decide +kernel
theorem dX10_serve_82 : decode cX10_serve 82 = .ok (.invokevirtual 442, 3) := by decide +kernel
theorem dX10_serve_85 : decode cX10_serve 85 = .ok (.aload_n 0, 1) := by decide +kernel
theorem dX10_serve_86 : decode cX10_serve 86 = .ok (.iload_n 2, 1) := by decide +kernel
theorem dX10_serve_87 : decode cX10_serve 87 = .ok (.iload 4, 2) := by decide +kernel
theorem dX10_serve_89 : decode cX10_serve 89 = .ok (.iconst 1, 1) := by decide +kernel
theorem dX10_serve_90 : decode cX10_serve 90 = .ok (.iload_n 1, 1) := by decide +kernel
theorem dX10_serve_91 : decode cX10_serve 91 = .ok (.iload 5, 2) := by decide +kernel
theorem dX10_serve_93 : decode cX10_serve 93 = .ok (.invokevirtual 391, 3) := by decide +kernel
theorem dX10_serve_96 : decode cX10_serve 96 = .ok (.iinc 3 1, 3) := by decide +kernel
theorem dX10_serve_99 : decode cX10_serve 99 = .ok (.goto (-91), 3) := by decide +kernel
theorem dX10_serve_102 : decode cX10_serve 102 = .ok (.return_, 1) := by decide +kernel
theorem dX10_callOthersBack_0 : decode cX10_callOthersBack 0 = .ok (.iload_n 3, 1) := by decide +kernel
theorem dX10_callOthersBack_1 : decode cX10_callOthersBack 1 = .ok (.iconst 2, 1) := by decide +kernel
theorem dX10_callOthersBack_2 : decode cX10_callOthersBack 2 = .ok (.if_icmp .ne 7, 3) := by decide +kernel
theorem dX10_callOthersBack_5 : decode cX10_callOthersBack 5 = .ok (.iconst 0, 1) := by decide +kernel
theorem dX10_callOthersBack_6 : decode cX10_callOthersBack 6 = .ok (.goto 4, 3) := by decide +kernel
theorem dX10_callOthersBack_9 : decode cX10_callOthersBack 9 = .ok (.iconst 1, 1) := by decide +kernel
theorem dX10_callOthersBack_10 : decode cX10_callOthersBack 10 = .ok (.istore 5, 2) := by decide +kernel
theorem dX10_callOthersBack_12 : decode cX10_callOthersBack 12 = .ok (.iconst 0, 1) := by decide +kernel
theorem dX10_callOthersBack_13 : decode cX10_callOthersBack 13 = .ok (.istore 6, 2) := by decide +kernel
theorem dX10_callOthersBack_15 : decode cX10_callOthersBack 15 = .ok (.iconst 0, 1) := by decide +kernel
theorem dX10_callOthersBack_16 : decode cX10_callOthersBack 16 = .ok (.istore 7, 2) := by decide +kernel
theorem dX10_callOthersBack_18 : decode cX10_callOthersBack 18 = .ok (.iload 7, 2) := by decide +kernel
theorem dX10_callOthersBack_20 : decode cX10_callOthersBack 20 = .ok (.aload_n 0, 1) := by decide +kernel
theorem dX10_callOthersBack_21 : decode cX10_callOthersBack 21 = .ok (.getfield 19, 3) := by decide +kernel
theorem dX10_callOthersBack_24 : decode cX10_callOthersBack 24 = .ok (.arraylength, 1) := by decide +kernel
theorem dX10_callOthersBack_25 : decode cX10_callOthersBack 25 = .ok (.if_icmp .ge 97, 3) := by decide +kernel
theorem dX10_callOthersBack_28 : decode cX10_callOthersBack 28 = .ok (.iload_n 1, 1) := by decide +kernel
theorem dX10_callOthersBack_29 : decode cX10_callOthersBack 29 = .ok (.iconst 4, 1) := by decide +kernel
theorem dX10_callOthersBack_30 : decode cX10_callOthersBack 30 = .ok (.imul, 1) := by decide +kernel
theorem dX10_callOthersBack_31 : decode cX10_callOthersBack 31 = .ok (.iload 7, 2) := by decide +kernel
theorem dX10_callOthersBack_33 : decode cX10_callOthersBack 33 = .ok (.iadd, 1) := by decide +kernel
theorem dX10_callOthersBack_34 : decode cX10_callOthersBack 34 = .ok (.istore 8, 2) := by decide +kernel
theorem dX10_callOthersBack_36 : decode cX10_callOthersBack 36 = .ok (.iload 7, 2) := by decide +kernel
theorem dX10_callOthersBack_38 : decode cX10_callOthersBack 38 = .ok (.iload_n 2, 1) := by decide +kernel
theorem dX10_callOthersBack_39 : decode cX10_callOthersBack 39 = .ok (.if_icmp .eq 77, 3) := by decide +kernel
theorem dX10_callOthersBack_42 : decode cX10_callOthersBack 42 = .ok (.aload_n 0, 1) := by decide +kernel
theorem dX10_callOthersBack_43 : decode cX10_callOthersBack 43 = .ok (.getfield 29, 3) := by decide +kernel
theorem dX10_callOthersBack_46 : decode cX10_callOthersBack 46 = .ok (.getfield 262, 3) := by decide +kernel
theorem dX10_callOthersBack_49 : decode cX10_callOthersBack 49 = .ok (.iload 8, 2) := by decide +kernel
theorem dX10_callOthersBack_51 : decode cX10_callOthersBack 51 = .ok (.iaload, 1) := by decide +kernel
theorem dX10_callOthersBack_52 : decode cX10_callOthersBack 52 = .ok (.iload 5, 2) := by decide +kernel
theorem dX10_callOthersBack_54 : decode cX10_callOthersBack 54 = .ok (.if_icmp .gt 6, 3) := by decide +kernel
theorem dX10_callOthersBack_57 : decode cX10_callOthersBack 57 = .ok (.goto 59, 3) := by decide +kernel
theorem dX10_callOthersBack_60 : decode cX10_callOthersBack 60 = .ok (.iconst 1, 1) := by decide +kernel
theorem dX10_callOthersBack_61 : decode cX10_callOthersBack 61 = .ok (.istore 6, 2) := by decide +kernel
theorem dX10_callOthersBack_63 : decode cX10_callOthersBack 63 = .ok (.aload_n 0, 1) := by decide +kernel
theorem dX10_callOthersBack_64 : decode cX10_callOthersBack 64 = .ok (.getfield 29, 3) := by decide +kernel
theorem dX10_callOthersBack_67 : decode cX10_callOthersBack 67 = .ok (.getfield 445, 3) := by decide +kernel
theorem dX10_callOthersBack_70 : decode cX10_callOthersBack 70 = .ok (.iload 8, 2) := by decide +kernel
theorem dX10_callOthersBack_72 : decode cX10_callOthersBack 72 = .ok (.iaload, 1) := by decide +kernel
theorem dX10_callOthersBack_73 : decode cX10_callOthersBack 73 = .ok (.iconst (-1), 1) := by decide +kernel
theorem dX10_callOthersBack_74 : decode cX10_callOthersBack 74 = .ok (.if_icmp .eq 18, 3) := by decide +kernel
theorem dX10_callOthersBack_77 : decode cX10_callOthersBack 77 = .ok (.aload_n 0, 1) := by decide +kernel
theorem dX10_callOthersBack_78 : decode cX10_callOthersBack 78 = .ok (.getfield 29, 3) := by decide +kernel
theorem dX10_callOthersBack_81 : decode cX10_callOthersBack 81 = .ok (.getfield 445, 3) := by decide +kernel
theorem dX10_callOthersBack_84 : decode cX10_callOthersBack 84 = .ok (.iload 8, 2) := by decide +kernel
theorem dX10_callOthersBack_86 : decode cX10_callOthersBack 86 = .ok (.iaload, 1) := by decide +kernel
theorem dX10_callOthersBack_87 : decode cX10_callOthersBack 87 = .ok (.iload 5, 2) := by decide +kernel
theorem dX10_callOthersBack_89 : decode cX10_callOthersBack 89 = .ok (.if_icmp .le 27, 3) := by decide +kernel
theorem dX10_callOthersBack_92 : decode cX10_callOthersBack 92 = .ok (.aload_n 0, 1) := by decide +kernel
theorem dX10_callOthersBack_93 : decode cX10_callOthersBack 93 = .ok (.getfield 29, 3) := by decide +kernel
theorem dX10_callOthersBack_96 : decode cX10_callOthersBack 96 = .ok (.getfield 445, 3) := by decide +kernel
theorem dX10_callOthersBack_99 : decode cX10_callOthersBack 99 = .ok (.iload 8, 2) := by decide +kernel
theorem dX10_callOthersBack_101 : decode cX10_callOthersBack 101 = .ok (.iload 5, 2) := by decide +kernel
theorem dX10_callOthersBack_103 : decode cX10_callOthersBack 103 = .ok (.iastore, 1) := by decide +kernel
theorem dX10_callOthersBack_104 : decode cX10_callOthersBack 104 = .ok (.aload_n 0, 1) := by decide +kernel
theorem dX10_callOthersBack_105 : decode cX10_callOthersBack 105 = .ok (.iload 4, 2) := by decide +kernel
theorem dX10_callOthersBack_107 : decode cX10_callOthersBack 107 = .ok (.iload 7, 2) := by decide +kernel
theorem dX10_callOthersBack_109 : decode cX10_callOthersBack 109 = .ok (.iconst 2, 1) := by decide +kernel
theorem dX10_callOthersBack_110 : decode cX10_callOthersBack 110 = .ok (.iload_n 1, 1) := by decide +kernel
theorem dX10_callOthersBack_111 : decode cX10_callOthersBack 111 = .ok (.iload 5, 2) := by decide +kernel
theorem dX10_callOthersBack_113 : decode cX10_callOthersBack 113 = .ok (.invokevirtual 391, 3) := by decide +kernel
theorem dX10_callOthersBack_116 : decode cX10_callOthersBack 116 = .ok (.iinc 7 1, 3) := by decide +kernel
theorem dX10_callOthersBack_119 : decode cX10_callOthersBack 119 = .ok (.goto (-101), 3) := by decide +kernel
theorem dX10_callOthersBack_122 : decode cX10_callOthersBack 122 = .ok (.iload 6, 2) := by decide +kernel
theorem dX10_callOthersBack_124 : decode cX10_callOthersBack 124 = .ok (.ireturn, 1) := by decide +kernel
theorem dX10_callBack_0 : decode cX10_callBack 0 = .ok (.aload_n 1, 1) := by decide +kernel
theorem dX10_callBack_1 : decode cX10_callBack 1 = .ok (.getfield 244, 3) := by decide +kernel
theorem dX10_callBack_4 : decode cX10_callBack 4 = .ok (.astore 5, 2) := by decide +kernel
theorem dX10_callBack_6 : decode cX10_callBack 6 = .ok (.aload 5, 2) := by decide +kernel
theorem dX10_callBack_8 : decode cX10_callBack 8 = .ok (.getfield 248, 3) := by decide +kernel
theorem dX10_callBack_11 : decode cX10_callBack 11 = .ok (.iload_n 2, 1) := by decide +kernel
theorem dX10_callBack_12 : decode cX10_callBack 12 = .ok (.iaload, 1) := by decide +kernel
theorem dX10_callBack_13 : decode cX10_callBack 13 = .ok (.iload_n 3, 1) := by decide +kernel
theorem dX10_callBack_14 : decode cX10_callBack 14 = .ok (.if_icmp .gt 24, 3) := by decide +kernel
theorem dX10_callBack_17 : decode cX10_callBack 17 = .ok (.aload_n 0, 1) := by decide +kernel
theorem dX10_callBack_18 : decode cX10_callBack 18 = .ok (.aload_n 1, 1) := by decide +kernel
theorem dX10_callBack_19 : decode cX10_callBack 19 = .ok (.getfield 388, 3) := by decide +kernel
theorem dX10_callBack_22 : decode cX10_callBack 22 = .ok (.iload 4, 2) := by decide +kernel
theorem dX10_callBack_24 : decode cX10_callBack 24 = .ok (.iconst 3, 1) := by decide +kernel
theorem dX10_callBack_25 : decode cX10_callBack 25 = .ok (.iload_n 2, 1) := by decide +kernel
theorem dX10_callBack_26 : decode cX10_callBack 26 = .ok (.aload 5, 2) := by decide +kernel
theorem dX10_callBack_28 : decode cX10_callBack 28 = .ok (.getfield 248, 3) := by decide +kernel
theorem dX10_callBack_31 : decode cX10_callBack 31 = .ok (.iload_n 2, 1) := by decide +kernel
theorem dX10_callBack_32 : decode cX10_callBack 32 = .ok (.iaload, 1) := by decide +kernel
theorem dX10_callBack_33 : decode cX10_callBack 33 = .ok (.invokevirtual 391, 3) := by decide +kernel
theorem dX10_callBack_36 : decode cX10_callBack 36 = .ok (.iconst 0, 1) := by decide +kernel
theorem dX10_callBack_37 : decode cX10_callBack 37 = .ok (.ireturn, 1) := by decide +kernel
theorem dX10_callBack_38 : decode cX10_callBack 38 = .ok (.aload 5, 2) := by decide +kernel
theorem dX10_callBack_40 : decode cX10_callBack 40 = .ok (.getfield 256, 3) := by decide +kernel
theorem dX10_callBack_43 : decode cX10_callBack 43 = .ok (.iload_n 2, 1) := by decide +kernel
theorem dX10_callBack_44 : decode cX10_callBack 44 = .ok (.aload 5, 2) := by decide +kernel
theorem dX10_callBack_46 : decode cX10_callBack 46 = .ok (.getfield 256, 3) := by decide +kernel
theorem dX10_callBack_49 : decode cX10_callBack 49 = .ok (.iload_n 2, 1) := by decide +kernel
theorem dX10_callBack_50 : decode cX10_callBack 50 = .ok (.iaload, 1) := by decide +kernel
theorem dX10_callBack_51 : decode cX10_callBack 51 = .ok (.iconst (-1), 1) := by decide +kernel
theorem dX10_callBack_52 : decode cX10_callBack 52 = .ok (.if_icmp .ne 7, 3) := by decide +kernel
theorem dX10_callBack_55 : decode cX10_callBack 55 = .ok (.iload_n 3, 1) := by decide +kernel
theorem dX10_callBack_56 : decode cX10_callBack 56 = .ok (.goto 14, 3) := by decide +kernel
theorem dX10_callBack_59 : decode cX10_callBack 59 = .ok (.aload 5, 2) := by decide +kernel
theorem dX10_callBack_61 : decode cX10_callBack 61 = .ok (.getfield 256, 3) := by decide +kernel
theorem dX10_callBack_64 : decode cX10_callBack 64 = .ok (.iload_n 2, 1) := by decide +kernel
theorem dX10_callBack_65 : decode cX10_callBack 65 = .ok (.iaload, 1) := by decide +kernel
theorem dX10_callBack_66 : decode cX10_callBack 66 = .ok (.iload_n 3, 1) := by decide +kernel
theorem dX10_callBack_67 : decode cX10_callBack 67 = .ok (.invokestatic 448, 3) := by decide +kernel
theorem dX10_callBack_70 : decode cX10_callBack 70 = .ok (.iastore, 1) := by decide +kernel
theorem dX10_callBack_71 : decode cX10_callBack 71 = .ok (.aload_n 0, 1) := by decide +kernel
theorem dX10_callBack_72 : decode cX10_callBack 72 = .ok (.aload_n 1, 1) := by decide +kernel
theorem dX10_callBack_73 : decode cX10_callBack 73 = .ok (.iload_n 2, 1) := by decide +kernel
theorem dX10_callBack_74 : decode cX10_callBack 74 = .ok (.invokevirtual 395, 3) := by decide +kernel
theorem dX10_callBack_77 : decode cX10_callBack 77 = .ok (.aload 5, 2) := by decide +kernel
theorem dX10_callBack_79 : decode cX10_callBack 79 = .ok (.getfield 385, 3) := by decide +kernel
theorem dX10_callBack_82 : decode cX10_callBack 82 = .ok (.iload_n 2, 1) := by decide +kernel
theorem dX10_callBack_83 : decode cX10_callBack 83 = .ok (.baload, 1) := by decide +kernel
theorem dX10_callBack_84 : decode cX10_callBack 84 = .ok (.ifCond .ne 7, 3) := by decide +kernel
theorem dX10_callBack_87 : decode cX10_callBack 87 = .ok (.iconst 1, 1) := by decide +kernel
theorem dX10_callBack_88 : decode cX10_callBack 88 = .ok (.goto 4, 3) := by decide +kernel
theorem dX10_callBack_91 : decode cX10_callBack 91 = .ok (.iconst 0, 1) := by decide +kernel
theorem dX10_callBack_92 : decode cX10_callBack 92 = .ok (.ireturn, 1) := by decide +kernel
theorem dX10_goDown_0 : decode cX10_goDown 0 = .ok (.aload_n 1, 1) := by decide +kernel
theorem dX10_goDown_1 : decode cX10_goDown 1 = .ok (.getfield 244, 3) := by decide +kernel
theorem dX10_goDown_4 : decode cX10_goDown 4 = .ok (.astore_n 3, 1) := by decide +kernel
theorem dX10_goDown_5 : decode cX10_goDown 5 = .ok (.aload_n 3, 1) := by decide +kernel
theorem dX10_goDown_6 : decode cX10_goDown 6 = .ok (.iload_n 2, 1) := by decide +kernel
theorem dX10_goDown_7 : decode cX10_goDown 7 = .ok (.invokevirtual 454, 3) := by decide +kernel
theorem dX10_goDown_10 : decode cX10_goDown 10 = .ok (.ifCond .ne 4, 3) := by decide +kernel
theorem dX10_goDown_13 : decode cX10_goDown 13 = .ok (.return_, 1) := by decide +kernel
theorem dX10_goDown_14 : decode cX10_goDown 14 = .ok (.aload_n 3, 1) := by decide +kernel
theorem dX10_goDown_15 : decode cX10_goDown 15 = .ok (.getfield 248, 3) := by decide +kernel
theorem dX10_goDown_18 : decode cX10_goDown 18 = .ok (.iload_n 2, 1) := by decide +kernel
theorem dX10_goDown_19 : decode cX10_goDown 19 = .ok (.iaload, 1) := by decide +kernel
theorem dX10_goDown_20 : decode cX10_goDown 20 = .ok (.iconst 2, 1) := by decide +kernel
theorem dX10_goDown_21 : decode cX10_goDown 21 = .ok (.if_icmp .ne 19, 3) := by decide +kernel
theorem dX10_goDown_24 : decode cX10_goDown 24 = .ok (.aload_n 1, 1) := by decide +kernel
theorem dX10_goDown_25 : decode cX10_goDown 25 = .ok (.getfield 284, 3) := by decide +kernel
theorem dX10_goDown_28 : decode cX10_goDown 28 = .ok (.invokevirtual 377, 3) := by decide +kernel
theorem dX10_goDown_31 : decode cX10_goDown 31 = .ok (.ifCond .ne 9, 3) := by decide +kernel
theorem dX10_goDown_34 : decode cX10_goDown 34 = .ok (.aload_n 0, 1) := by decide +kernel
theorem dX10_goDown_35 : decode cX10_goDown 35 = .ok (.aload_n 1, 1) := by decide +kernel
theorem dX10_goDown_36 : decode cX10_goDown 36 = .ok (.invokevirtual 380, 3) := by decide +kernel
theorem dX10_goDown_39 : decode cX10_goDown 39 = .ok (.return_, 1) := by decide +kernel
theorem dX10_goDown_40 : decode cX10_goDown 40 = .ok (.aload_n 3, 1) := by decide +kernel
theorem dX10_goDown_41 : decode cX10_goDown 41 = .ok (.getfield 256, 3) := by decide +kernel
theorem dX10_goDown_44 : decode cX10_goDown 44 = .ok (.iload_n 2, 1) := by decide +kernel
theorem dX10_goDown_45 : decode cX10_goDown 45 = .ok (.iaload, 1) := by decide +kernel
theorem dX10_goDown_46 : decode cX10_goDown 46 = .ok (.istore 4, 2) := by decide +kernel
theorem dX10_goDown_48 : decode cX10_goDown 48 = .ok (.aload_n 3, 1) := by decide +kernel
theorem dX10_goDown_49 : decode cX10_goDown 49 = .ok (.getfield 248, 3) := by decide +kernel
theorem dX10_goDown_52 : decode cX10_goDown 52 = .ok (.iload_n 2, 1) := by decide +kernel
theorem dX10_goDown_53 : decode cX10_goDown 53 = .ok (.iload 4, 2) := by decide +kernel
theorem dX10_goDown_55 : decode cX10_goDown 55 = .ok (.iastore, 1) := by decide +kernel
theorem dX10_goDown_56 : decode cX10_goDown 56 = .ok (.aload_n 3, 1) := by decide +kernel
theorem dX10_goDown_57 : decode cX10_goDown 57 = .ok (.getfield 256, 3) := by decide +kernel
theorem dX10_goDown_60 : decode cX10_goDown 60 = .ok (.iload_n 2, 1) := by decide +kernel
theorem dX10_goDown_61 : decode cX10_goDown 61 = .ok (.iconst (-1), 1) := by decide +kernel
theorem dX10_goDown_62 : decode cX10_goDown 62 = .ok (.iastore, 1) := by decide +kernel
theorem dX10_goDown_63 : decode cX10_goDown 63 = .ok (.iload 4, 2) := by decide +kernel
theorem dX10_goDown_65 : decode cX10_goDown 65 = .ok (.ifCond .ne 11, 3) := by decide +kernel
theorem dX10_goDown_68 : decode cX10_goDown 68 = .ok (.aload_n 1, 1) := by decide +kernel
theorem dX10_goDown_69 : decode cX10_goDown 69 = .ok (.getfield 221, 3) := by decide +kernel
theorem dX10_goDown_72 : decode cX10_goDown 72 = .ok (.iload_n 2, 1) := by decide +kernel
theorem dX10_goDown_73 : decode cX10_goDown 73 = .ok (.invokevirtual 457, 3) := by decide +kernel
theorem dX10_goDown_76 : decode cX10_goDown 76 = .ok (.aload_n 0, 1) := by decide +kernel
theorem dX10_goDown_77 : decode cX10_goDown 77 = .ok (.aload_n 1, 1) := by decide +kernel
theorem dX10_goDown_78 : decode cX10_goDown 78 = .ok (.getfield 388, 3) := by decide +kernel
theorem dX10_goDown_81 : decode cX10_goDown 81 = .ok (.aload_n 0, 1) := by decide +kernel
theorem dX10_goDown_82 : decode cX10_goDown 82 = .ok (.iload_n 2, 1) := by decide +kernel
theorem dX10_goDown_83 : decode cX10_goDown 83 = .ok (.invokevirtual 158, 3) := by decide +kernel
theorem dX10_goDown_86 : decode cX10_goDown 86 = .ok (.iconst 3, 1) := by decide +kernel
theorem dX10_goDown_87 : decode cX10_goDown 87 = .ok (.iload_n 2, 1) := by decide +kernel
theorem dX10_goDown_88 : decode cX10_goDown 88 = .ok (.iload 4, 2) := by decide +kernel
theorem dX10_goDown_90 : decode cX10_goDown 90 = .ok (.invokevirtual 391, 3) := by decide +kernel
theorem dX10_goDown_93 : decode cX10_goDown 93 = .ok (.return_, 1) := by decide +kernel
theorem dX10_beginFlush_0 : decode cX10_beginFlush 0 = .ok (.aload_n 1, 1) := by decide +kernel
theorem dX10_beginFlush_1 : decode cX10_beginFlush 1 = .ok (.getfield 284, 3) := by decide +kernel
theorem dX10_beginFlush_4 : decode cX10_beginFlush 4 = .ok (.invokevirtual 371, 3) := by decide +kernel
theorem dX10_beginFlush_7 : decode cX10_beginFlush 7 = .ok (.ifCond .ne 21, 3) := by decide +kernel
theorem dX10_beginFlush_10 : decode cX10_beginFlush 10 = .ok (.aload_n 1, 1) := by decide +kernel
theorem dX10_beginFlush_11 : decode cX10_beginFlush 11 = .ok (.getfield 284, 3) := by decide +kernel
theorem dX10_beginFlush_14 : decode cX10_beginFlush 14 = .ok (.aload_n 1, 1) := by decide +kernel
theorem dX10_beginFlush_15 : decode cX10_beginFlush 15 = .ok (.getfield 221, 3) := by decide +kernel
theorem dX10_beginFlush_18 : decode cX10_beginFlush 18 = .ok (.aload_n 0, 1) := by decide +kernel
theorem dX10_beginFlush_19 : decode cX10_beginFlush 19 = .ok (.getfield 43, 3) := by decide +kernel
theorem dX10_beginFlush_22 : decode cX10_beginFlush 22 = .ok (.getfield 121, 3) := by decide +kernel
theorem dX10_beginFlush_25 : decode cX10_beginFlush 25 = .ok (.invokevirtual 460, 3) := by decide +kernel
theorem dX10_beginFlush_28 : decode cX10_beginFlush 28 = .ok (.return_, 1) := by decide +kernel
theorem dX10_writeNext_0 : decode cX10_writeNext 0 = .ok (.aload_n 1, 1) := by decide +kernel
theorem dX10_writeNext_1 : decode cX10_writeNext 1 = .ok (.getfield 284, 3) := by decide +kernel
theorem dX10_writeNext_4 : decode cX10_writeNext 4 = .ok (.astore_n 2, 1) := by decide +kernel
theorem dX10_writeNext_5 : decode cX10_writeNext 5 = .ok (.aload_n 1, 1) := by decide +kernel
theorem dX10_writeNext_6 : decode cX10_writeNext 6 = .ok (.getfield 80, 3) := by decide +kernel
theorem dX10_writeNext_9 : decode cX10_writeNext 9 = .ok (.ifCond .eq 10, 3) := by decide +kernel
theorem dX10_writeNext_12 : decode cX10_writeNext 12 = .ok (.aload_n 2, 1) := by decide +kernel
theorem dX10_writeNext_13 : decode cX10_writeNext 13 = .ok (.invokevirtual 371, 3) := by decide +kernel
theorem dX10_writeNext_16 : decode cX10_writeNext 16 = .ok (.ifCond .ne 5, 3) := by decide +kernel
theorem dX10_writeNext_19 : decode cX10_writeNext 19 = .ok (.iconst 0, 1) := by decide +kernel
theorem dX10_writeNext_20 : decode cX10_writeNext 20 = .ok (.ireturn, 1) := by decide +kernel
theorem dX10_writeNext_21 : decode cX10_writeNext 21 = .ok (.aload_n 2, 1) := by decide +kernel
theorem dX10_writeNext_22 : decode cX10_writeNext 22 = .ok (.aload_n 0, 1) := by decide +kernel
theorem dX10_writeNext_23 : decode cX10_writeNext 23 = .ok (.getfield 9, 3) := by decide +kernel
theorem dX10_writeNext_26 : decode cX10_writeNext 26 = .ok (.bipush 16, 2) := by decide +kernel
theorem dX10_writeNext_28 : decode cX10_writeNext 28 = .ok (.invokevirtual 464, 3) := by decide +kernel
theorem dX10_writeNext_31 : decode cX10_writeNext 31 = .ok (.aload_n 0, 1) := by decide +kernel
theorem dX10_writeNext_32 : decode cX10_writeNext 32 = .ok (.dup, 1) := by decide +kernel
theorem dX10_writeNext_33 : decode cX10_writeNext 33 = .ok (.getfield 306, 3) := by decide +kernel
theorem dX10_writeNext_36 : decode cX10_writeNext 36 = .ok (.iconst 1, 1) := by decide +kernel
theorem dX10_writeNext_37 : decode cX10_writeNext 37 = .ok (.iadd, 1) := by decide +kernel
theorem dX10_writeNext_38 : decode cX10_writeNext 38 = .ok (.putfield 306, 3) := by decide +kernel
theorem dX10_writeNext_41 : decode cX10_writeNext 41 = .ok (.aload_n 2, 1) := by decide +kernel
theorem dX10_writeNext_42 : decode cX10_writeNext 42 = .ok (.invokevirtual 468, 3) := by decide +kernel
theorem dX10_writeNext_45 : decode cX10_writeNext 45 = .ok (.ifCond .eq 18, 3) := by decide +kernel
theorem dX10_writeNext_48 : decode cX10_writeNext 48 = .ok (.aload_n 0, 1) := by decide +kernel
theorem dX10_writeNext_49 : decode cX10_writeNext 49 = .ok (.getfield 43, 3) := by decide +kernel
theorem dX10_writeNext_52 : decode cX10_writeNext 52 = .ok (.aload_n 1, 1) := by decide +kernel
theorem dX10_writeNext_53 : decode cX10_writeNext 53 = .ok (.getfield 388, 3) := by decide +kernel
theorem dX10_writeNext_56 : decode cX10_writeNext 56 = .ok (.aload_n 2, 1) := by decide +kernel
theorem dX10_writeNext_57 : decode cX10_writeNext 57 = .ok (.getfield 471, 3) := by decide +kernel
theorem dX10_writeNext_60 : decode cX10_writeNext 60 = .ok (.invokevirtual 474, 3) := by decide +kernel
theorem dX10_writeNext_63 : decode cX10_writeNext 63 = .ok (.aload_n 2, 1) := by decide +kernel
theorem dX10_writeNext_64 : decode cX10_writeNext 64 = .ok (.dup, 1) := by decide +kernel
theorem dX10_writeNext_65 : decode cX10_writeNext 65 = .ok (.getfield 477, 3) := by decide +kernel
theorem dX10_writeNext_68 : decode cX10_writeNext 68 = .ok (.iconst 1, 1) := by decide +kernel
theorem dX10_writeNext_69 : decode cX10_writeNext 69 = .ok (.iadd, 1) := by decide +kernel
theorem dX10_writeNext_70 : decode cX10_writeNext 70 = .ok (.putfield 477, 3) := by decide +kernel
theorem dX10_writeNext_73 : decode cX10_writeNext 73 = .ok (.aload_n 2, 1) := by decide +kernel
theorem dX10_writeNext_74 : decode cX10_writeNext 74 = .ok (.invokevirtual 293, 3) := by decide +kernel
theorem dX10_writeNext_77 : decode cX10_writeNext 77 = .ok (.ifCond .ne 15, 3) := by decide +kernel
theorem dX10_writeNext_80 : decode cX10_writeNext 80 = .ok (.aload_n 0, 1) := by decide +kernel
theorem dX10_writeNext_81 : decode cX10_writeNext 81 = .ok (.aload_n 1, 1) := by decide +kernel
theorem dX10_writeNext_82 : decode cX10_writeNext 82 = .ok (.invokevirtual 480, 3) := by decide +kernel
theorem dX10_writeNext_85 : decode cX10_writeNext 85 = .ok (.ifCond .eq 7, 3) := by decide +kernel
theorem dX10_writeNext_88 : decode cX10_writeNext 88 = .ok (.iconst 1, 1) := by decide +kernel
theorem dX10_writeNext_89 : decode cX10_writeNext 89 = .ok (.goto 4, 3) := by decide +kernel
theorem dX10_writeNext_92 : decode cX10_writeNext 92 = .ok (.iconst 0, 1) := by decide +kernel
theorem dX10_writeNext_93 : decode cX10_writeNext 93 = .ok (.ireturn, 1) := by decide +kernel
theorem dX10_endFlush_0 : decode cX10_endFlush 0 = .ok (.aload_n 1, 1) := by decide +kernel
theorem dX10_endFlush_1 : decode cX10_endFlush 1 = .ok (.getfield 284, 3) := by decide +kernel
theorem dX10_endFlush_4 : decode cX10_endFlush 4 = .ok (.invokevirtual 483, 3) := by decide +kernel
theorem dX10_endFlush_7 : decode cX10_endFlush 7 = .ok (.aload_n 1, 1) := by decide +kernel
theorem dX10_endFlush_8 : decode cX10_endFlush 8 = .ok (.getfield 84, 3) := by decide +kernel
theorem dX10_endFlush_11 : decode cX10_endFlush 11 = .ok (.getfield 368, 3) := by decide +kernel
theorem dX10_endFlush_14 : decode cX10_endFlush 14 = .ok (.istore_n 2, 1) := by decide +kernel
theorem dX10_endFlush_15 : decode cX10_endFlush 15 = .ok (.iconst 0, 1) := by decide +kernel
theorem dX10_endFlush_16 : decode cX10_endFlush 16 = .ok (.istore_n 3, 1) := by decide +kernel
theorem dX10_endFlush_17 : decode cX10_endFlush 17 = .ok (.iload_n 3, 1) := by decide +kernel
theorem dX10_endFlush_18 : decode cX10_endFlush 18 = .ok (.sipush 136, 3) := by decide +kernel
theorem dX10_endFlush_21 : decode cX10_endFlush 21 = .ok (.if_icmp .ge 22, 3) := by decide +kernel
theorem dX10_endFlush_24 : decode cX10_endFlush 24 = .ok (.iload_n 2, 1) := by decide +kernel
theorem dX10_endFlush_25 : decode cX10_endFlush 25 = .ok (.ifCond .ne 18, 3) := by decide +kernel
theorem dX10_endFlush_28 : decode cX10_endFlush 28 = .ok (.aload_n 1, 1) := by decide +kernel
theorem dX10_endFlush_29 : decode cX10_endFlush 29 = .ok (.getfield 244, 3) := by decide +kernel
theorem dX10_endFlush_32 : decode cX10_endFlush 32 = .ok (.iload_n 3, 1) := by decide +kernel
theorem dX10_endFlush_33 : decode cX10_endFlush 33 = .ok (.invokevirtual 454, 3) := by decide +kernel
theorem dX10_endFlush_36 : decode cX10_endFlush 36 = .ok (.istore_n 2, 1) := by decide +kernel
theorem dX10_endFlush_37 : decode cX10_endFlush 37 = .ok (.iinc 3 1, 3) := by decide +kernel
theorem dX10_endFlush_40 : decode cX10_endFlush 40 = .ok (.goto (-23), 3) := by decide +kernel
theorem dX10_endFlush_43 : decode cX10_endFlush 43 = .ok (.iload_n 2, 1) := by decide +kernel
theorem dX10_endFlush_44 : decode cX10_endFlush 44 = .ok (.ifCond .eq 20, 3) := by decide +kernel
theorem dX10_endFlush_47 : decode cX10_endFlush 47 = .ok (.aload_n 1, 1) := by decide +kernel
theorem dX10_endFlush_48 : decode cX10_endFlush 48 = .ok (.getfield 284, 3) := by decide +kernel
theorem dX10_endFlush_51 : decode cX10_endFlush 51 = .ok (.getfield 288, 3) := by decide +kernel
theorem dX10_endFlush_54 : decode cX10_endFlush 54 = .ok (.ifCond .le 10, 3) := by decide +kernel
theorem dX10_endFlush_57 : decode cX10_endFlush 57 = .ok (.aload_n 0, 1) := by decide +kernel
theorem dX10_endFlush_58 : decode cX10_endFlush 58 = .ok (.aload_n 1, 1) := by decide +kernel
theorem dX10_endFlush_59 : decode cX10_endFlush 59 = .ok (.invokevirtual 380, 3) := by decide +kernel
theorem dX10_endFlush_62 : decode cX10_endFlush 62 = .ok (.iconst 0, 1) := by decide +kernel
theorem dX10_endFlush_63 : decode cX10_endFlush 63 = .ok (.ireturn, 1) := by decide +kernel
theorem dX10_endFlush_64 : decode cX10_endFlush 64 = .ok (.iconst 0, 1) := by decide +kernel
theorem dX10_endFlush_65 : decode cX10_endFlush 65 = .ok (.istore_n 3, 1) := by decide +kernel
theorem dX10_endFlush_66 : decode cX10_endFlush 66 = .ok (.iload_n 3, 1) := by decide +kernel
theorem dX10_endFlush_67 : decode cX10_endFlush 67 = .ok (.sipush 136, 3) := by decide +kernel
theorem dX10_endFlush_70 : decode cX10_endFlush 70 = .ok (.if_icmp .ge 15, 3) := by decide +kernel
theorem dX10_endFlush_73 : decode cX10_endFlush 73 = .ok (.aload_n 0, 1) := by decide +kernel
theorem dX10_endFlush_74 : decode cX10_endFlush 74 = .ok (.aload_n 1, 1) := by decide +kernel
theorem dX10_endFlush_75 : decode cX10_endFlush 75 = .ok (.iload_n 3, 1) := by decide +kernel
theorem dX10_endFlush_76 : decode cX10_endFlush 76 = .ok (.invokevirtual 395, 3) := by decide +kernel
theorem dX10_endFlush_79 : decode cX10_endFlush 79 = .ok (.iinc 3 1, 3) := by decide +kernel
theorem dX10_endFlush_82 : decode cX10_endFlush 82 = .ok (.goto (-16), 3) := by decide +kernel
theorem dX10_endFlush_85 : decode cX10_endFlush 85 = .ok (.iconst 1, 1) := by decide +kernel
theorem dX10_endFlush_86 : decode cX10_endFlush 86 = .ok (.ireturn, 1) := by decide +kernel
theorem dX10_tear_0 : decode cX10_tear 0 = .ok (.aload_n 1, 1) := by decide +kernel
theorem dX10_tear_1 : decode cX10_tear 1 = .ok (.getfield 284, 3) := by decide +kernel
theorem dX10_tear_4 : decode cX10_tear 4 = .ok (.astore_n 3, 1) := by decide +kernel
theorem dX10_tear_5 : decode cX10_tear 5 = .ok (.aload_n 3, 1) := by decide +kernel
theorem dX10_tear_6 : decode cX10_tear 6 = .ok (.invokevirtual 371, 3) := by decide +kernel
theorem dX10_tear_9 : decode cX10_tear 9 = .ok (.ifCond .ne 4, 3) := by decide +kernel
theorem dX10_tear_12 : decode cX10_tear 12 = .ok (.return_, 1) := by decide +kernel
theorem dX10_tear_13 : decode cX10_tear 13 = .ok (.aload_n 3, 1) := by decide +kernel
theorem dX10_tear_14 : decode cX10_tear 14 = .ok (.aload_n 0, 1) := by decide +kernel
theorem dX10_tear_15 : decode cX10_tear 15 = .ok (.getfield 9, 3) := by decide +kernel
theorem dX10_tear_18 : decode cX10_tear 18 = .ok (.iload_n 2, 1) := by decide +kernel
theorem dX10_tear_19 : decode cX10_tear 19 = .ok (.invokevirtual 464, 3) := by decide +kernel
theorem dX10_tear_22 : decode cX10_tear 22 = .ok (.aload_n 3, 1) := by decide +kernel
theorem dX10_tear_23 : decode cX10_tear 23 = .ok (.invokevirtual 468, 3) := by decide +kernel
theorem dX10_tear_26 : decode cX10_tear 26 = .ok (.ifCond .eq 23, 3) := by decide +kernel
theorem dX10_tear_29 : decode cX10_tear 29 = .ok (.iload_n 2, 1) := by decide +kernel
theorem dX10_tear_30 : decode cX10_tear 30 = .ok (.iconst 2, 1) := by decide +kernel
theorem dX10_tear_31 : decode cX10_tear 31 = .ok (.if_icmp .le 18, 3) := by decide +kernel
theorem dX10_tear_34 : decode cX10_tear 34 = .ok (.aload_n 0, 1) := by decide +kernel
theorem dX10_tear_35 : decode cX10_tear 35 = .ok (.getfield 43, 3) := by decide +kernel
theorem dX10_tear_38 : decode cX10_tear 38 = .ok (.aload_n 1, 1) := by decide +kernel
theorem dX10_tear_39 : decode cX10_tear 39 = .ok (.getfield 388, 3) := by decide +kernel
theorem dX10_tear_42 : decode cX10_tear 42 = .ok (.aload_n 3, 1) := by decide +kernel
theorem dX10_tear_43 : decode cX10_tear 43 = .ok (.getfield 471, 3) := by decide +kernel
theorem dX10_tear_46 : decode cX10_tear 46 = .ok (.invokevirtual 474, 3) := by decide +kernel
theorem dX10_tear_49 : decode cX10_tear 49 = .ok (.return_, 1) := by decide +kernel
theorem dX10_replay_0 : decode cX10_replay 0 = .ok (.aload_n 1, 1) := by decide +kernel
theorem dX10_replay_1 : decode cX10_replay 1 = .ok (.getfield 388, 3) := by decide +kernel
theorem dX10_replay_4 : decode cX10_replay 4 = .ok (.invokestatic 486, 3) := by decide +kernel
theorem dX10_replay_7 : decode cX10_replay 7 = .ok (.bipush 16, 2) := by decide +kernel
theorem dX10_replay_9 : decode cX10_replay 9 = .ok (.imul, 1) := by decide +kernel
theorem dX10_replay_10 : decode cX10_replay 10 = .ok (.istore_n 2, 1) := by decide +kernel
theorem dX10_replay_11 : decode cX10_replay 11 = .ok (.aload_n 0, 1) := by decide +kernel
theorem dX10_replay_12 : decode cX10_replay 12 = .ok (.getfield 9, 3) := by decide +kernel
theorem dX10_replay_15 : decode cX10_replay 15 = .ok (.iload_n 2, 1) := by decide +kernel
theorem dX10_replay_16 : decode cX10_replay 16 = .ok (.iconst 2, 1) := by decide +kernel
theorem dX10_replay_17 : decode cX10_replay 17 = .ok (.iadd, 1) := by decide +kernel
theorem dX10_replay_18 : decode cX10_replay 18 = .ok (.iaload, 1) := by decide +kernel
theorem dX10_replay_19 : decode cX10_replay 19 = .ok (.iconst 1, 1) := by decide +kernel
theorem dX10_replay_20 : decode cX10_replay 20 = .ok (.if_icmp .eq 5, 3) := by decide +kernel
theorem dX10_replay_23 : decode cX10_replay 23 = .ok (.iconst 0, 1) := by decide +kernel
theorem dX10_replay_24 : decode cX10_replay 24 = .ok (.ireturn, 1) := by decide +kernel
theorem dX10_replay_25 : decode cX10_replay 25 = .ok (.iconst 0, 1) := by decide +kernel
theorem dX10_replay_26 : decode cX10_replay 26 = .ok (.bipush 16, 2) := by decide +kernel
theorem dX10_replay_28 : decode cX10_replay 28 = .ok (.aload_n 0, 1) := by decide +kernel
theorem dX10_replay_29 : decode cX10_replay 29 = .ok (.getfield 9, 3) := by decide +kernel
theorem dX10_replay_32 : decode cX10_replay 32 = .ok (.iload_n 2, 1) := by decide +kernel
theorem dX10_replay_33 : decode cX10_replay 33 = .ok (.iconst 1, 1) := by decide +kernel
theorem dX10_replay_34 : decode cX10_replay 34 = .ok (.iadd, 1) := by decide +kernel
theorem dX10_replay_35 : decode cX10_replay 35 = .ok (.iaload, 1) := by decide +kernel
theorem dX10_replay_36 : decode cX10_replay 36 = .ok (.invokestatic 448, 3) := by decide +kernel
theorem dX10_replay_39 : decode cX10_replay 39 = .ok (.invokestatic 489, 3) := by decide +kernel
theorem dX10_replay_42 : decode cX10_replay 42 = .ok (.istore_n 3, 1) := by decide +kernel
theorem dX10_replay_43 : decode cX10_replay 43 = .ok (.iconst 0, 1) := by decide +kernel
theorem dX10_replay_44 : decode cX10_replay 44 = .ok (.istore 4, 2) := by decide +kernel
theorem dX10_replay_46 : decode cX10_replay 46 = .ok (.iload 4, 2) := by decide +kernel
theorem dX10_replay_48 : decode cX10_replay 48 = .ok (.iload_n 3, 1) := by decide +kernel
theorem dX10_replay_49 : decode cX10_replay 49 = .ok (.if_icmp .ge 58, 3) := by decide +kernel
theorem dX10_replay_52 : decode cX10_replay 52 = .ok (.aload_n 0, 1) := by decide +kernel
theorem dX10_replay_53 : decode cX10_replay 53 = .ok (.getfield 9, 3) := by decide +kernel
theorem dX10_replay_56 : decode cX10_replay 56 = .ok (.iload_n 2, 1) := by decide +kernel
theorem dX10_replay_57 : decode cX10_replay 57 = .ok (.bipush 16, 2) := by decide +kernel
theorem dX10_replay_59 : decode cX10_replay 59 = .ok (.iadd, 1) := by decide +kernel
theorem dX10_replay_60 : decode cX10_replay 60 = .ok (.iload 4, 2) := by decide +kernel
theorem dX10_replay_62 : decode cX10_replay 62 = .ok (.iadd, 1) := by decide +kernel
theorem dX10_replay_63 : decode cX10_replay 63 = .ok (.iaload, 1) := by decide +kernel
theorem dX10_replay_64 : decode cX10_replay 64 = .ok (.istore 5, 2) := by decide +kernel
theorem dX10_replay_66 : decode cX10_replay 66 = .ok (.iload 5, 2) := by decide +kernel
theorem dX10_replay_68 : decode cX10_replay 68 = .ok (.invokestatic 492, 3) := by decide +kernel
theorem dX10_replay_71 : decode cX10_replay 71 = .ok (.ifCond .eq 30, 3) := by decide +kernel
theorem dX10_replay_74 : decode cX10_replay 74 = .ok (.aload_n 0, 1) := by decide +kernel
theorem dX10_replay_75 : decode cX10_replay 75 = .ok (.getfield 9, 3) := by decide +kernel
theorem dX10_replay_78 : decode cX10_replay 78 = .ok (.iload_n 2, 1) := by decide +kernel
theorem dX10_replay_79 : decode cX10_replay 79 = .ok (.iconst 2, 1) := by decide +kernel
theorem dX10_replay_80 : decode cX10_replay 80 = .ok (.iload 4, 2) := by decide +kernel
theorem dX10_replay_82 : decode cX10_replay 82 = .ok (.iadd, 1) := by decide +kernel
theorem dX10_replay_83 : decode cX10_replay 83 = .ok (.bipush 16, 2) := by decide +kernel
theorem dX10_replay_85 : decode cX10_replay 85 = .ok (.imul, 1) := by decide +kernel
theorem dX10_replay_86 : decode cX10_replay 86 = .ok (.iadd, 1) := by decide +kernel
theorem dX10_replay_87 : decode cX10_replay 87 = .ok (.aload_n 0, 1) := by decide +kernel
theorem dX10_replay_88 : decode cX10_replay 88 = .ok (.getfield 9, 3) := by decide +kernel
theorem dX10_replay_91 : decode cX10_replay 91 = .ok (.iload 5, 2) := by decide +kernel
theorem dX10_replay_93 : decode cX10_replay 93 = .ok (.bipush 16, 2) := by decide +kernel
theorem dX10_replay_95 : decode cX10_replay 95 = .ok (.imul, 1) := by decide +kernel
theorem dX10_replay_96 : decode cX10_replay 96 = .ok (.bipush 16, 2) := by decide +kernel
theorem dX10_replay_98 : decode cX10_replay 98 = .ok (.invokestatic 495, 3) := by decide +kernel
theorem dX10_replay_101 : decode cX10_replay 101 = .ok (.iinc 4 1, 3) := by decide +kernel
theorem dX10_replay_104 : decode cX10_replay 104 = .ok (.goto (-58), 3) := by decide +kernel
theorem dX10_replay_107 : decode cX10_replay 107 = .ok (.aload_n 0, 1) := by decide +kernel
theorem dX10_replay_108 : decode cX10_replay 108 = .ok (.getfield 9, 3) := by decide +kernel
theorem dX10_replay_111 : decode cX10_replay 111 = .ok (.iload_n 2, 1) := by decide +kernel
theorem dX10_replay_112 : decode cX10_replay 112 = .ok (.iconst 2, 1) := by decide +kernel
theorem dX10_replay_113 : decode cX10_replay 113 = .ok (.iadd, 1) := by decide +kernel
theorem dX10_replay_114 : decode cX10_replay 114 = .ok (.iconst 0, 1) := by decide +kernel
theorem dX10_replay_115 : decode cX10_replay 115 = .ok (.iastore, 1) := by decide +kernel
theorem dX10_replay_116 : decode cX10_replay 116 = .ok (.iload_n 3, 1) := by decide +kernel
theorem dX10_replay_117 : decode cX10_replay 117 = .ok (.ireturn, 1) := by decide +kernel
theorem dX10_layLocksAnew_0 : decode cX10_layLocksAnew 0 = .ok (.aload_n 0, 1) := by decide +kernel
theorem dX10_layLocksAnew_1 : decode cX10_layLocksAnew 1 = .ok (.getfield 36, 3) := by decide +kernel
theorem dX10_layLocksAnew_4 : decode cX10_layLocksAnew 4 = .ok (.iconst 0, 1) := by decide +kernel
theorem dX10_layLocksAnew_5 : decode cX10_layLocksAnew 5 = .ok (.putfield 276, 3) := by decide +kernel
theorem dX10_layLocksAnew_8 : decode cX10_layLocksAnew 8 = .ok (.iconst 0, 1) := by decide +kernel
theorem dX10_layLocksAnew_9 : decode cX10_layLocksAnew 9 = .ok (.istore_n 1, 1) := by decide +kernel
theorem dX10_layLocksAnew_10 : decode cX10_layLocksAnew 10 = .ok (.iload_n 1, 1) := by decide +kernel
theorem dX10_layLocksAnew_11 : decode cX10_layLocksAnew 11 = .ok (.sipush 136, 3) := by decide +kernel
theorem dX10_layLocksAnew_14 : decode cX10_layLocksAnew 14 = .ok (.if_icmp .ge 17, 3) := by decide +kernel
theorem dX10_layLocksAnew_17 : decode cX10_layLocksAnew 17 = .ok (.aload_n 0, 1) := by decide +kernel
theorem dX10_layLocksAnew_18 : decode cX10_layLocksAnew 18 = .ok (.getfield 29, 3) := by decide +kernel
theorem dX10_layLocksAnew_21 : decode cX10_layLocksAnew 21 = .ok (.iload_n 1, 1) := by decide +kernel
theorem dX10_layLocksAnew_22 : decode cX10_layLocksAnew 22 = .ok (.invokevirtual 161, 3) := by decide +kernel
theorem dX10_layLocksAnew_25 : decode cX10_layLocksAnew 25 = .ok (.iinc 1 1, 3) := by decide +kernel
theorem dX10_layLocksAnew_28 : decode cX10_layLocksAnew 28 = .ok (.goto (-18), 3) := by decide +kernel
theorem dX10_layLocksAnew_31 : decode cX10_layLocksAnew 31 = .ok (.iconst 0, 1) := by decide +kernel
theorem dX10_layLocksAnew_32 : decode cX10_layLocksAnew 32 = .ok (.istore_n 1, 1) := by decide +kernel
theorem dX10_layLocksAnew_33 : decode cX10_layLocksAnew 33 = .ok (.iload_n 1, 1) := by decide +kernel
theorem dX10_layLocksAnew_34 : decode cX10_layLocksAnew 34 = .ok (.aload_n 0, 1) := by decide +kernel
theorem dX10_layLocksAnew_35 : decode cX10_layLocksAnew 35 = .ok (.getfield 19, 3) := by decide +kernel
theorem dX10_layLocksAnew_38 : decode cX10_layLocksAnew 38 = .ok (.arraylength, 1) := by decide +kernel
theorem dX10_layLocksAnew_39 : decode cX10_layLocksAnew 39 = .ok (.if_icmp .ge 81, 3) := by decide +kernel
theorem dX10_layLocksAnew_42 : decode cX10_layLocksAnew 42 = .ok (.aload_n 0, 1) := by decide +kernel
theorem dX10_layLocksAnew_43 : decode cX10_layLocksAnew 43 = .ok (.getfield 19, 3) := by decide +kernel
theorem dX10_layLocksAnew_46 : decode cX10_layLocksAnew 46 = .ok (.iload_n 1, 1) := by decide +kernel
theorem dX10_layLocksAnew_47 : decode cX10_layLocksAnew 47 = .ok (.aaload, 1) := by decide +kernel
theorem dX10_layLocksAnew_48 : decode cX10_layLocksAnew 48 = .ok (.getfield 244, 3) := by decide +kernel
theorem dX10_layLocksAnew_51 : decode cX10_layLocksAnew 51 = .ok (.astore_n 2, 1) := by decide +kernel
theorem dX10_layLocksAnew_52 : decode cX10_layLocksAnew 52 = .ok (.aload_n 2, 1) := by decide +kernel
theorem dX10_layLocksAnew_53 : decode cX10_layLocksAnew 53 = .ok (.getfield 256, 3) := by decide +kernel
theorem dX10_layLocksAnew_56 : decode cX10_layLocksAnew 56 = .ok (.iconst (-1), 1) := by decide +kernel
theorem dX10_layLocksAnew_57 : decode cX10_layLocksAnew 57 = .ok (.invokestatic 501, 3) := by decide +kernel
theorem dX10_layLocksAnew_60 : decode cX10_layLocksAnew 60 = .ok (.iconst 0, 1) := by decide +kernel
theorem dX10_layLocksAnew_61 : decode cX10_layLocksAnew 61 = .ok (.istore_n 3, 1) := by decide +kernel
theorem dX10_layLocksAnew_62 : decode cX10_layLocksAnew 62 = .ok (.iload_n 3, 1) := by decide +kernel
theorem dX10_layLocksAnew_63 : decode cX10_layLocksAnew 63 = .ok (.sipush 136, 3) := by decide +kernel
theorem dX10_layLocksAnew_66 : decode cX10_layLocksAnew 66 = .ok (.if_icmp .ge 48, 3) := by decide +kernel
theorem dX10_layLocksAnew_69 : decode cX10_layLocksAnew 69 = .ok (.aload_n 0, 1) := by decide +kernel
theorem dX10_layLocksAnew_70 : decode cX10_layLocksAnew 70 = .ok (.getfield 29, 3) := by decide +kernel
theorem dX10_layLocksAnew_73 : decode cX10_layLocksAnew 73 = .ok (.iload_n 3, 1) := by decide +kernel
theorem dX10_layLocksAnew_74 : decode cX10_layLocksAnew 74 = .ok (.iload_n 1, 1) := by decide +kernel
theorem dX10_layLocksAnew_75 : decode cX10_layLocksAnew 75 = .ok (.aload_n 2, 1) := by decide +kernel
theorem dX10_layLocksAnew_76 : decode cX10_layLocksAnew 76 = .ok (.getfield 248, 3) := by decide +kernel
theorem dX10_layLocksAnew_79 : decode cX10_layLocksAnew 79 = .ok (.iload_n 3, 1) := by decide +kernel
theorem dX10_layLocksAnew_80 : decode cX10_layLocksAnew 80 = .ok (.iaload, 1) := by decide +kernel
theorem dX10_layLocksAnew_81 : decode cX10_layLocksAnew 81 = .ok (.invokevirtual 439, 3) := by decide +kernel
theorem dX10_layLocksAnew_84 : decode cX10_layLocksAnew 84 = .ok (.aload_n 2, 1) := by decide +kernel
theorem dX10_layLocksAnew_85 : decode cX10_layLocksAnew 85 = .ok (.getfield 253, 3) := by decide +kernel
theorem dX10_layLocksAnew_88 : decode cX10_layLocksAnew 88 = .ok (.iload_n 3, 1) := by decide +kernel
theorem dX10_layLocksAnew_89 : decode cX10_layLocksAnew 89 = .ok (.iaload, 1) := by decide +kernel
theorem dX10_layLocksAnew_90 : decode cX10_layLocksAnew 90 = .ok (.ifCond .eq 18, 3) := by decide +kernel
theorem dX10_layLocksAnew_93 : decode cX10_layLocksAnew 93 = .ok (.aload_n 0, 1) := by decide +kernel
theorem dX10_layLocksAnew_94 : decode cX10_layLocksAnew 94 = .ok (.getfield 29, 3) := by decide +kernel
theorem dX10_layLocksAnew_97 : decode cX10_layLocksAnew 97 = .ok (.iload_n 3, 1) := by decide +kernel
theorem dX10_layLocksAnew_98 : decode cX10_layLocksAnew 98 = .ok (.iload_n 1, 1) := by decide +kernel
theorem dX10_layLocksAnew_99 : decode cX10_layLocksAnew 99 = .ok (.aload_n 2, 1) := by decide +kernel
theorem dX10_layLocksAnew_100 : decode cX10_layLocksAnew 100 = .ok (.getfield 253, 3) := by decide +kernel
theorem dX10_layLocksAnew_103 : decode cX10_layLocksAnew 103 = .ok (.iload_n 3, 1) := by decide +kernel
theorem dX10_layLocksAnew_104 : decode cX10_layLocksAnew 104 = .ok (.iaload, 1) := by decide +kernel
theorem dX10_layLocksAnew_105 : decode cX10_layLocksAnew 105 = .ok (.invokevirtual 419, 3) := by decide +kernel
theorem dX10_layLocksAnew_108 : decode cX10_layLocksAnew 108 = .ok (.iinc 3 1, 3) := by decide +kernel
theorem dX10_layLocksAnew_111 : decode cX10_layLocksAnew 111 = .ok (.goto (-49), 3) := by decide +kernel
theorem dX10_layLocksAnew_114 : decode cX10_layLocksAnew 114 = .ok (.iinc 1 1, 3) := by decide +kernel
theorem dX10_layLocksAnew_117 : decode cX10_layLocksAnew 117 = .ok (.goto (-84), 3) := by decide +kernel
theorem dX10_layLocksAnew_120 : decode cX10_layLocksAnew 120 = .ok (.iconst 0, 1) := by decide +kernel
theorem dX10_layLocksAnew_121 : decode cX10_layLocksAnew 121 = .ok (.istore_n 1, 1) := by decide +kernel
theorem dX10_layLocksAnew_122 : decode cX10_layLocksAnew 122 = .ok (.iload_n 1, 1) := by decide +kernel
theorem dX10_layLocksAnew_123 : decode cX10_layLocksAnew 123 = .ok (.sipush 136, 3) := by decide +kernel
theorem dX10_layLocksAnew_126 : decode cX10_layLocksAnew 126 = .ok (.if_icmp .ge 14, 3) := by decide +kernel
theorem dX10_layLocksAnew_129 : decode cX10_layLocksAnew 129 = .ok (.aload_n 0, 1) := by decide +kernel
theorem dX10_layLocksAnew_130 : decode cX10_layLocksAnew 130 = .ok (.iload_n 1, 1) := by decide +kernel
theorem dX10_layLocksAnew_131 : decode cX10_layLocksAnew 131 = .ok (.invokevirtual 422, 3) := by decide +kernel
theorem dX10_layLocksAnew_134 : decode cX10_layLocksAnew 134 = .ok (.iinc 1 1, 3) := by decide +kernel
theorem dX10_layLocksAnew_137 : decode cX10_layLocksAnew 137 = .ok (.goto (-15), 3) := by decide +kernel
theorem dX10_layLocksAnew_140 : decode cX10_layLocksAnew 140 = .ok (.return_, 1) := by decide +kernel
theorem dX11_init_0 : decode cX11_init 0 = .ok (.aload_n 0, 1) := by decide +kernel
theorem dX11_init_1 : decode cX11_init 1 = .ok (.invokespecial 1, 3) := by decide +kernel
theorem dX11_init_4 : decode cX11_init 4 = .ok (.aload_n 0, 1) := by decide +kernel
theorem dX11_init_5 : decode cX11_init 5 = .ok (.sipush 10240, 3) := by decide +kernel
theorem dX11_init_8 : decode cX11_init 8 = .ok (.newarray .int, 2) := by decide +kernel
theorem dX11_init_10 : decode cX11_init 10 = .ok (.putfield 7, 3) := by decide +kernel
theorem dX11_init_13 : decode cX11_init 13 = .ok (.aload_n 0, 1) := by decide +kernel
theorem dX11_init_14 : decode cX11_init 14 = .ok (.iconst 4, 1) := by decide +kernel
theorem dX11_init_15 : decode cX11_init 15 = .ok (.newarray .boolean, 2) := by decide +kernel
theorem dX11_init_17 : decode cX11_init 17 = .ok (.putfield 13, 3) := by decide +kernel
theorem dX11_init_20 : decode cX11_init 20 = .ok (.aload_n 0, 1) := by decide +kernel
theorem dX11_init_21 : decode cX11_init 21 = .ok (.iconst 4, 1) := by decide +kernel
theorem dX11_init_22 : decode cX11_init 22 = .ok (.newarray .boolean, 2) := by decide +kernel
theorem dX11_init_24 : decode cX11_init 24 = .ok (.putfield 17, 3) := by decide +kernel
theorem dX11_init_27 : decode cX11_init 27 = .ok (.aload_n 0, 1) := by decide +kernel
theorem dX11_init_28 : decode cX11_init 28 = .ok (.ldc 20, 2) := by decide +kernel
theorem dX11_init_30 : decode cX11_init 30 = .ok (.newarray .int, 2) := by decide +kernel
theorem dX11_init_32 : decode cX11_init 32 = .ok (.putfield 21, 3) := by decide +kernel
theorem dX11_init_35 : decode cX11_init 35 = .ok (.aload_n 0, 1) := by decide +kernel
theorem dX11_init_36 : decode cX11_init 36 = .ok (.sipush 2560, 3) := by decide +kernel
theorem dX11_init_39 : decode cX11_init 39 = .ok (.newarray .boolean, 2) := by decide +kernel
theorem dX11_init_41 : decode cX11_init 41 = .ok (.putfield 24, 3) := by decide +kernel
theorem dX11_init_44 : decode cX11_init 44 = .ok (.aload_n 0, 1) := by decide +kernel
theorem dX11_init_45 : decode cX11_init 45 = .ok (.sipush 2560, 3) := by decide +kernel
theorem dX11_init_48 : decode cX11_init 48 = .ok (.newarray .boolean, 2) := by decide +kernel
theorem dX11_init_50 : decode cX11_init 50 = .ok (.putfield 27, 3) := by decide +kernel
theorem dX11_init_53 : decode cX11_init 53 = .ok (.aload_n 0, 1) := by decide +kernel
theorem dX11_init_54 : decode cX11_init 54 = .ok (.iconst 4, 1) := by decide +kernel
theorem dX11_init_55 : decode cX11_init 55 = .ok (.newarray .int, 2) := by decide +kernel
theorem dX11_init_57 : decode cX11_init 57 = .ok (.putfield 30, 3) := by decide +kernel
theorem dX11_init_60 : decode cX11_init 60 = .ok (.aload_n 0, 1) := by decide +kernel
theorem dX11_init_61 : decode cX11_init 61 = .ok (.iconst 4, 1) := by decide +kernel
theorem dX11_init_62 : decode cX11_init 62 = .ok (.newarray .int, 2) := by decide +kernel
theorem dX11_init_64 : decode cX11_init 64 = .ok (.putfield 33, 3) := by decide +kernel
theorem dX11_init_67 : decode cX11_init 67 = .ok (.aload_n 0, 1) := by decide +kernel
theorem dX11_init_68 : decode cX11_init 68 = .ok (.iconst 4, 1) := by decide +kernel
theorem dX11_init_69 : decode cX11_init 69 = .ok (.newarray .int, 2) := by decide +kernel
theorem dX11_init_71 : decode cX11_init 71 = .ok (.putfield 36, 3) := by decide +kernel
theorem dX11_init_74 : decode cX11_init 74 = .ok (.aload_n 0, 1) := by decide +kernel
theorem dX11_init_75 : decode cX11_init 75 = .ok (.iconst 4, 1) := by decide +kernel
theorem dX11_init_76 : decode cX11_init 76 = .ok (.newarray .int, 2) := by decide +kernel
theorem dX11_init_78 : decode cX11_init 78 = .ok (.putfield 39, 3) := by decide +kernel
theorem dX11_init_81 : decode cX11_init 81 = .ok (.aload_n 0, 1) := by decide +kernel
theorem dX11_init_82 : decode cX11_init 82 = .ok (.sipush 144, 3) := by decide +kernel
theorem dX11_init_85 : decode cX11_init 85 = .ok (.newarray .int, 2) := by decide +kernel
theorem dX11_init_87 : decode cX11_init 87 = .ok (.putfield 42, 3) := by decide +kernel
theorem dX11_init_90 : decode cX11_init 90 = .ok (.aload_n 0, 1) := by decide +kernel
theorem dX11_init_91 : decode cX11_init 91 = .ok (.sipush 2304, 3) := by decide +kernel
theorem dX11_init_94 : decode cX11_init 94 = .ok (.newarray .int, 2) := by decide +kernel
theorem dX11_init_96 : decode cX11_init 96 = .ok (.putfield 45, 3) := by decide +kernel
theorem dX11_init_99 : decode cX11_init 99 = .ok (.aload_n 0, 1) := by decide +kernel
theorem dX11_init_100 : decode cX11_init 100 = .ok (.sipush 544, 3) := by decide +kernel
theorem dX11_init_103 : decode cX11_init 103 = .ok (.newarray .int, 2) := by decide +kernel
theorem dX11_init_105 : decode cX11_init 105 = .ok (.putfield 48, 3) := by decide +kernel
theorem dX11_init_108 : decode cX11_init 108 = .ok (.aload_n 0, 1) := by decide +kernel
theorem dX11_init_109 : decode cX11_init 109 = .ok (.sipush 544, 3) := by decide +kernel
theorem dX11_init_112 : decode cX11_init 112 = .ok (.newarray .int, 2) := by decide +kernel
theorem dX11_init_114 : decode cX11_init 114 = .ok (.putfield 51, 3) := by decide +kernel
theorem dX11_init_117 : decode cX11_init 117 = .ok (.aload_n 0, 1) := by decide +kernel
theorem dX11_init_118 : decode cX11_init 118 = .ok (.sipush 544, 3) := by decide +kernel
theorem dX11_init_121 : decode cX11_init 121 = .ok (.newarray .int, 2) := by decide +kernel
theorem dX11_init_123 : decode cX11_init 123 = .ok (.putfield 54, 3) := by decide +kernel
theorem dX11_init_126 : decode cX11_init 126 = .ok (.aload_n 0, 1) := by decide +kernel
theorem dX11_init_127 : decode cX11_init 127 = .ok (.sipush 544, 3) := by decide +kernel
theorem dX11_init_130 : decode cX11_init 130 = .ok (.newarray .boolean, 2) := by decide +kernel
theorem dX11_init_132 : decode cX11_init 132 = .ok (.putfield 57, 3) := by decide +kernel
theorem dX11_init_135 : decode cX11_init 135 = .ok (.aload_n 0, 1) := by decide +kernel
theorem dX11_init_136 : decode cX11_init 136 = .ok (.sipush 544, 3) := by decide +kernel
theorem dX11_init_139 : decode cX11_init 139 = .ok (.newarray .boolean, 2) := by decide +kernel
theorem dX11_init_141 : decode cX11_init 141 = .ok (.putfield 60, 3) := by decide +kernel
theorem dX11_init_144 : decode cX11_init 144 = .ok (.aload_n 0, 1) := by decide +kernel
theorem dX11_init_145 : decode cX11_init 145 = .ok (.sipush 544, 3) := by decide +kernel
theorem dX11_init_148 : decode cX11_init 148 = .ok (.newarray .int, 2) := by decide +kernel
theorem dX11_init_150 : decode cX11_init 150 = .ok (.putfield 63, 3) := by decide +kernel
theorem dX11_init_153 : decode cX11_init 153 = .ok (.aload_n 0, 1) := by decide +kernel
theorem dX11_init_154 : decode cX11_init 154 = .ok (.iconst 4, 1) := by decide +kernel
theorem dX11_init_155 : decode cX11_init 155 = .ok (.newarray .int, 2) := by decide +kernel
theorem dX11_init_157 : decode cX11_init 157 = .ok (.putfield 66, 3) := by decide +kernel
theorem dX11_init_160 : decode cX11_init 160 = .ok (.aload_n 0, 1) := by decide +kernel
theorem dX11_init_161 : decode cX11_init 161 = .ok (.iconst 4, 1) := by decide +kernel
theorem dX11_init_162 : decode cX11_init 162 = .ok (.newarray .int, 2) := by decide +kernel
theorem dX11_init_164 : decode cX11_init 164 = .ok (.putfield 69, 3) := by decide +kernel
theorem dX11_init_167 : decode cX11_init 167 = .ok (.aload_n 0, 1) := by decide +kernel
theorem dX11_init_168 : decode cX11_init 168 = .ok (.iconst 4, 1) := by decide +kernel
theorem dX11_init_169 : decode cX11_init 169 = .ok (.newarray .int, 2) := by decide +kernel
theorem dX11_init_171 : decode cX11_init 171 = .ok (.putfield 72, 3) := by decide +kernel
theorem dX11_init_174 : decode cX11_init 174 = .ok (.aload_n 0, 1) := by decide +kernel
theorem dX11_init_175 : decode cX11_init 175 = .ok (.iconst 4, 1) := by decide +kernel
theorem dX11_init_176 : decode cX11_init 176 = .ok (.newarray .int, 2) := by decide +kernel
theorem dX11_init_178 : decode cX11_init 178 = .ok (.putfield 75, 3) := by decide +kernel
theorem dX11_init_181 : decode cX11_init 181 = .ok (.aload_n 0, 1) := by decide +kernel
theorem dX11_init_182 : decode cX11_init 182 = .ok (.iconst 4, 1) := by decide +kernel
theorem dX11_init_183 : decode cX11_init 183 = .ok (.newarray .int, 2) := by decide +kernel
theorem dX11_init_185 : decode cX11_init 185 = .ok (.putfield 78, 3) := by decide +kernel
theorem dX11_init_188 : decode cX11_init 188 = .ok (.aload_n 0, 1) := by decide +kernel
theorem dX11_init_189 : decode cX11_init 189 = .ok (.iconst 4, 1) := by decide +kernel
theorem dX11_init_190 : decode cX11_init 190 = .ok (.newarray .int, 2) := by decide +kernel
theorem dX11_init_192 : decode cX11_init 192 = .ok (.putfield 81, 3) := by decide +kernel
theorem dX11_init_195 : decode cX11_init 195 = .ok (.aload_n 0, 1) := by decide +kernel
theorem dX11_init_196 : decode cX11_init 196 = .ok (.iconst 4, 1) := by decide +kernel
theorem dX11_init_197 : decode cX11_init 197 = .ok (.newarray .int, 2) := by decide +kernel
theorem dX11_init_199 : decode cX11_init 199 = .ok (.putfield 84, 3) := by decide +kernel
theorem dX11_init_202 : decode cX11_init 202 = .ok (.aload_n 0, 1) := by decide +kernel
theorem dX11_init_203 : decode cX11_init 203 = .ok (.iconst 4, 1) := by decide +kernel
theorem dX11_init_204 : decode cX11_init 204 = .ok (.newarray .int, 2) := by decide +kernel
theorem dX11_init_206 : decode cX11_init 206 = .ok (.putfield 87, 3) := by decide +kernel
theorem dX11_init_209 : decode cX11_init 209 = .ok (.aload_n 0, 1) := by decide +kernel
theorem dX11_init_210 : decode cX11_init 210 = .ok (.iconst 4, 1) := by decide +kernel
theorem dX11_init_211 : decode cX11_init 211 = .ok (.newarray .int, 2) := by decide +kernel
theorem dX11_init_213 : decode cX11_init 213 = .ok (.putfield 90, 3) := by decide +kernel
theorem dX11_init_216 : decode cX11_init 216 = .ok (.aload_n 0, 1) := by decide +kernel
theorem dX11_init_217 : decode cX11_init 217 = .ok (.iconst 4, 1) := by decide +kernel
theorem dX11_init_218 : decode cX11_init 218 = .ok (.newarray .int, 2) := by decide +kernel
theorem dX11_init_220 : decode cX11_init 220 = .ok (.putfield 93, 3) := by decide +kernel
theorem dX11_init_223 : decode cX11_init 223 = .ok (.aload_n 0, 1) := by decide +kernel
theorem dX11_init_224 : decode cX11_init 224 = .ok (.iconst 4, 1) := by decide +kernel
theorem dX11_init_225 : decode cX11_init 225 = .ok (.newarray .int, 2) := by decide +kernel
theorem dX11_init_227 : decode cX11_init 227 = .ok (.putfield 96, 3) := by decide +kernel
theorem dX11_init_230 : decode cX11_init 230 = .ok (.aload_n 0, 1) := by decide +kernel
theorem dX11_init_231 : decode cX11_init 231 = .ok (.iconst 4, 1) := by decide +kernel
theorem dX11_init_232 : decode cX11_init 232 = .ok (.newarray .boolean, 2) := by decide +kernel
theorem dX11_init_234 : decode cX11_init 234 = .ok (.putfield 99, 3) := by decide +kernel
theorem dX11_init_237 : decode cX11_init 237 = .ok (.aload_n 0, 1) := by decide +kernel
theorem dX11_init_238 : decode cX11_init 238 = .ok (.sipush 544, 3) := by decide +kernel
theorem dX11_init_241 : decode cX11_init 241 = .ok (.newarray .int, 2) := by decide +kernel
theorem dX11_init_243 : decode cX11_init 243 = .ok (.putfield 102, 3) := by decide +kernel
theorem dX11_init_246 : decode cX11_init 246 = .ok (.aload_n 0, 1) := by decide +kernel
theorem dX11_init_247 : decode cX11_init 247 = .ok (.sipush 544, 3) := by decide +kernel
theorem dX11_init_250 : decode cX11_init 250 = .ok (.newarray .int, 2) := by decide +kernel
theorem dX11_init_252 : decode cX11_init 252 = .ok (.putfield 105, 3) := by decide +kernel
theorem dX11_init_255 : decode cX11_init 255 = .ok (.aload_n 0, 1) := by decide +kernel
theorem dX11_init_256 : decode cX11_init 256 = .ok (.sipush 136, 3) := by decide +kernel
theorem dX11_init_259 : decode cX11_init 259 = .ok (.newarray .int, 2) := by decide +kernel
theorem dX11_init_261 : decode cX11_init 261 = .ok (.putfield 108, 3) := by decide +kernel
theorem dX11_init_264 : decode cX11_init 264 = .ok (.aload_n 0, 1) := by decide +kernel
theorem dX11_init_265 : decode cX11_init 265 = .ok (.sipush 2176, 3) := by decide +kernel
theorem dX11_init_268 : decode cX11_init 268 = .ok (.newarray .int, 2) := by decide +kernel
theorem dX11_init_270 : decode cX11_init 270 = .ok (.putfield 111, 3) := by decide +kernel
theorem dX11_init_273 : decode cX11_init 273 = .ok (.aload_n 0, 1) := by decide +kernel
theorem dX11_init_274 : decode cX11_init 274 = .ok (.sipush 2176, 3) := by decide +kernel
theorem dX11_init_277 : decode cX11_init 277 = .ok (.newarray .int, 2) := by decide +kernel
theorem dX11_init_279 : decode cX11_init 279 = .ok (.putfield 114, 3) := by decide +kernel
theorem dX11_init_282 : decode cX11_init 282 = .ok (.aload_n 0, 1) := by decide +kernel
theorem dX11_init_283 : decode cX11_init 283 = .ok (.sipush 4096, 3) := by decide +kernel
theorem dX11_init_286 : decode cX11_init 286 = .ok (.newarray .int, 2) := by decide +kernel
theorem dX11_init_288 : decode cX11_init 288 = .ok (.putfield 117, 3) := by decide +kernel
theorem dX11_init_291 : decode cX11_init 291 = .ok (.aload_n 0, 1) := by decide +kernel
theorem dX11_init_292 : decode cX11_init 292 = .ok (.sipush 4096, 3) := by decide +kernel
theorem dX11_init_295 : decode cX11_init 295 = .ok (.newarray .int, 2) := by decide +kernel
theorem dX11_init_297 : decode cX11_init 297 = .ok (.putfield 120, 3) := by decide +kernel
theorem dX11_init_300 : decode cX11_init 300 = .ok (.aload_n 0, 1) := by decide +kernel
theorem dX11_init_301 : decode cX11_init 301 = .ok (.sipush 4096, 3) := by decide +kernel
theorem dX11_init_304 : decode cX11_init 304 = .ok (.newarray .int, 2) := by decide +kernel
theorem dX11_init_306 : decode cX11_init 306 = .ok (.putfield 123, 3) := by decide +kernel
theorem dX11_init_309 : decode cX11_init 309 = .ok (.aload_n 0, 1) := by decide +kernel
theorem dX11_init_310 : decode cX11_init 310 = .ok (.sipush 4096, 3) := by decide +kernel
theorem dX11_init_313 : decode cX11_init 313 = .ok (.newarray .int, 2) := by decide +kernel
theorem dX11_init_315 : decode cX11_init 315 = .ok (.putfield 126, 3) := by decide +kernel
theorem dX11_init_318 : decode cX11_init 318 = .ok (.aload_n 0, 1) := by decide +kernel
theorem dX11_init_319 : decode cX11_init 319 = .ok (.sipush 4096, 3) := by decide +kernel
theorem dX11_init_322 : decode cX11_init 322 = .ok (.newarray .int, 2) := by decide +kernel
theorem dX11_init_324 : decode cX11_init 324 = .ok (.putfield 129, 3) := by decide +kernel
theorem dX11_init_327 : decode cX11_init 327 = .ok (.aload_n 0, 1) := by decide +kernel
theorem dX11_init_328 : decode cX11_init 328 = .ok (.sipush 4096, 3) := by decide +kernel
theorem dX11_init_331 : decode cX11_init 331 = .ok (.newarray .int, 2) := by decide +kernel
theorem dX11_init_333 : decode cX11_init 333 = .ok (.putfield 132, 3) := by decide +kernel
theorem dX11_init_336 : decode cX11_init 336 = .ok (.aload_n 0, 1) := by decide +kernel
theorem dX11_init_337 : decode cX11_init 337 = .ok (.bipush 16, 2) := by decide +kernel
theorem dX11_init_339 : decode cX11_init 339 = .ok (.newarray .int, 2) := by decide +kernel
theorem dX11_init_341 : decode cX11_init 341 = .ok (.putfield 135, 3) := by decide +kernel
theorem dX11_init_344 : decode cX11_init 344 = .ok (.aload_n 0, 1) := by decide +kernel
theorem dX11_init_345 : decode cX11_init 345 = .ok (.bipush 16, 2) := by decide +kernel
theorem dX11_init_347 : decode cX11_init 347 = .ok (.newarray .int, 2) := by decide +kernel
theorem dX11_init_349 : decode cX11_init 349 = .ok (.putfield 138, 3) := by decide +kernel
theorem dX11_init_352 : decode cX11_init 352 = .ok (.aload_n 0, 1) := by decide +kernel
theorem dX11_init_353 : decode cX11_init 353 = .ok (.sipush 640, 3) := by decide +kernel
theorem dX11_init_356 : decode cX11_init 356 = .ok (.newarray .int, 2) := by decide +kernel
theorem dX11_init_358 : decode cX11_init 358 = .ok (.putfield 141, 3) := by decide +kernel
theorem dX11_init_361 : decode cX11_init 361 = .ok (.aload_n 0, 1) := by decide +kernel
theorem dX11_init_362 : decode cX11_init 362 = .ok (.sipush 640, 3) := by decide +kernel
theorem dX11_init_365 : decode cX11_init 365 = .ok (.newarray .boolean, 2) := by decide +kernel
theorem dX11_init_367 : decode cX11_init 367 = .ok (.putfield 144, 3) := by decide +kernel
theorem dX11_init_370 : decode cX11_init 370 = .ok (.aload_n 0, 1) := by decide +kernel
theorem dX11_init_371 : decode cX11_init 371 = .ok (.sipush 640, 3) := by decide +kernel
theorem dX11_init_374 : decode cX11_init 374 = .ok (.newarray .boolean, 2) := by decide +kernel
theorem dX11_init_376 : decode cX11_init 376 = .ok (.putfield 147, 3) := by decide +kernel
theorem dX11_init_379 : decode cX11_init 379 = .ok (.aload_n 0, 1) := by decide +kernel
theorem dX11_init_380 : decode cX11_init 380 = .ok (.sipush 10240, 3) := by decide +kernel
theorem dX11_init_383 : decode cX11_init 383 = .ok (.newarray .int, 2) := by decide +kernel
theorem dX11_init_385 : decode cX11_init 385 = .ok (.putfield 150, 3) := by decide +kernel
theorem dX11_init_388 : decode cX11_init 388 = .ok (.aload_n 0, 1) := by decide +kernel
theorem dX11_init_389 : decode cX11_init 389 = .ok (.bipush 64, 2) := by decide +kernel
theorem dX11_init_391 : decode cX11_init 391 = .ok (.newarray .int, 2) := by decide +kernel
theorem dX11_init_393 : decode cX11_init 393 = .ok (.putfield 153, 3) := by decide +kernel
theorem dX11_init_396 : decode cX11_init 396 = .ok (.aload_n 0, 1) := by decide +kernel
theorem dX11_init_397 : decode cX11_init 397 = .ok (.sipush 4000, 3) := by decide +kernel
theorem dX11_init_400 : decode cX11_init 400 = .ok (.newarray .int, 2) := by decide +kernel
theorem dX11_init_402 : decode cX11_init 402 = .ok (.putfield 156, 3) := by decide +kernel
theorem dX11_init_405 : decode cX11_init 405 = .ok (.aload_n 0, 1) := by decide +kernel
theorem dX11_init_406 : decode cX11_init 406 = .ok (.sipush 400, 3) := by decide +kernel
theorem dX11_init_409 : decode cX11_init 409 = .ok (.newarray .boolean, 2) := by decide +kernel
theorem dX11_init_411 : decode cX11_init 411 = .ok (.putfield 159, 3) := by decide +kernel
theorem dX11_init_414 : decode cX11_init 414 = .ok (.aload_n 0, 1) := by decide +kernel
theorem dX11_init_415 : decode cX11_init 415 = .ok (.sipush 10240, 3) := by decide +kernel
theorem dX11_init_418 : decode cX11_init 418 = .ok (.newarray .int, 2) := by decide +kernel
theorem dX11_init_420 : decode cX11_init 420 = .ok (.putfield 162, 3) := by decide +kernel
theorem dX11_init_423 : decode cX11_init 423 = .ok (.aload_n 0, 1) := by decide +kernel
theorem dX11_init_424 : decode cX11_init 424 = .ok (.sipush 128, 3) := by decide +kernel
theorem dX11_init_427 : decode cX11_init 427 = .ok (.newarray .boolean, 2) := by decide +kernel
theorem dX11_init_429 : decode cX11_init 429 = .ok (.putfield 165, 3) := by decide +kernel
theorem dX11_init_432 : decode cX11_init 432 = .ok (.aload_n 0, 1) := by decide +kernel
theorem dX11_init_433 : decode cX11_init 433 = .ok (.sipush 128, 3) := by decide +kernel
theorem dX11_init_436 : decode cX11_init 436 = .ok (.newarray .int, 2) := by decide +kernel
theorem dX11_init_438 : decode cX11_init 438 = .ok (.putfield 168, 3) := by decide +kernel
theorem dX11_init_441 : decode cX11_init 441 = .ok (.aload_n 0, 1) := by decide +kernel
theorem dX11_init_442 : decode cX11_init 442 = .ok (.sipush 128, 3) := by decide +kernel
theorem dX11_init_445 : decode cX11_init 445 = .ok (.newarray .int, 2) := by decide +kernel
theorem dX11_init_447 : decode cX11_init 447 = .ok (.putfield 171, 3) := by decide +kernel
theorem dX11_init_450 : decode cX11_init 450 = .ok (.aload_n 0, 1) := by decide +kernel
theorem dX11_init_451 : decode cX11_init 451 = .ok (.sipush 640, 3) := by decide +kernel
theorem dX11_init_454 : decode cX11_init 454 = .ok (.newarray .int, 2) := by decide +kernel
theorem dX11_init_456 : decode cX11_init 456 = .ok (.putfield 174, 3) := by decide +kernel
theorem dX11_init_459 : decode cX11_init 459 = .ok (.aload_n 0, 1) := by decide +kernel
theorem dX11_init_460 : decode cX11_init 460 = .ok (.iload_n 1, 1) := by decide +kernel
theorem dX11_init_461 : decode cX11_init 461 = .ok (.iconst 2, 1) := by decide +kernel
theorem dX11_init_462 : decode cX11_init 462 = .ok (.if_icmp .ge 7, 3) := by decide +kernel
theorem dX11_init_465 : decode cX11_init 465 = .ok (.iconst 2, 1) := by decide +kernel
theorem dX11_init_466 : decode cX11_init 466 = .ok (.goto 13, 3) := by decide +kernel
theorem dX11_init_469 : decode cX11_init 469 = .ok (.iload_n 1, 1) := by decide +kernel
theorem dX11_init_470 : decode cX11_init 470 = .ok (.iconst 4, 1) := by decide +kernel
theorem dX11_init_471 : decode cX11_init 471 = .ok (.if_icmp .le 7, 3) := by decide +kernel
theorem dX11_init_474 : decode cX11_init 474 = .ok (.iconst 4, 1) := by decide +kernel
theorem dX11_init_475 : decode cX11_init 475 = .ok (.goto 4, 3) := by decide +kernel
theorem dX11_init_478 : decode cX11_init 478 = .ok (.iload_n 1, 1) := by decide +kernel
theorem dX11_init_479 : decode cX11_init 479 = .ok (.putfield 177, 3) := by decide +kernel
theorem dX11_init_482 : decode cX11_init 482 = .ok (.aload_n 0, 1) := by decide +kernel
theorem dX11_init_483 : decode cX11_init 483 = .ok (.getfield 7, 3) := by decide +kernel
theorem dX11_init_486 : decode cX11_init 486 = .ok (.iconst 0, 1) := by decide +kernel
theorem dX11_init_487 : decode cX11_init 487 = .ok (.sipush 7177, 3) := by decide +kernel
theorem dX11_init_490 : decode cX11_init 490 = .ok (.iastore, 1) := by decide +kernel
theorem dX11_init_491 : decode cX11_init 491 = .ok (.aload_n 0, 1) := by decide +kernel
theorem dX11_init_492 : decode cX11_init 492 = .ok (.getfield 7, 3) := by decide +kernel
theorem dX11_init_495 : decode cX11_init 495 = .ok (.iconst 1, 1) := by decide +kernel
theorem dX11_init_496 : decode cX11_init 496 = .ok (.aload_n 0, 1) := by decide +kernel
theorem dX11_init_497 : decode cX11_init 497 = .ok (.getfield 177, 3) := by decide +kernel
theorem dX11_init_500 : decode cX11_init 500 = .ok (.iastore, 1) := by decide +kernel
theorem dX11_init_501 : decode cX11_init 501 = .ok (.aload_n 0, 1) := by decide +kernel
theorem dX11_init_502 : decode cX11_init 502 = .ok (.getfield 7, 3) := by decide +kernel
theorem dX11_init_505 : decode cX11_init 505 = .ok (.bipush 16, 2) := by decide +kernel
theorem dX11_init_507 : decode cX11_init 507 = .ok (.iconst 0, 1) := by decide +kernel
theorem dX11_init_508 : decode cX11_init 508 = .ok (.invokestatic 181, 3) := by decide +kernel
theorem dX11_init_511 : decode cX11_init 511 = .ok (.imul, 1) := by decide +kernel
theorem dX11_init_512 : decode cX11_init 512 = .ok (.iconst 1, 1) := by decide +kernel
theorem dX11_init_513 : decode cX11_init 513 = .ok (.iastore, 1) := by decide +kernel
theorem dX11_init_514 : decode cX11_init 514 = .ok (.aload_n 0, 1) := by decide +kernel
theorem dX11_init_515 : decode cX11_init 515 = .ok (.getfield 7, 3) := by decide +kernel
theorem dX11_init_518 : decode cX11_init 518 = .ok (.bipush 16, 2) := by decide +kernel
theorem dX11_init_520 : decode cX11_init 520 = .ok (.iconst 0, 1) := by decide +kernel
theorem dX11_init_521 : decode cX11_init 521 = .ok (.invokestatic 185, 3) := by decide +kernel
theorem dX11_init_524 : decode cX11_init 524 = .ok (.imul, 1) := by decide +kernel
theorem dX11_init_525 : decode cX11_init 525 = .ok (.iconst 0, 1) := by decide +kernel
theorem dX11_init_526 : decode cX11_init 526 = .ok (.iadd, 1) := by decide +kernel
theorem dX11_init_527 : decode cX11_init 527 = .ok (.iconst 2, 1) := by decide +kernel
theorem dX11_init_528 : decode cX11_init 528 = .ok (.iastore, 1) := by decide +kernel
theorem dX11_init_529 : decode cX11_init 529 = .ok (.aload_n 0, 1) := by decide +kernel
theorem dX11_init_530 : decode cX11_init 530 = .ok (.getfield 7, 3) := by decide +kernel
theorem dX11_init_533 : decode cX11_init 533 = .ok (.bipush 16, 2) := by decide +kernel
theorem dX11_init_535 : decode cX11_init 535 = .ok (.iconst 0, 1) := by decide +kernel
theorem dX11_init_536 : decode cX11_init 536 = .ok (.invokestatic 185, 3) := by decide +kernel
theorem dX11_init_539 : decode cX11_init 539 = .ok (.imul, 1) := by decide +kernel
theorem dX11_init_540 : decode cX11_init 540 = .ok (.iconst 1, 1) := by decide +kernel
theorem dX11_init_541 : decode cX11_init 541 = .ok (.iadd, 1) := by decide +kernel
theorem dX11_init_542 : decode cX11_init 542 = .ok (.iconst 1, 1) := by decide +kernel
theorem dX11_init_543 : decode cX11_init 543 = .ok (.iastore, 1) := by decide +kernel
theorem dX11_init_544 : decode cX11_init 544 = .ok (.iconst 0, 1) := by decide +kernel
theorem dX11_init_545 : decode cX11_init 545 = .ok (.istore_n 2, 1) := by decide +kernel
theorem dX11_init_546 : decode cX11_init 546 = .ok (.iload_n 2, 1) := by decide +kernel
theorem dX11_init_547 : decode cX11_init 547 = .ok (.iconst 4, 1) := by decide +kernel
theorem dX11_init_548 : decode cX11_init 548 = .ok (.if_icmp .ge 47, 3) := by decide +kernel
theorem dX11_init_551 : decode cX11_init 551 = .ok (.aload_n 0, 1) := by decide +kernel
theorem dX11_init_552 : decode cX11_init 552 = .ok (.getfield 13, 3) := by decide +kernel
theorem dX11_init_555 : decode cX11_init 555 = .ok (.iload_n 2, 1) := by decide +kernel
theorem dX11_init_556 : decode cX11_init 556 = .ok (.iload_n 2, 1) := by decide +kernel
theorem dX11_init_557 : decode cX11_init 557 = .ok (.aload_n 0, 1) := by decide +kernel
theorem dX11_init_558 : decode cX11_init 558 = .ok (.getfield 177, 3) := by decide +kernel
theorem dX11_init_561 : decode cX11_init 561 = .ok (.if_icmp .ge 7, 3) := by decide +kernel
theorem dX11_init_564 : decode cX11_init 564 = .ok (.iconst 1, 1) := by decide +kernel
theorem dX11_init_565 : decode cX11_init 565 = .ok (.goto 4, 3) := by decide +kernel
theorem dX11_init_568 : decode cX11_init 568 = .ok (.iconst 0, 1) := by decide +kernel
theorem dX11_init_569 : decode cX11_init 569 = .ok (.bastore, 1) := by decide +kernel
theorem dX11_init_570 : decode cX11_init 570 = .ok (.aload_n 0, 1) := by decide +kernel
theorem dX11_init_571 : decode cX11_init 571 = .ok (.getfield 17, 3) := by decide +kernel
theorem dX11_init_574 : decode cX11_init 574 = .ok (.iload_n 2, 1) := by decide +kernel
theorem dX11_init_575 : decode cX11_init 575 = .ok (.iload_n 2, 1) := by decide +kernel
theorem dX11_init_576 : decode cX11_init 576 = .ok (.aload_n 0, 1) := by decide +kernel
theorem dX11_init_577 : decode cX11_init 577 = .ok (.getfield 177, 3) := by decide +kernel
theorem dX11_init_580 : decode cX11_init 580 = .ok (.if_icmp .ge 7, 3) := by decide +kernel
theorem dX11_init_583 : decode cX11_init 583 = .ok (.iconst 1, 1) := by decide +kernel
theorem dX11_init_584 : decode cX11_init 584 = .ok (.goto 4, 3) := by decide +kernel
theorem dX11_init_587 : decode cX11_init 587 = .ok (.iconst 0, 1) := by decide +kernel
theorem dX11_init_588 : decode cX11_init 588 = .ok (.bastore, 1) := by decide +kernel
theorem dX11_init_589 : decode cX11_init 589 = .ok (.iinc 2 1, 3) := by decide +kernel
theorem dX11_init_592 : decode cX11_init 592 = .ok (.goto (-46), 3) := by decide +kernel
theorem dX11_init_595 : decode cX11_init 595 = .ok (.iconst 0, 1) := by decide +kernel
theorem dX11_init_596 : decode cX11_init 596 = .ok (.istore_n 2, 1) := by decide +kernel
theorem dX11_init_597 : decode cX11_init 597 = .ok (.iload_n 2, 1) := by decide +kernel
theorem dX11_init_598 : decode cX11_init 598 = .ok (.bipush 16, 2) := by decide +kernel
theorem dX11_init_600 : decode cX11_init 600 = .ok (.if_icmp .ge 16, 3) := by decide +kernel
theorem dX11_init_603 : decode cX11_init 603 = .ok (.aload_n 0, 1) := by decide +kernel
theorem dX11_init_604 : decode cX11_init 604 = .ok (.getfield 135, 3) := by decide +kernel
theorem dX11_init_607 : decode cX11_init 607 = .ok (.iload_n 2, 1) := by decide +kernel
theorem dX11_init_608 : decode cX11_init 608 = .ok (.iconst 1, 1) := by decide +kernel
theorem dX11_init_609 : decode cX11_init 609 = .ok (.iastore, 1) := by decide +kernel
theorem dX11_init_610 : decode cX11_init 610 = .ok (.iinc 2 1, 3) := by decide +kernel
theorem dX11_init_613 : decode cX11_init 613 = .ok (.goto (-16), 3) := by decide +kernel
theorem dX11_init_616 : decode cX11_init 616 = .ok (.iconst 0, 1) := by decide +kernel
theorem dX11_init_617 : decode cX11_init 617 = .ok (.istore_n 2, 1) := by decide +kernel
theorem dX11_init_618 : decode cX11_init 618 = .ok (.iload_n 2, 1) := by decide +kernel
theorem dX11_init_619 : decode cX11_init 619 = .ok (.sipush 544, 3) := by decide +kernel
theorem dX11_init_622 : decode cX11_init 622 = .ok (.if_icmp .ge 23, 3) := by decide +kernel
theorem dX11_init_625 : decode cX11_init 625 = .ok (.aload_n 0, 1) := by decide +kernel
theorem dX11_init_626 : decode cX11_init 626 = .ok (.getfield 54, 3) := by decide +kernel
theorem dX11_init_629 : decode cX11_init 629 = .ok (.iload_n 2, 1) := by decide +kernel
theorem dX11_init_630 : decode cX11_init 630 = .ok (.iconst (-1), 1) := by decide +kernel
theorem dX11_init_631 : decode cX11_init 631 = .ok (.iastore, 1) := by decide +kernel
theorem dX11_init_632 : decode cX11_init 632 = .ok (.aload_n 0, 1) := by decide +kernel
theorem dX11_init_633 : decode cX11_init 633 = .ok (.getfield 105, 3) := by decide +kernel
theorem dX11_init_636 : decode cX11_init 636 = .ok (.iload_n 2, 1) := by decide +kernel
theorem dX11_init_637 : decode cX11_init 637 = .ok (.iconst (-1), 1) := by decide +kernel
theorem dX11_init_638 : decode cX11_init 638 = .ok (.iastore, 1) := by decide +kernel
theorem dX11_init_639 : decode cX11_init 639 = .ok (.iinc 2 1, 3) := by decide +kernel
theorem dX11_init_642 : decode cX11_init 642 = .ok (.goto (-24), 3) := by decide +kernel
theorem dX11_init_645 : decode cX11_init 645 = .ok (.return_, 1) := by decide +kernel
theorem dX11_thrown_0 : decode cX11_thrown 0 = .ok (.aload_n 0, 1) := by decide +kernel
theorem dX11_thrown_1 : decode cX11_thrown 1 = .ok (.getfield 188, 3) := by decide +kernel
theorem dX11_thrown_4 : decode cX11_thrown 4 = .ok (.ireturn, 1) := by decide +kernel
theorem dX11_refuse_0 : decode cX11_refuse 0 = .ok (.aload_n 0, 1) := by decide +kernel
theorem dX11_refuse_1 : decode cX11_refuse 1 = .ok (.iload_n 1, 1) := by decide +kernel
theorem dX11_refuse_2 : decode cX11_refuse 2 = .ok (.ifCond .eq 7, 3) := by decide +kernel
theorem dX11_refuse_5 : decode cX11_refuse 5 = .ok (.iconst 1, 1) := by decide +kernel
theorem dX11_refuse_6 : decode cX11_refuse 6 = .ok (.goto 20, 3) := by decide +kernel
theorem dX11_refuse_9 : decode cX11_refuse 9 = .ok (.iload_n 2, 1) := by decide +kernel
theorem dX11_refuse_10 : decode cX11_refuse 10 = .ok (.ifCond .eq 7, 3) := by decide +kernel
theorem dX11_refuse_13 : decode cX11_refuse 13 = .ok (.iconst 2, 1) := by decide +kernel
theorem dX11_refuse_14 : decode cX11_refuse 14 = .ok (.goto 12, 3) := by decide +kernel
theorem dX11_refuse_17 : decode cX11_refuse 17 = .ok (.iload_n 3, 1) := by decide +kernel
theorem dX11_refuse_18 : decode cX11_refuse 18 = .ok (.ifCond .eq 7, 3) := by decide +kernel
theorem dX11_refuse_21 : decode cX11_refuse 21 = .ok (.iconst 3, 1) := by decide +kernel
theorem dX11_refuse_22 : decode cX11_refuse 22 = .ok (.goto 4, 3) := by decide +kernel
theorem dX11_refuse_25 : decode cX11_refuse 25 = .ok (.iconst 0, 1) := by decide +kernel
theorem dX11_refuse_26 : decode cX11_refuse 26 = .ok (.putfield 188, 3) := by decide +kernel
theorem dX11_refuse_29 : decode cX11_refuse 29 = .ok (.aload_n 0, 1) := by decide +kernel
theorem dX11_refuse_30 : decode cX11_refuse 30 = .ok (.getfield 188, 3) := by decide +kernel
theorem dX11_refuse_33 : decode cX11_refuse 33 = .ok (.ifCond .le 7, 3) := by decide +kernel
theorem dX11_refuse_36 : decode cX11_refuse 36 = .ok (.iconst 1, 1) := by decide +kernel
theorem dX11_refuse_37 : decode cX11_refuse 37 = .ok (.goto 4, 3) := by decide +kernel
theorem dX11_refuse_40 : decode cX11_refuse 40 = .ok (.iconst 0, 1) := by decide +kernel
theorem dX11_refuse_41 : decode cX11_refuse 41 = .ok (.ireturn, 1) := by decide +kernel
theorem dX11_in_0 : decode cX11_in 0 = .ok (.iload_n 0, 1) := by decide +kernel
theorem dX11_in_1 : decode cX11_in 1 = .ok (.iload_n 1, 1) := by decide +kernel
theorem dX11_in_2 : decode cX11_in 2 = .ok (.if_icmp .lt 12, 3) := by decide +kernel
theorem dX11_in_5 : decode cX11_in 5 = .ok (.iload_n 0, 1) := by decide +kernel
theorem dX11_in_6 : decode cX11_in 6 = .ok (.iload_n 2, 1) := by decide +kernel
theorem dX11_in_7 : decode cX11_in 7 = .ok (.if_icmp .gt 7, 3) := by decide +kernel
theorem dX11_in_10 : decode cX11_in 10 = .ok (.iconst 1, 1) := by decide +kernel
theorem dX11_in_11 : decode cX11_in 11 = .ok (.goto 4, 3) := by decide +kernel
theorem dX11_in_14 : decode cX11_in 14 = .ok (.iconst 0, 1) := by decide +kernel
theorem dX11_in_15 : decode cX11_in 15 = .ok (.ireturn, 1) := by decide +kernel
theorem dX11_mapOf_0 : decode cX11_mapOf 0 = .ok (.sipush 128, 3) := by decide +kernel
theorem dX11_mapOf_3 : decode cX11_mapOf 3 = .ok (.bipush 64, 2) := by decide +kernel
theorem dX11_mapOf_5 : decode cX11_mapOf 5 = .ok (.iload_n 0, 1) := by decide +kernel
theorem dX11_mapOf_6 : decode cX11_mapOf 6 = .ok (.imul, 1) := by decide +kernel
theorem dX11_mapOf_7 : decode cX11_mapOf 7 = .ok (.iadd, 1) := by decide +kernel
theorem dX11_mapOf_8 : decode cX11_mapOf 8 = .ok (.ireturn, 1) := by decide +kernel
theorem dX11_inodeBlock_0 : decode cX11_inodeBlock 0 = .ok (.sipush 129, 3) := by decide +kernel
theorem dX11_inodeBlock_3 : decode cX11_inodeBlock 3 = .ok (.bipush 64, 2) := by decide +kernel
theorem dX11_inodeBlock_5 : decode cX11_inodeBlock 5 = .ok (.iload_n 0, 1) := by decide +kernel
theorem dX11_inodeBlock_6 : decode cX11_inodeBlock 6 = .ok (.bipush 16, 2) := by decide +kernel
theorem dX11_inodeBlock_8 : decode cX11_inodeBlock 8 = .ok (.idiv, 1) := by decide +kernel
theorem dX11_inodeBlock_9 : decode cX11_inodeBlock 9 = .ok (.imul, 1) := by decide +kernel
theorem dX11_inodeBlock_10 : decode cX11_inodeBlock 10 = .ok (.iadd, 1) := by decide +kernel
theorem dX11_inodeBlock_11 : decode cX11_inodeBlock 11 = .ok (.iload_n 0, 1) := by decide +kernel
theorem dX11_inodeBlock_12 : decode cX11_inodeBlock 12 = .ok (.bipush 16, 2) := by decide +kernel
theorem dX11_inodeBlock_14 : decode cX11_inodeBlock 14 = .ok (.irem, 1) := by decide +kernel
theorem dX11_inodeBlock_15 : decode cX11_inodeBlock 15 = .ok (.iadd, 1) := by decide +kernel
theorem dX11_inodeBlock_16 : decode cX11_inodeBlock 16 = .ok (.ireturn, 1) := by decide +kernel
theorem dX11_dataBlock_0 : decode cX11_dataBlock 0 = .ok (.sipush 145, 3) := by decide +kernel
theorem dX11_dataBlock_3 : decode cX11_dataBlock 3 = .ok (.bipush 64, 2) := by decide +kernel
theorem dX11_dataBlock_5 : decode cX11_dataBlock 5 = .ok (.iload_n 0, 1) := by decide +kernel
theorem dX11_dataBlock_6 : decode cX11_dataBlock 6 = .ok (.imul, 1) := by decide +kernel
theorem dX11_dataBlock_7 : decode cX11_dataBlock 7 = .ok (.iadd, 1) := by decide +kernel
theorem dX11_dataBlock_8 : decode cX11_dataBlock 8 = .ok (.iload_n 1, 1) := by decide +kernel
theorem dX11_dataBlock_9 : decode cX11_dataBlock 9 = .ok (.iadd, 1) := by decide +kernel
theorem dX11_dataBlock_10 : decode cX11_dataBlock 10 = .ok (.ireturn, 1) := by decide +kernel
theorem dX11_at_0 : decode cX11_at 0 = .ok (.sipush 136, 3) := by decide +kernel
theorem dX11_at_3 : decode cX11_at 3 = .ok (.iload_n 0, 1) := by decide +kernel
theorem dX11_at_4 : decode cX11_at 4 = .ok (.imul, 1) := by decide +kernel
theorem dX11_at_5 : decode cX11_at 5 = .ok (.iload_n 1, 1) := by decide +kernel
theorem dX11_at_6 : decode cX11_at 6 = .ok (.iadd, 1) := by decide +kernel
theorem dX11_at_7 : decode cX11_at 7 = .ok (.ireturn, 1) := by decide +kernel
theorem dX11_masterOf_0 : decode cX11_masterOf 0 = .ok (.iconst 0, 1) := by decide +kernel
theorem dX11_masterOf_1 : decode cX11_masterOf 1 = .ok (.istore_n 2, 1) := by decide +kernel
theorem dX11_masterOf_2 : decode cX11_masterOf 2 = .ok (.iload_n 2, 1) := by decide +kernel
theorem dX11_masterOf_3 : decode cX11_masterOf 3 = .ok (.aload_n 0, 1) := by decide +kernel
theorem dX11_masterOf_4 : decode cX11_masterOf 4 = .ok (.getfield 177, 3) := by decide +kernel
theorem dX11_masterOf_7 : decode cX11_masterOf 7 = .ok (.if_icmp .ge 29, 3) := by decide +kernel
theorem dX11_masterOf_10 : decode cX11_masterOf 10 = .ok (.iload_n 1, 1) := by decide +kernel
theorem dX11_masterOf_11 : decode cX11_masterOf 11 = .ok (.iload_n 2, 1) := by decide +kernel
theorem dX11_masterOf_12 : decode cX11_masterOf 12 = .ok (.iadd, 1) := by decide +kernel
theorem dX11_masterOf_13 : decode cX11_masterOf 13 = .ok (.aload_n 0, 1) := by decide +kernel
theorem dX11_masterOf_14 : decode cX11_masterOf 14 = .ok (.getfield 177, 3) := by decide +kernel
theorem dX11_masterOf_17 : decode cX11_masterOf 17 = .ok (.irem, 1) := by decide +kernel
theorem dX11_masterOf_18 : decode cX11_masterOf 18 = .ok (.istore_n 3, 1) := by decide +kernel
theorem dX11_masterOf_19 : decode cX11_masterOf 19 = .ok (.aload_n 0, 1) := by decide +kernel
theorem dX11_masterOf_20 : decode cX11_masterOf 20 = .ok (.getfield 17, 3) := by decide +kernel
theorem dX11_masterOf_23 : decode cX11_masterOf 23 = .ok (.iload_n 3, 1) := by decide +kernel
theorem dX11_masterOf_24 : decode cX11_masterOf 24 = .ok (.baload, 1) := by decide +kernel
theorem dX11_masterOf_25 : decode cX11_masterOf 25 = .ok (.ifCond .eq 5, 3) := by decide +kernel
theorem dX11_masterOf_28 : decode cX11_masterOf 28 = .ok (.iload_n 3, 1) := by decide +kernel
theorem dX11_masterOf_29 : decode cX11_masterOf 29 = .ok (.ireturn, 1) := by decide +kernel
theorem dX11_masterOf_30 : decode cX11_masterOf 30 = .ok (.iinc 2 1, 3) := by decide +kernel
theorem dX11_masterOf_33 : decode cX11_masterOf 33 = .ok (.goto (-31), 3) := by decide +kernel
theorem dX11_masterOf_36 : decode cX11_masterOf 36 = .ok (.iconst (-1), 1) := by decide +kernel
theorem dX11_masterOf_37 : decode cX11_masterOf 37 = .ok (.ireturn, 1) := by decide +kernel
theorem dX11_send_0 : decode cX11_send 0 = .ok (.iload_n 2, 1) := by decide +kernel
theorem dX11_send_1 : decode cX11_send 1 = .ok (.iconst (-1), 1) := by decide +kernel
theorem dX11_send_2 : decode cX11_send 2 = .ok (.if_icmp .ne 4, 3) := by decide +kernel
theorem dX11_send_5 : decode cX11_send 5 = .ok (.return_, 1) := by decide +kernel
theorem dX11_send_6 : decode cX11_send 6 = .ok (.aload_n 0, 1) := by decide +kernel
theorem dX11_send_7 : decode cX11_send 7 = .ok (.dup, 1) := by decide +kernel
theorem dX11_send_8 : decode cX11_send 8 = .ok (.getfield 191, 3) := by decide +kernel
theorem dX11_send_11 : decode cX11_send 11 = .ok (.iconst 1, 1) := by decide +kernel
theorem dX11_send_12 : decode cX11_send 12 = .ok (.iadd, 1) := by decide +kernel
theorem dX11_send_13 : decode cX11_send 13 = .ok (.putfield 191, 3) := by decide +kernel
theorem dX11_send_16 : decode cX11_send 16 = .ok (.aload_n 0, 1) := by decide +kernel
theorem dX11_send_17 : decode cX11_send 17 = .ok (.getfield 13, 3) := by decide +kernel
theorem dX11_send_20 : decode cX11_send 20 = .ok (.iload_n 2, 1) := by decide +kernel
theorem dX11_send_21 : decode cX11_send 21 = .ok (.baload, 1) := by decide +kernel
theorem dX11_send_22 : decode cX11_send 22 = .ok (.ifCond .ne 4, 3) := by decide +kernel
theorem dX11_send_25 : decode cX11_send 25 = .ok (.return_, 1) := by decide +kernel
theorem dX11_send_26 : decode cX11_send 26 = .ok (.iconst 4, 1) := by decide +kernel
theorem dX11_send_27 : decode cX11_send 27 = .ok (.iload_n 1, 1) := by decide +kernel
theorem dX11_send_28 : decode cX11_send 28 = .ok (.imul, 1) := by decide +kernel
theorem dX11_send_29 : decode cX11_send 29 = .ok (.iload_n 2, 1) := by decide +kernel
theorem dX11_send_30 : decode cX11_send 30 = .ok (.iadd, 1) := by decide +kernel
theorem dX11_send_31 : decode cX11_send 31 = .ok (.istore 6, 2) := by decide +kernel
theorem dX11_send_33 : decode cX11_send 33 = .ok (.aload_n 0, 1) := by decide +kernel
theorem dX11_send_34 : decode cX11_send 34 = .ok (.getfield 194, 3) := by decide +kernel
theorem dX11_send_37 : decode cX11_send 37 = .ok (.aload_n 0, 1) := by decide +kernel
theorem dX11_send_38 : decode cX11_send 38 = .ok (.getfield 135, 3) := by decide +kernel
theorem dX11_send_41 : decode cX11_send 41 = .ok (.iload 6, 2) := by decide +kernel
theorem dX11_send_43 : decode cX11_send 43 = .ok (.iaload, 1) := by decide +kernel
theorem dX11_send_44 : decode cX11_send 44 = .ok (.iadd, 1) := by decide +kernel
theorem dX11_send_45 : decode cX11_send 45 = .ok (.istore 7, 2) := by decide +kernel
theorem dX11_send_47 : decode cX11_send 47 = .ok (.iload 7, 2) := by decide +kernel
theorem dX11_send_49 : decode cX11_send 49 = .ok (.aload_n 0, 1) := by decide +kernel
theorem dX11_send_50 : decode cX11_send 50 = .ok (.getfield 138, 3) := by decide +kernel
theorem dX11_send_53 : decode cX11_send 53 = .ok (.iload 6, 2) := by decide +kernel
theorem dX11_send_55 : decode cX11_send 55 = .ok (.iaload, 1) := by decide +kernel
theorem dX11_send_56 : decode cX11_send 56 = .ok (.if_icmp .ge 13, 3) := by decide +kernel
theorem dX11_send_59 : decode cX11_send 59 = .ok (.aload_n 0, 1) := by decide +kernel
theorem dX11_send_60 : decode cX11_send 60 = .ok (.getfield 138, 3) := by decide +kernel
theorem dX11_send_63 : decode cX11_send 63 = .ok (.iload 6, 2) := by decide +kernel
theorem dX11_send_65 : decode cX11_send 65 = .ok (.iaload, 1) := by decide +kernel
theorem dX11_send_66 : decode cX11_send 66 = .ok (.goto 5, 3) := by decide +kernel
theorem dX11_send_69 : decode cX11_send 69 = .ok (.iload 7, 2) := by decide +kernel
theorem dX11_send_71 : decode cX11_send 71 = .ok (.istore 7, 2) := by decide +kernel
theorem dX11_send_73 : decode cX11_send 73 = .ok (.aload_n 0, 1) := by decide +kernel
theorem dX11_send_74 : decode cX11_send 74 = .ok (.getfield 138, 3) := by decide +kernel
theorem dX11_send_77 : decode cX11_send 77 = .ok (.iload 6, 2) := by decide +kernel
theorem dX11_send_79 : decode cX11_send 79 = .ok (.iload 7, 2) := by decide +kernel
theorem dX11_send_81 : decode cX11_send 81 = .ok (.iastore, 1) := by decide +kernel
theorem dX11_send_82 : decode cX11_send 82 = .ok (.aload_n 0, 1) := by decide +kernel
theorem dX11_send_83 : decode cX11_send 83 = .ok (.getfield 117, 3) := by decide +kernel
theorem dX11_send_86 : decode cX11_send 86 = .ok (.aload_n 0, 1) := by decide +kernel
theorem dX11_send_87 : decode cX11_send 87 = .ok (.getfield 197, 3) := by decide +kernel
theorem dX11_send_90 : decode cX11_send 90 = .ok (.iload_n 1, 1) := by decide +kernel
theorem dX11_send_91 : decode cX11_send 91 = .ok (.iastore, 1) := by decide +kernel
theorem dX11_send_92 : decode cX11_send 92 = .ok (.aload_n 0, 1) := by decide +kernel
theorem dX11_send_93 : decode cX11_send 93 = .ok (.getfield 120, 3) := by decide +kernel
theorem dX11_send_96 : decode cX11_send 96 = .ok (.aload_n 0, 1) := by decide +kernel
theorem dX11_send_97 : decode cX11_send 97 = .ok (.getfield 197, 3) := by decide +kernel
theorem dX11_send_100 : decode cX11_send 100 = .ok (.iload_n 2, 1) := by decide +kernel
theorem dX11_send_101 : decode cX11_send 101 = .ok (.iastore, 1) := by decide +kernel
theorem dX11_send_102 : decode cX11_send 102 = .ok (.aload_n 0, 1) := by decide +kernel
theorem dX11_send_103 : decode cX11_send 103 = .ok (.getfield 123, 3) := by decide +kernel
theorem dX11_send_106 : decode cX11_send 106 = .ok (.aload_n 0, 1) := by decide +kernel
theorem dX11_send_107 : decode cX11_send 107 = .ok (.getfield 197, 3) := by decide +kernel
theorem dX11_send_110 : decode cX11_send 110 = .ok (.iload_n 3, 1) := by decide +kernel
theorem dX11_send_111 : decode cX11_send 111 = .ok (.iastore, 1) := by decide +kernel
theorem dX11_send_112 : decode cX11_send 112 = .ok (.aload_n 0, 1) := by decide +kernel
theorem dX11_send_113 : decode cX11_send 113 = .ok (.getfield 126, 3) := by decide +kernel
theorem dX11_send_116 : decode cX11_send 116 = .ok (.aload_n 0, 1) := by decide +kernel
theorem dX11_send_117 : decode cX11_send 117 = .ok (.getfield 197, 3) := by decide +kernel
theorem dX11_send_120 : decode cX11_send 120 = .ok (.iload 4, 2) := by decide +kernel
theorem dX11_send_122 : decode cX11_send 122 = .ok (.iastore, 1) := by decide +kernel
theorem dX11_send_123 : decode cX11_send 123 = .ok (.aload_n 0, 1) := by decide +kernel
theorem dX11_send_124 : decode cX11_send 124 = .ok (.getfield 129, 3) := by decide +kernel
theorem dX11_send_127 : decode cX11_send 127 = .ok (.aload_n 0, 1) := by decide +kernel
theorem dX11_send_128 : decode cX11_send 128 = .ok (.getfield 197, 3) := by decide +kernel
theorem dX11_send_131 : decode cX11_send 131 = .ok (.iload 5, 2) := by decide +kernel
theorem dX11_send_133 : decode cX11_send 133 = .ok (.iastore, 1) := by decide +kernel
theorem dX11_send_134 : decode cX11_send 134 = .ok (.aload_n 0, 1) := by decide +kernel
theorem dX11_send_135 : decode cX11_send 135 = .ok (.getfield 132, 3) := by decide +kernel
theorem dX11_send_138 : decode cX11_send 138 = .ok (.aload_n 0, 1) := by decide +kernel
theorem dX11_send_139 : decode cX11_send 139 = .ok (.getfield 197, 3) := by decide +kernel
theorem dX11_send_142 : decode cX11_send 142 = .ok (.iload 7, 2) := by decide +kernel
theorem dX11_send_144 : decode cX11_send 144 = .ok (.iastore, 1) := by decide +kernel
theorem dX11_send_145 : decode cX11_send 145 = .ok (.aload_n 0, 1) := by decide +kernel
theorem dX11_send_146 : decode cX11_send 146 = .ok (.dup, 1) := by decide +kernel
theorem dX11_send_147 : decode cX11_send 147 = .ok (.getfield 197, 3) := by decide +kernel
theorem dX11_send_150 : decode cX11_send 150 = .ok (.iconst 1, 1) := by decide +kernel
theorem dX11_send_151 : decode cX11_send 151 = .ok (.iadd, 1) := by decide +kernel
theorem dX11_send_152 : decode cX11_send 152 = .ok (.putfield 197, 3) := by decide +kernel
theorem dX11_send_155 : decode cX11_send 155 = .ok (.return_, 1) := by decide +kernel
theorem dX11_removeMessage_0 : decode cX11_removeMessage 0 = .ok (.aload_n 0, 1) := by decide +kernel
theorem dX11_removeMessage_1 : decode cX11_removeMessage 1 = .ok (.dup, 1) := by decide +kernel
theorem dX11_removeMessage_2 : decode cX11_removeMessage 2 = .ok (.getfield 197, 3) := by decide +kernel
theorem dX11_removeMessage_5 : decode cX11_removeMessage 5 = .ok (.iconst 1, 1) := by decide +kernel
theorem dX11_removeMessage_6 : decode cX11_removeMessage 6 = .ok (.isub, 1) := by decide +kernel
theorem dX11_removeMessage_7 : decode cX11_removeMessage 7 = .ok (.putfield 197, 3) := by decide +kernel
theorem dX11_removeMessage_10 : decode cX11_removeMessage 10 = .ok (.iload_n 1, 1) := by decide +kernel
theorem dX11_removeMessage_11 : decode cX11_removeMessage 11 = .ok (.istore_n 2, 1) := by decide +kernel
theorem dX11_removeMessage_12 : decode cX11_removeMessage 12 = .ok (.iload_n 2, 1) := by decide +kernel
theorem dX11_removeMessage_13 : decode cX11_removeMessage 13 = .ok (.aload_n 0, 1) := by decide +kernel
theorem dX11_removeMessage_14 : decode cX11_removeMessage 14 = .ok (.getfield 197, 3) := by decide +kernel
theorem dX11_removeMessage_17 : decode cX11_removeMessage 17 = .ok (.if_icmp .ge 93, 3) := by decide +kernel
theorem dX11_removeMessage_20 : decode cX11_removeMessage 20 = .ok (.aload_n 0, 1) := by decide +kernel
theorem dX11_removeMessage_21 : decode cX11_removeMessage 21 = .ok (.getfield 117, 3) := by decide +kernel
theorem dX11_removeMessage_24 : decode cX11_removeMessage 24 = .ok (.iload_n 2, 1) := by decide +kernel
theorem dX11_removeMessage_25 : decode cX11_removeMessage 25 = .ok (.aload_n 0, 1) := by decide +kernel
theorem dX11_removeMessage_26 : decode cX11_removeMessage 26 = .ok (.getfield 117, 3) := by decide +kernel
theorem dX11_removeMessage_29 : decode cX11_removeMessage 29 = .ok (.iload_n 2, 1) := by decide +kernel
theorem dX11_removeMessage_30 : decode cX11_removeMessage 30 = .ok (.iconst 1, 1) := by decide +kernel
theorem dX11_removeMessage_31 : decode cX11_removeMessage 31 = .ok (.iadd, 1) := by decide +kernel
theorem dX11_removeMessage_32 : decode cX11_removeMessage 32 = .ok (.iaload, 1) := by decide +kernel
theorem dX11_removeMessage_33 : decode cX11_removeMessage 33 = .ok (.iastore, 1) := by decide +kernel
theorem dX11_removeMessage_34 : decode cX11_removeMessage 34 = .ok (.aload_n 0, 1) := by decide +kernel
theorem dX11_removeMessage_35 : decode cX11_removeMessage 35 = .ok (.getfield 120, 3) := by decide +kernel
theorem dX11_removeMessage_38 : decode cX11_removeMessage 38 = .ok (.iload_n 2, 1) := by decide +kernel
theorem dX11_removeMessage_39 : decode cX11_removeMessage 39 = .ok (.aload_n 0, 1) := by decide +kernel
theorem dX11_removeMessage_40 : decode cX11_removeMessage 40 = .ok (.getfield 120, 3) := by decide +kernel
theorem dX11_removeMessage_43 : decode cX11_removeMessage 43 = .ok (.iload_n 2, 1) := by decide +kernel
theorem dX11_removeMessage_44 : decode cX11_removeMessage 44 = .ok (.iconst 1, 1) := by decide +kernel
theorem dX11_removeMessage_45 : decode cX11_removeMessage 45 = .ok (.iadd, 1) := by decide +kernel
theorem dX11_removeMessage_46 : decode cX11_removeMessage 46 = .ok (.iaload, 1) := by decide +kernel
theorem dX11_removeMessage_47 : decode cX11_removeMessage 47 = .ok (.iastore, 1) := by decide +kernel
theorem dX11_removeMessage_48 : decode cX11_removeMessage 48 = .ok (.aload_n 0, 1) := by decide +kernel
theorem dX11_removeMessage_49 : decode cX11_removeMessage 49 = .ok (.getfield 123, 3) := by decide +kernel
theorem dX11_removeMessage_52 : decode cX11_removeMessage 52 = .ok (.iload_n 2, 1) := by decide +kernel
theorem dX11_removeMessage_53 : decode cX11_removeMessage 53 = .ok (.aload_n 0, 1) := by decide +kernel
theorem dX11_removeMessage_54 : decode cX11_removeMessage 54 = .ok (.getfield 123, 3) := by decide +kernel
theorem dX11_removeMessage_57 : decode cX11_removeMessage 57 = .ok (.iload_n 2, 1) := by decide +kernel
theorem dX11_removeMessage_58 : decode cX11_removeMessage 58 = .ok (.iconst 1, 1) := by decide +kernel
theorem dX11_removeMessage_59 : decode cX11_removeMessage 59 = .ok (.iadd, 1) := by decide +kernel
theorem dX11_removeMessage_60 : decode cX11_removeMessage 60 = .ok (.iaload, 1) := by decide +kernel
theorem dX11_removeMessage_61 : decode cX11_removeMessage 61 = .ok (.iastore, 1) := by decide +kernel
theorem dX11_removeMessage_62 : decode cX11_removeMessage 62 = .ok (.aload_n 0, 1) := by decide +kernel
theorem dX11_removeMessage_63 : decode cX11_removeMessage 63 = .ok (.getfield 126, 3) := by decide +kernel
theorem dX11_removeMessage_66 : decode cX11_removeMessage 66 = .ok (.iload_n 2, 1) := by decide +kernel
theorem dX11_removeMessage_67 : decode cX11_removeMessage 67 = .ok (.aload_n 0, 1) := by decide +kernel
theorem dX11_removeMessage_68 : decode cX11_removeMessage 68 = .ok (.getfield 126, 3) := by decide +kernel
theorem dX11_removeMessage_71 : decode cX11_removeMessage 71 = .ok (.iload_n 2, 1) := by decide +kernel
theorem dX11_removeMessage_72 : decode cX11_removeMessage 72 = .ok (.iconst 1, 1) := by decide +kernel
theorem dX11_removeMessage_73 : decode cX11_removeMessage 73 = .ok (.iadd, 1) := by decide +kernel
theorem dX11_removeMessage_74 : decode cX11_removeMessage 74 = .ok (.iaload, 1) := by decide +kernel
theorem dX11_removeMessage_75 : decode cX11_removeMessage 75 = .ok (.iastore, 1) := by decide +kernel
theorem dX11_removeMessage_76 : decode cX11_removeMessage 76 = .ok (.aload_n 0, 1) := by decide +kernel
theorem dX11_removeMessage_77 : decode cX11_removeMessage 77 = .ok (.getfield 129, 3) := by decide +kernel
theorem dX11_removeMessage_80 : decode cX11_removeMessage 80 = .ok (.iload_n 2, 1) := by decide +kernel
theorem dX11_removeMessage_81 : decode cX11_removeMessage 81 = .ok (.aload_n 0, 1) := by decide +kernel
theorem dX11_removeMessage_82 : decode cX11_removeMessage 82 = .ok (.getfield 129, 3) := by decide +kernel
theorem dX11_removeMessage_85 : decode cX11_removeMessage 85 = .ok (.iload_n 2, 1) := by decide +kernel
theorem dX11_removeMessage_86 : decode cX11_removeMessage 86 = .ok (.iconst 1, 1) := by decide +kernel
theorem dX11_removeMessage_87 : decode cX11_removeMessage 87 = .ok (.iadd, 1) := by decide +kernel
theorem dX11_removeMessage_88 : decode cX11_removeMessage 88 = .ok (.iaload, 1) := by decide +kernel
theorem dX11_removeMessage_89 : decode cX11_removeMessage 89 = .ok (.iastore, 1) := by decide +kernel
theorem dX11_removeMessage_90 : decode cX11_removeMessage 90 = .ok (.aload_n 0, 1) := by decide +kernel
theorem dX11_removeMessage_91 : decode cX11_removeMessage 91 = .ok (.getfield 132, 3) := by decide +kernel
theorem dX11_removeMessage_94 : decode cX11_removeMessage 94 = .ok (.iload_n 2, 1) := by decide +kernel
theorem dX11_removeMessage_95 : decode cX11_removeMessage 95 = .ok (.aload_n 0, 1) := by decide +kernel
theorem dX11_removeMessage_96 : decode cX11_removeMessage 96 = .ok (.getfield 132, 3) := by decide +kernel
theorem dX11_removeMessage_99 : decode cX11_removeMessage 99 = .ok (.iload_n 2, 1) := by decide +kernel
theorem dX11_removeMessage_100 : decode cX11_removeMessage 100 = .ok (.iconst 1, 1) := by decide +kernel
theorem dX11_removeMessage_101 : decode cX11_removeMessage 101 = .ok (.iadd, 1) := by decide +kernel
theorem dX11_removeMessage_102 : decode cX11_removeMessage 102 = .ok (.iaload, 1) := by decide +kernel
theorem dX11_removeMessage_103 : decode cX11_removeMessage 103 = .ok (.iastore, 1) := by decide +kernel
theorem dX11_removeMessage_104 : decode cX11_removeMessage 104 = .ok (.iinc 2 1, 3) := by decide +kernel
theorem dX11_removeMessage_107 : decode cX11_removeMessage 107 = .ok (.goto (-95), 3) := by decide +kernel
theorem dX11_removeMessage_110 : decode cX11_removeMessage 110 = .ok (.return_, 1) := by decide +kernel
theorem dX11_noMessages_0 : decode cX11_noMessages 0 = .ok (.aload_n 0, 1) := by decide +kernel
theorem dX11_noMessages_1 : decode cX11_noMessages 1 = .ok (.iconst 0, 1) := by decide +kernel
theorem dX11_noMessages_2 : decode cX11_noMessages 2 = .ok (.putfield 197, 3) := by decide +kernel
theorem dX11_noMessages_5 : decode cX11_noMessages 5 = .ok (.iconst 0, 1) := by decide +kernel
theorem dX11_noMessages_6 : decode cX11_noMessages 6 = .ok (.istore_n 1, 1) := by decide +kernel
theorem dX11_noMessages_7 : decode cX11_noMessages 7 = .ok (.iload_n 1, 1) := by decide +kernel
theorem dX11_noMessages_8 : decode cX11_noMessages 8 = .ok (.bipush 16, 2) := by decide +kernel
theorem dX11_noMessages_10 : decode cX11_noMessages 10 = .ok (.if_icmp .ge 16, 3) := by decide +kernel
theorem dX11_noMessages_13 : decode cX11_noMessages 13 = .ok (.aload_n 0, 1) := by decide +kernel
theorem dX11_noMessages_14 : decode cX11_noMessages 14 = .ok (.getfield 138, 3) := by decide +kernel
theorem dX11_noMessages_17 : decode cX11_noMessages 17 = .ok (.iload_n 1, 1) := by decide +kernel
theorem dX11_noMessages_18 : decode cX11_noMessages 18 = .ok (.iconst 0, 1) := by decide +kernel
theorem dX11_noMessages_19 : decode cX11_noMessages 19 = .ok (.iastore, 1) := by decide +kernel
theorem dX11_noMessages_20 : decode cX11_noMessages 20 = .ok (.iinc 1 1, 3) := by decide +kernel
theorem dX11_noMessages_23 : decode cX11_noMessages 23 = .ok (.goto (-16), 3) := by decide +kernel
theorem dX11_noMessages_26 : decode cX11_noMessages 26 = .ok (.return_, 1) := by decide +kernel
theorem dX11_deliver_0 : decode cX11_deliver 0 = .ok (.iconst 4, 1) := by decide +kernel
theorem dX11_deliver_1 : decode cX11_deliver 1 = .ok (.iload 4, 2) := by decide +kernel
theorem dX11_deliver_3 : decode cX11_deliver 3 = .ok (.imul, 1) := by decide +kernel
theorem dX11_deliver_4 : decode cX11_deliver 4 = .ok (.iload_n 1, 1) := by decide +kernel
theorem dX11_deliver_5 : decode cX11_deliver 5 = .ok (.iadd, 1) := by decide +kernel
theorem dX11_deliver_6 : decode cX11_deliver 6 = .ok (.istore 6, 2) := by decide +kernel
theorem dX11_deliver_8 : decode cX11_deliver 8 = .ok (.iload_n 3, 1) := by decide +kernel
theorem dX11_deliver_9 : decode cX11_deliver 9 = .ok (.tableswitch 138 0 3 #[31, 75, 138, 49], 31) := by decide +kernel
theorem dX11_deliver_40 : decode cX11_deliver 40 = .ok (.aload_n 0, 1) := by decide +kernel
theorem dX11_deliver_41 : decode cX11_deliver 41 = .ok (.iload 4, 2) := by decide +kernel
theorem dX11_deliver_43 : decode cX11_deliver 43 = .ok (.iload_n 1, 1) := by decide +kernel
theorem dX11_deliver_44 : decode cX11_deliver 44 = .ok (.iload 5, 2) := by decide +kernel
theorem dX11_deliver_46 : decode cX11_deliver 46 = .ok (.invokevirtual 200, 3) := by decide +kernel
theorem dX11_deliver_49 : decode cX11_deliver 49 = .ok (.aload_n 0, 1) := by decide +kernel
theorem dX11_deliver_50 : decode cX11_deliver 50 = .ok (.iload 4, 2) := by decide +kernel
theorem dX11_deliver_52 : decode cX11_deliver 52 = .ok (.invokevirtual 204, 3) := by decide +kernel
theorem dX11_deliver_55 : decode cX11_deliver 55 = .ok (.goto 102, 3) := by decide +kernel
theorem dX11_deliver_58 : decode cX11_deliver 58 = .ok (.aload_n 0, 1) := by decide +kernel
theorem dX11_deliver_59 : decode cX11_deliver 59 = .ok (.getfield 102, 3) := by decide +kernel
theorem dX11_deliver_62 : decode cX11_deliver 62 = .ok (.iload 6, 2) := by decide +kernel
theorem dX11_deliver_64 : decode cX11_deliver 64 = .ok (.iload 5, 2) := by decide +kernel
theorem dX11_deliver_66 : decode cX11_deliver 66 = .ok (.iastore, 1) := by decide +kernel
theorem dX11_deliver_67 : decode cX11_deliver 67 = .ok (.aload_n 0, 1) := by decide +kernel
theorem dX11_deliver_68 : decode cX11_deliver 68 = .ok (.getfield 105, 3) := by decide +kernel
theorem dX11_deliver_71 : decode cX11_deliver 71 = .ok (.iload 6, 2) := by decide +kernel
theorem dX11_deliver_73 : decode cX11_deliver 73 = .ok (.iconst (-1), 1) := by decide +kernel
theorem dX11_deliver_74 : decode cX11_deliver 74 = .ok (.iastore, 1) := by decide +kernel
theorem dX11_deliver_75 : decode cX11_deliver 75 = .ok (.aload_n 0, 1) := by decide +kernel
theorem dX11_deliver_76 : decode cX11_deliver 76 = .ok (.iload 4, 2) := by decide +kernel
theorem dX11_deliver_78 : decode cX11_deliver 78 = .ok (.invokevirtual 204, 3) := by decide +kernel
theorem dX11_deliver_81 : decode cX11_deliver 81 = .ok (.goto 76, 3) := by decide +kernel
theorem dX11_deliver_84 : decode cX11_deliver 84 = .ok (.aload_n 0, 1) := by decide +kernel
theorem dX11_deliver_85 : decode cX11_deliver 85 = .ok (.getfield 48, 3) := by decide +kernel
theorem dX11_deliver_88 : decode cX11_deliver 88 = .ok (.iload_n 2, 1) := by decide +kernel
theorem dX11_deliver_89 : decode cX11_deliver 89 = .ok (.iload 4, 2) := by decide +kernel
theorem dX11_deliver_91 : decode cX11_deliver 91 = .ok (.invokestatic 208, 3) := by decide +kernel
theorem dX11_deliver_94 : decode cX11_deliver 94 = .ok (.iload 5, 2) := by decide +kernel
theorem dX11_deliver_96 : decode cX11_deliver 96 = .ok (.aload_n 0, 1) := by decide +kernel
theorem dX11_deliver_97 : decode cX11_deliver 97 = .ok (.getfield 48, 3) := by decide +kernel
theorem dX11_deliver_100 : decode cX11_deliver 100 = .ok (.iload_n 2, 1) := by decide +kernel
theorem dX11_deliver_101 : decode cX11_deliver 101 = .ok (.iload 4, 2) := by decide +kernel
theorem dX11_deliver_103 : decode cX11_deliver 103 = .ok (.invokestatic 208, 3) := by decide +kernel
theorem dX11_deliver_106 : decode cX11_deliver 106 = .ok (.iaload, 1) := by decide +kernel
theorem dX11_deliver_107 : decode cX11_deliver 107 = .ok (.if_icmp .le 8, 3) := by decide +kernel
theorem dX11_deliver_110 : decode cX11_deliver 110 = .ok (.iload 5, 2) := by decide +kernel
theorem dX11_deliver_112 : decode cX11_deliver 112 = .ok (.goto 14, 3) := by decide +kernel
theorem dX11_deliver_115 : decode cX11_deliver 115 = .ok (.aload_n 0, 1) := by decide +kernel
theorem dX11_deliver_116 : decode cX11_deliver 116 = .ok (.getfield 48, 3) := by decide +kernel
theorem dX11_deliver_119 : decode cX11_deliver 119 = .ok (.iload_n 2, 1) := by decide +kernel
theorem dX11_deliver_120 : decode cX11_deliver 120 = .ok (.iload 4, 2) := by decide +kernel
theorem dX11_deliver_122 : decode cX11_deliver 122 = .ok (.invokestatic 208, 3) := by decide +kernel
theorem dX11_deliver_125 : decode cX11_deliver 125 = .ok (.iaload, 1) := by decide +kernel
theorem dX11_deliver_126 : decode cX11_deliver 126 = .ok (.iastore, 1) := by decide +kernel
theorem dX11_deliver_127 : decode cX11_deliver 127 = .ok (.aload_n 0, 1) := by decide +kernel
theorem dX11_deliver_128 : decode cX11_deliver 128 = .ok (.getfield 51, 3) := by decide +kernel
theorem dX11_deliver_131 : decode cX11_deliver 131 = .ok (.iload_n 2, 1) := by decide +kernel
theorem dX11_deliver_132 : decode cX11_deliver 132 = .ok (.iload 4, 2) := by decide +kernel
theorem dX11_deliver_134 : decode cX11_deliver 134 = .ok (.invokestatic 208, 3) := by decide +kernel
theorem dX11_deliver_137 : decode cX11_deliver 137 = .ok (.iconst 0, 1) := by decide +kernel
theorem dX11_deliver_138 : decode cX11_deliver 138 = .ok (.iastore, 1) := by decide +kernel
theorem dX11_deliver_139 : decode cX11_deliver 139 = .ok (.aload_n 0, 1) := by decide +kernel
theorem dX11_deliver_140 : decode cX11_deliver 140 = .ok (.iload_n 2, 1) := by decide +kernel
theorem dX11_deliver_141 : decode cX11_deliver 141 = .ok (.invokevirtual 212, 3) := by decide +kernel
theorem dX11_deliver_144 : decode cX11_deliver 144 = .ok (.goto 13, 3) := by decide +kernel
theorem dX11_deliver_147 : decode cX11_deliver 147 = .ok (.aload_n 0, 1) := by decide +kernel
theorem dX11_deliver_148 : decode cX11_deliver 148 = .ok (.iload_n 1, 1) := by decide +kernel
theorem dX11_deliver_149 : decode cX11_deliver 149 = .ok (.iload_n 2, 1) := by decide +kernel
theorem dX11_deliver_150 : decode cX11_deliver 150 = .ok (.iload 4, 2) := by decide +kernel
theorem dX11_deliver_152 : decode cX11_deliver 152 = .ok (.iload 5, 2) := by decide +kernel
theorem dX11_deliver_154 : decode cX11_deliver 154 = .ok (.invokevirtual 215, 3) := by decide +kernel
theorem dX11_deliver_157 : decode cX11_deliver 157 = .ok (.return_, 1) := by decide +kernel
theorem dX11_addRequest_0 : decode cX11_addRequest 0 = .ok (.bipush 16, 2) := by decide +kernel
theorem dX11_addRequest_2 : decode cX11_addRequest 2 = .ok (.iload_n 1, 1) := by decide +kernel
theorem dX11_addRequest_3 : decode cX11_addRequest 3 = .ok (.imul, 1) := by decide +kernel
theorem dX11_addRequest_4 : decode cX11_addRequest 4 = .ok (.aload_n 0, 1) := by decide +kernel
theorem dX11_addRequest_5 : decode cX11_addRequest 5 = .ok (.getfield 108, 3) := by decide +kernel
theorem dX11_addRequest_8 : decode cX11_addRequest 8 = .ok (.iload_n 1, 1) := by decide +kernel
theorem dX11_addRequest_9 : decode cX11_addRequest 9 = .ok (.iaload, 1) := by decide +kernel
theorem dX11_addRequest_10 : decode cX11_addRequest 10 = .ok (.iadd, 1) := by decide +kernel
theorem dX11_addRequest_11 : decode cX11_addRequest 11 = .ok (.istore 4, 2) := by decide +kernel
theorem dX11_addRequest_13 : decode cX11_addRequest 13 = .ok (.aload_n 0, 1) := by decide +kernel
theorem dX11_addRequest_14 : decode cX11_addRequest 14 = .ok (.getfield 111, 3) := by decide +kernel
theorem dX11_addRequest_17 : decode cX11_addRequest 17 = .ok (.iload 4, 2) := by decide +kernel
theorem dX11_addRequest_19 : decode cX11_addRequest 19 = .ok (.iload_n 2, 1) := by decide +kernel
theorem dX11_addRequest_20 : decode cX11_addRequest 20 = .ok (.iastore, 1) := by decide +kernel
theorem dX11_addRequest_21 : decode cX11_addRequest 21 = .ok (.aload_n 0, 1) := by decide +kernel
theorem dX11_addRequest_22 : decode cX11_addRequest 22 = .ok (.getfield 114, 3) := by decide +kernel
theorem dX11_addRequest_25 : decode cX11_addRequest 25 = .ok (.iload 4, 2) := by decide +kernel
theorem dX11_addRequest_27 : decode cX11_addRequest 27 = .ok (.iload_n 3, 1) := by decide +kernel
theorem dX11_addRequest_28 : decode cX11_addRequest 28 = .ok (.iastore, 1) := by decide +kernel
theorem dX11_addRequest_29 : decode cX11_addRequest 29 = .ok (.aload_n 0, 1) := by decide +kernel
theorem dX11_addRequest_30 : decode cX11_addRequest 30 = .ok (.getfield 108, 3) := by decide +kernel
theorem dX11_addRequest_33 : decode cX11_addRequest 33 = .ok (.iload_n 1, 1) := by decide +kernel
theorem dX11_addRequest_34 : decode cX11_addRequest 34 = .ok (.dup2, 1) := by decide +kernel
theorem dX11_addRequest_35 : decode cX11_addRequest 35 = .ok (.iaload, 1) := by decide +kernel
theorem dX11_addRequest_36 : decode cX11_addRequest 36 = .ok (.iconst 1, 1) := by decide +kernel
theorem dX11_addRequest_37 : decode cX11_addRequest 37 = .ok (.iadd, 1) := by decide +kernel
theorem dX11_addRequest_38 : decode cX11_addRequest 38 = .ok (.iastore, 1) := by decide +kernel
theorem dX11_addRequest_39 : decode cX11_addRequest 39 = .ok (.return_, 1) := by decide +kernel
theorem dX11_serve_0 : decode cX11_serve 0 = .ok (.aload_n 0, 1) := by decide +kernel
theorem dX11_serve_1 : decode cX11_serve 1 = .ok (.getfield 108, 3) := by decide +kernel
theorem dX11_serve_4 : decode cX11_serve 4 = .ok (.iload_n 1, 1) := by decide +kernel
theorem dX11_serve_5 : decode cX11_serve 5 = .ok (.iaload, 1) := by decide +kernel
theorem dX11_serve_6 : decode cX11_serve 6 = .ok (.ifCond .le 210, 3) := by decide +kernel
theorem dX11_serve_9 : decode cX11_serve 9 = .ok (.aload_n 0, 1) := by decide +kernel
theorem dX11_serve_10 : decode cX11_serve 10 = .ok (.getfield 111, 3) := by decide +kernel
theorem dX11_serve_13 : decode cX11_serve 13 = .ok (.bipush 16, 2) := by decide +kernel
theorem dX11_serve_15 : decode cX11_serve 15 = .ok (.iload_n 1, 1) := by decide +kernel
theorem dX11_serve_16 : decode cX11_serve 16 = .ok (.imul, 1) := by decide +kernel
theorem dX11_serve_17 : decode cX11_serve 17 = .ok (.iaload, 1) := by decide +kernel
theorem dX11_serve_18 : decode cX11_serve 18 = .ok (.istore_n 2, 1) := by decide +kernel
theorem dX11_serve_19 : decode cX11_serve 19 = .ok (.aload_n 0, 1) := by decide +kernel
theorem dX11_serve_20 : decode cX11_serve 20 = .ok (.getfield 114, 3) := by decide +kernel
theorem dX11_serve_23 : decode cX11_serve 23 = .ok (.bipush 16, 2) := by decide +kernel
theorem dX11_serve_25 : decode cX11_serve 25 = .ok (.iload_n 1, 1) := by decide +kernel
theorem dX11_serve_26 : decode cX11_serve 26 = .ok (.imul, 1) := by decide +kernel
theorem dX11_serve_27 : decode cX11_serve 27 = .ok (.iaload, 1) := by decide +kernel
theorem dX11_serve_28 : decode cX11_serve 28 = .ok (.istore_n 3, 1) := by decide +kernel
theorem dX11_serve_29 : decode cX11_serve 29 = .ok (.iconst 1, 1) := by decide +kernel
theorem dX11_serve_30 : decode cX11_serve 30 = .ok (.istore 4, 2) := by decide +kernel
theorem dX11_serve_32 : decode cX11_serve 32 = .ok (.iconst 0, 1) := by decide +kernel
theorem dX11_serve_33 : decode cX11_serve 33 = .ok (.istore 5, 2) := by decide +kernel
theorem dX11_serve_35 : decode cX11_serve 35 = .ok (.iload 5, 2) := by decide +kernel
theorem dX11_serve_37 : decode cX11_serve 37 = .ok (.aload_n 0, 1) := by decide +kernel
theorem dX11_serve_38 : decode cX11_serve 38 = .ok (.getfield 177, 3) := by decide +kernel
theorem dX11_serve_41 : decode cX11_serve 41 = .ok (.if_icmp .ge 38, 3) := by decide +kernel
theorem dX11_serve_44 : decode cX11_serve 44 = .ok (.iload 4, 2) := by decide +kernel
theorem dX11_serve_46 : decode cX11_serve 46 = .ok (.ifCond .eq 24, 3) := by decide +kernel
theorem dX11_serve_49 : decode cX11_serve 49 = .ok (.iload 5, 2) := by decide +kernel
theorem dX11_serve_51 : decode cX11_serve 51 = .ok (.iload_n 2, 1) := by decide +kernel
theorem dX11_serve_52 : decode cX11_serve 52 = .ok (.if_icmp .eq 14, 3) := by decide +kernel
theorem dX11_serve_55 : decode cX11_serve 55 = .ok (.aload_n 0, 1) := by decide +kernel
theorem dX11_serve_56 : decode cX11_serve 56 = .ok (.iload_n 1, 1) := by decide +kernel
theorem dX11_serve_57 : decode cX11_serve 57 = .ok (.iload 5, 2) := by decide +kernel
theorem dX11_serve_59 : decode cX11_serve 59 = .ok (.iload_n 3, 1) := by decide +kernel
theorem dX11_serve_60 : decode cX11_serve 60 = .ok (.invokevirtual 219, 3) := by decide +kernel
theorem dX11_serve_63 : decode cX11_serve 63 = .ok (.ifCond .ne 7, 3) := by decide +kernel
theorem dX11_serve_66 : decode cX11_serve 66 = .ok (.iconst 1, 1) := by decide +kernel
theorem dX11_serve_67 : decode cX11_serve 67 = .ok (.goto 4, 3) := by decide +kernel
theorem dX11_serve_70 : decode cX11_serve 70 = .ok (.iconst 0, 1) := by decide +kernel
theorem dX11_serve_71 : decode cX11_serve 71 = .ok (.istore 4, 2) := by decide +kernel
theorem dX11_serve_73 : decode cX11_serve 73 = .ok (.iinc 5 1, 3) := by decide +kernel
theorem dX11_serve_76 : decode cX11_serve 76 = .ok (.goto (-41), 3) := by decide +kernel
theorem dX11_serve_79 : decode cX11_serve 79 = .ok (.iload 4, 2) := by decide +kernel
theorem dX11_serve_81 : decode cX11_serve 81 = .ok (.ifCond .ne 11, 3) := by decide +kernel
theorem dX11_serve_84 : decode cX11_serve 84 = .ok (.aload_n 0, 1) := by decide +kernel
theorem dX11_serve_85 : decode cX11_serve 85 = .ok (.iload_n 1, 1) := by decide +kernel
theorem dX11_serve_86 : decode cX11_serve 86 = .ok (.iload_n 2, 1) := by decide +kernel
theorem dX11_serve_87 : decode cX11_serve 87 = .ok (.iload_n 3, 1) := by decide +kernel
theorem dX11_serve_88 : decode cX11_serve 88 = .ok (.invokevirtual 223, 3) := by decide +kernel
theorem dX11_serve_91 : decode cX11_serve 91 = .ok (.return_, 1) := by decide +kernel
theorem dX11_serve_92 : decode cX11_serve 92 = .ok (.aload_n 0, 1) := by decide +kernel
theorem dX11_serve_93 : decode cX11_serve 93 = .ok (.getfield 102, 3) := by decide +kernel
theorem dX11_serve_96 : decode cX11_serve 96 = .ok (.iconst 4, 1) := by decide +kernel
theorem dX11_serve_97 : decode cX11_serve 97 = .ok (.iload_n 1, 1) := by decide +kernel
theorem dX11_serve_98 : decode cX11_serve 98 = .ok (.imul, 1) := by decide +kernel
theorem dX11_serve_99 : decode cX11_serve 99 = .ok (.iload_n 2, 1) := by decide +kernel
theorem dX11_serve_100 : decode cX11_serve 100 = .ok (.iadd, 1) := by decide +kernel
theorem dX11_serve_101 : decode cX11_serve 101 = .ok (.aload_n 0, 1) := by decide +kernel
theorem dX11_serve_102 : decode cX11_serve 102 = .ok (.getfield 102, 3) := by decide +kernel
theorem dX11_serve_105 : decode cX11_serve 105 = .ok (.iconst 4, 1) := by decide +kernel
theorem dX11_serve_106 : decode cX11_serve 106 = .ok (.iload_n 1, 1) := by decide +kernel
theorem dX11_serve_107 : decode cX11_serve 107 = .ok (.imul, 1) := by decide +kernel
theorem dX11_serve_108 : decode cX11_serve 108 = .ok (.iload_n 2, 1) := by decide +kernel
theorem dX11_serve_109 : decode cX11_serve 109 = .ok (.iadd, 1) := by decide +kernel
theorem dX11_serve_110 : decode cX11_serve 110 = .ok (.iaload, 1) := by decide +kernel
theorem dX11_serve_111 : decode cX11_serve 111 = .ok (.iload_n 3, 1) := by decide +kernel
theorem dX11_serve_112 : decode cX11_serve 112 = .ok (.if_icmp .le 16, 3) := by decide +kernel
theorem dX11_serve_115 : decode cX11_serve 115 = .ok (.aload_n 0, 1) := by decide +kernel
theorem dX11_serve_116 : decode cX11_serve 116 = .ok (.getfield 102, 3) := by decide +kernel
theorem dX11_serve_119 : decode cX11_serve 119 = .ok (.iconst 4, 1) := by decide +kernel
theorem dX11_serve_120 : decode cX11_serve 120 = .ok (.iload_n 1, 1) := by decide +kernel
theorem dX11_serve_121 : decode cX11_serve 121 = .ok (.imul, 1) := by decide +kernel
theorem dX11_serve_122 : decode cX11_serve 122 = .ok (.iload_n 2, 1) := by decide +kernel
theorem dX11_serve_123 : decode cX11_serve 123 = .ok (.iadd, 1) := by decide +kernel
theorem dX11_serve_124 : decode cX11_serve 124 = .ok (.iaload, 1) := by decide +kernel
theorem dX11_serve_125 : decode cX11_serve 125 = .ok (.goto 4, 3) := by decide +kernel
theorem dX11_serve_128 : decode cX11_serve 128 = .ok (.iload_n 3, 1) := by decide +kernel
theorem dX11_serve_129 : decode cX11_serve 129 = .ok (.iastore, 1) := by decide +kernel
theorem dX11_serve_130 : decode cX11_serve 130 = .ok (.aload_n 0, 1) := by decide +kernel
theorem dX11_serve_131 : decode cX11_serve 131 = .ok (.aload_n 0, 1) := by decide +kernel
theorem dX11_serve_132 : decode cX11_serve 132 = .ok (.iload_n 1, 1) := by decide +kernel
theorem dX11_serve_133 : decode cX11_serve 133 = .ok (.invokevirtual 226, 3) := by decide +kernel
theorem dX11_serve_136 : decode cX11_serve 136 = .ok (.iload_n 2, 1) := by decide +kernel
theorem dX11_serve_137 : decode cX11_serve 137 = .ok (.iconst 1, 1) := by decide +kernel
theorem dX11_serve_138 : decode cX11_serve 138 = .ok (.iload_n 1, 1) := by decide +kernel
theorem dX11_serve_139 : decode cX11_serve 139 = .ok (.iload_n 3, 1) := by decide +kernel
theorem dX11_serve_140 : decode cX11_serve 140 = .ok (.invokevirtual 229, 3) := by decide +kernel
theorem dX11_serve_143 : decode cX11_serve 143 = .ok (.aload_n 0, 1) := by decide +kernel
theorem dX11_serve_144 : decode cX11_serve 144 = .ok (.getfield 108, 3) := by decide +kernel
theorem dX11_serve_147 : decode cX11_serve 147 = .ok (.iload_n 1, 1) := by decide +kernel
theorem dX11_serve_148 : decode cX11_serve 148 = .ok (.dup2, 1) := by decide +kernel
theorem dX11_serve_149 : decode cX11_serve 149 = .ok (.iaload, 1) := by decide +kernel
theorem dX11_serve_150 : decode cX11_serve 150 = .ok (.iconst 1, 1) := by decide +kernel
theorem dX11_serve_151 : decode cX11_serve 151 = .ok (.isub, 1) := by decide +kernel
theorem dX11_serve_152 : decode cX11_serve 152 = .ok (.iastore, 1) := by decide +kernel
theorem dX11_serve_153 : decode cX11_serve 153 = .ok (.bipush 16, 2) := by decide +kernel
theorem dX11_serve_155 : decode cX11_serve 155 = .ok (.iload_n 1, 1) := by decide +kernel
theorem dX11_serve_156 : decode cX11_serve 156 = .ok (.imul, 1) := by decide +kernel
theorem dX11_serve_157 : decode cX11_serve 157 = .ok (.istore 5, 2) := by decide +kernel
theorem dX11_serve_159 : decode cX11_serve 159 = .ok (.iload 5, 2) := by decide +kernel
theorem dX11_serve_161 : decode cX11_serve 161 = .ok (.bipush 16, 2) := by decide +kernel
theorem dX11_serve_163 : decode cX11_serve 163 = .ok (.iload_n 1, 1) := by decide +kernel
theorem dX11_serve_164 : decode cX11_serve 164 = .ok (.imul, 1) := by decide +kernel
theorem dX11_serve_165 : decode cX11_serve 165 = .ok (.aload_n 0, 1) := by decide +kernel
theorem dX11_serve_166 : decode cX11_serve 166 = .ok (.getfield 108, 3) := by decide +kernel
theorem dX11_serve_169 : decode cX11_serve 169 = .ok (.iload_n 1, 1) := by decide +kernel
theorem dX11_serve_170 : decode cX11_serve 170 = .ok (.iaload, 1) := by decide +kernel
theorem dX11_serve_171 : decode cX11_serve 171 = .ok (.iadd, 1) := by decide +kernel
theorem dX11_serve_172 : decode cX11_serve 172 = .ok (.if_icmp .ge 41, 3) := by decide +kernel
theorem dX11_serve_175 : decode cX11_serve 175 = .ok (.aload_n 0, 1) := by decide +kernel
theorem dX11_serve_176 : decode cX11_serve 176 = .ok (.getfield 111, 3) := by decide +kernel
theorem dX11_serve_179 : decode cX11_serve 179 = .ok (.iload 5, 2) := by decide +kernel
theorem dX11_serve_181 : decode cX11_serve 181 = .ok (.aload_n 0, 1) := by decide +kernel
theorem dX11_serve_182 : decode cX11_serve 182 = .ok (.getfield 111, 3) := by decide +kernel
theorem dX11_serve_185 : decode cX11_serve 185 = .ok (.iload 5, 2) := by decide +kernel
theorem dX11_serve_187 : decode cX11_serve 187 = .ok (.iconst 1, 1) := by decide +kernel
theorem dX11_serve_188 : decode cX11_serve 188 = .ok (.iadd, 1) := by decide +kernel
theorem dX11_serve_189 : decode cX11_serve 189 = .ok (.iaload, 1) := by decide +kernel
theorem dX11_serve_190 : decode cX11_serve 190 = .ok (.iastore, 1) := by decide +kernel
theorem dX11_serve_191 : decode cX11_serve 191 = .ok (.aload_n 0, 1) := by decide +kernel
theorem dX11_serve_192 : decode cX11_serve 192 = .ok (.getfield 114, 3) := by decide +kernel
theorem dX11_serve_195 : decode cX11_serve 195 = .ok (.iload 5, 2) := by decide +kernel
theorem dX11_serve_197 : decode cX11_serve 197 = .ok (.aload_n 0, 1) := by decide +kernel
theorem dX11_serve_198 : decode cX11_serve 198 = .ok (.getfield 114, 3) := by decide +kernel
theorem dX11_serve_201 : decode cX11_serve 201 = .ok (.iload 5, 2) := by decide +kernel
theorem dX11_serve_203 : decode cX11_serve 203 = .ok (.iconst 1, 1) := by decide +kernel
theorem dX11_serve_204 : decode cX11_serve 204 = .ok (.iadd, 1) := by decide +kernel
theorem dX11_serve_205 : decode cX11_serve 205 = .ok (.iaload, 1) := by decide +kernel
theorem dX11_serve_206 : decode cX11_serve 206 = .ok (.iastore, 1) := by decide +kernel
theorem dX11_serve_207 : decode cX11_serve 207 = .ok (.iinc 5 1, 3) := by decide +kernel
theorem dX11_serve_210 : decode cX11_serve 210 = .ok (.goto (-51), 3) := by decide +kernel
theorem dX11_serve_213 : decode cX11_serve 213 = .ok (.goto (-213), 3) := by decide +kernel
theorem dX11_serve_216 : decode cX11_serve 216 = .ok (.return_, 1) := by decide +kernel
theorem dX11_against_0 : decode cX11_against 0 = .ok (.iload_n 3, 1) := by decide +kernel
theorem dX11_against_1 : decode cX11_against 1 = .ok (.iconst 2, 1) := by decide +kernel
theorem dX11_against_2 : decode cX11_against 2 = .ok (.if_icmp .ne 24, 3) := by decide +kernel
theorem dX11_against_5 : decode cX11_against 5 = .ok (.aload_n 0, 1) := by decide +kernel
theorem dX11_against_6 : decode cX11_against 6 = .ok (.getfield 102, 3) := by decide +kernel
theorem dX11_against_9 : decode cX11_against 9 = .ok (.iconst 4, 1) := by decide +kernel
theorem dX11_against_10 : decode cX11_against 10 = .ok (.iload_n 1, 1) := by decide +kernel
theorem dX11_against_11 : decode cX11_against 11 = .ok (.imul, 1) := by decide +kernel
theorem dX11_against_12 : decode cX11_against 12 = .ok (.iload_n 2, 1) := by decide +kernel
theorem dX11_against_13 : decode cX11_against 13 = .ok (.iadd, 1) := by decide +kernel
theorem dX11_against_14 : decode cX11_against 14 = .ok (.iaload, 1) := by decide +kernel
theorem dX11_against_15 : decode cX11_against 15 = .ok (.ifCond .le 7, 3) := by decide +kernel
theorem dX11_against_18 : decode cX11_against 18 = .ok (.iconst 1, 1) := by decide +kernel
theorem dX11_against_19 : decode cX11_against 19 = .ok (.goto 26, 3) := by decide +kernel
theorem dX11_against_22 : decode cX11_against 22 = .ok (.iconst 0, 1) := by decide +kernel
theorem dX11_against_23 : decode cX11_against 23 = .ok (.goto 22, 3) := by decide +kernel
theorem dX11_against_26 : decode cX11_against 26 = .ok (.aload_n 0, 1) := by decide +kernel
theorem dX11_against_27 : decode cX11_against 27 = .ok (.getfield 102, 3) := by decide +kernel
theorem dX11_against_30 : decode cX11_against 30 = .ok (.iconst 4, 1) := by decide +kernel
theorem dX11_against_31 : decode cX11_against 31 = .ok (.iload_n 1, 1) := by decide +kernel
theorem dX11_against_32 : decode cX11_against 32 = .ok (.imul, 1) := by decide +kernel
theorem dX11_against_33 : decode cX11_against 33 = .ok (.iload_n 2, 1) := by decide +kernel
theorem dX11_against_34 : decode cX11_against 34 = .ok (.iadd, 1) := by decide +kernel
theorem dX11_against_35 : decode cX11_against 35 = .ok (.iaload, 1) := by decide +kernel
theorem dX11_against_36 : decode cX11_against 36 = .ok (.iconst 2, 1) := by decide +kernel
theorem dX11_against_37 : decode cX11_against 37 = .ok (.if_icmp .ne 7, 3) := by decide +kernel
theorem dX11_against_40 : decode cX11_against 40 = .ok (.iconst 1, 1) := by decide +kernel
theorem dX11_against_41 : decode cX11_against 41 = .ok (.goto 4, 3) := by decide +kernel
theorem dX11_against_44 : decode cX11_against 44 = .ok (.iconst 0, 1) := by decide +kernel
theorem dX11_against_45 : decode cX11_against 45 = .ok (.ireturn, 1) := by decide +kernel
theorem dX11_askBack_0 : decode cX11_askBack 0 = .ok (.iload_n 3, 1) := by decide +kernel
theorem dX11_askBack_1 : decode cX11_askBack 1 = .ok (.iconst 2, 1) := by decide +kernel
theorem dX11_askBack_2 : decode cX11_askBack 2 = .ok (.if_icmp .ne 7, 3) := by decide +kernel
theorem dX11_askBack_5 : decode cX11_askBack 5 = .ok (.iconst 0, 1) := by decide +kernel
theorem dX11_askBack_6 : decode cX11_askBack 6 = .ok (.goto 4, 3) := by decide +kernel
theorem dX11_askBack_9 : decode cX11_askBack 9 = .ok (.iconst 1, 1) := by decide +kernel
theorem dX11_askBack_10 : decode cX11_askBack 10 = .ok (.istore 4, 2) := by decide +kernel
theorem dX11_askBack_12 : decode cX11_askBack 12 = .ok (.iconst 0, 1) := by decide +kernel
theorem dX11_askBack_13 : decode cX11_askBack 13 = .ok (.istore 5, 2) := by decide +kernel
theorem dX11_askBack_15 : decode cX11_askBack 15 = .ok (.iload 5, 2) := by decide +kernel
theorem dX11_askBack_17 : decode cX11_askBack 17 = .ok (.aload_n 0, 1) := by decide +kernel
theorem dX11_askBack_18 : decode cX11_askBack 18 = .ok (.getfield 177, 3) := by decide +kernel
theorem dX11_askBack_21 : decode cX11_askBack 21 = .ok (.if_icmp .ge 93, 3) := by decide +kernel
theorem dX11_askBack_24 : decode cX11_askBack 24 = .ok (.iconst 4, 1) := by decide +kernel
theorem dX11_askBack_25 : decode cX11_askBack 25 = .ok (.iload_n 1, 1) := by decide +kernel
theorem dX11_askBack_26 : decode cX11_askBack 26 = .ok (.imul, 1) := by decide +kernel
theorem dX11_askBack_27 : decode cX11_askBack 27 = .ok (.iload 5, 2) := by decide +kernel
theorem dX11_askBack_29 : decode cX11_askBack 29 = .ok (.iadd, 1) := by decide +kernel
theorem dX11_askBack_30 : decode cX11_askBack 30 = .ok (.istore 6, 2) := by decide +kernel
theorem dX11_askBack_32 : decode cX11_askBack 32 = .ok (.aload_n 0, 1) := by decide +kernel
theorem dX11_askBack_33 : decode cX11_askBack 33 = .ok (.getfield 105, 3) := by decide +kernel
theorem dX11_askBack_36 : decode cX11_askBack 36 = .ok (.iload 6, 2) := by decide +kernel
theorem dX11_askBack_38 : decode cX11_askBack 38 = .ok (.iaload, 1) := by decide +kernel
theorem dX11_askBack_39 : decode cX11_askBack 39 = .ok (.iconst (-1), 1) := by decide +kernel
theorem dX11_askBack_40 : decode cX11_askBack 40 = .ok (.if_icmp .eq 19, 3) := by decide +kernel
theorem dX11_askBack_43 : decode cX11_askBack 43 = .ok (.aload_n 0, 1) := by decide +kernel
theorem dX11_askBack_44 : decode cX11_askBack 44 = .ok (.getfield 105, 3) := by decide +kernel
theorem dX11_askBack_47 : decode cX11_askBack 47 = .ok (.iload 6, 2) := by decide +kernel
theorem dX11_askBack_49 : decode cX11_askBack 49 = .ok (.iaload, 1) := by decide +kernel
theorem dX11_askBack_50 : decode cX11_askBack 50 = .ok (.iload 4, 2) := by decide +kernel
theorem dX11_askBack_52 : decode cX11_askBack 52 = .ok (.if_icmp .gt 7, 3) := by decide +kernel
theorem dX11_askBack_55 : decode cX11_askBack 55 = .ok (.iconst 1, 1) := by decide +kernel
theorem dX11_askBack_56 : decode cX11_askBack 56 = .ok (.goto 4, 3) := by decide +kernel
theorem dX11_askBack_59 : decode cX11_askBack 59 = .ok (.iconst 0, 1) := by decide +kernel
theorem dX11_askBack_60 : decode cX11_askBack 60 = .ok (.istore 7, 2) := by decide +kernel
theorem dX11_askBack_62 : decode cX11_askBack 62 = .ok (.iload 5, 2) := by decide +kernel
theorem dX11_askBack_64 : decode cX11_askBack 64 = .ok (.iload_n 2, 1) := by decide +kernel
theorem dX11_askBack_65 : decode cX11_askBack 65 = .ok (.if_icmp .eq 43, 3) := by decide +kernel
theorem dX11_askBack_68 : decode cX11_askBack 68 = .ok (.aload_n 0, 1) := by decide +kernel
theorem dX11_askBack_69 : decode cX11_askBack 69 = .ok (.iload_n 1, 1) := by decide +kernel
theorem dX11_askBack_70 : decode cX11_askBack 70 = .ok (.iload 5, 2) := by decide +kernel
theorem dX11_askBack_72 : decode cX11_askBack 72 = .ok (.iload_n 3, 1) := by decide +kernel
theorem dX11_askBack_73 : decode cX11_askBack 73 = .ok (.invokevirtual 219, 3) := by decide +kernel
theorem dX11_askBack_76 : decode cX11_askBack 76 = .ok (.ifCond .eq 32, 3) := by decide +kernel
theorem dX11_askBack_79 : decode cX11_askBack 79 = .ok (.iload 7, 2) := by decide +kernel
theorem dX11_askBack_81 : decode cX11_askBack 81 = .ok (.ifCond .ne 27, 3) := by decide +kernel
theorem dX11_askBack_84 : decode cX11_askBack 84 = .ok (.aload_n 0, 1) := by decide +kernel
theorem dX11_askBack_85 : decode cX11_askBack 85 = .ok (.getfield 105, 3) := by decide +kernel
theorem dX11_askBack_88 : decode cX11_askBack 88 = .ok (.iload 6, 2) := by decide +kernel
theorem dX11_askBack_90 : decode cX11_askBack 90 = .ok (.iload 4, 2) := by decide +kernel
theorem dX11_askBack_92 : decode cX11_askBack 92 = .ok (.iastore, 1) := by decide +kernel
theorem dX11_askBack_93 : decode cX11_askBack 93 = .ok (.aload_n 0, 1) := by decide +kernel
theorem dX11_askBack_94 : decode cX11_askBack 94 = .ok (.aload_n 0, 1) := by decide +kernel
theorem dX11_askBack_95 : decode cX11_askBack 95 = .ok (.iload_n 1, 1) := by decide +kernel
theorem dX11_askBack_96 : decode cX11_askBack 96 = .ok (.invokevirtual 226, 3) := by decide +kernel
theorem dX11_askBack_99 : decode cX11_askBack 99 = .ok (.iload 5, 2) := by decide +kernel
theorem dX11_askBack_101 : decode cX11_askBack 101 = .ok (.iconst 2, 1) := by decide +kernel
theorem dX11_askBack_102 : decode cX11_askBack 102 = .ok (.iload_n 1, 1) := by decide +kernel
theorem dX11_askBack_103 : decode cX11_askBack 103 = .ok (.iload 4, 2) := by decide +kernel
theorem dX11_askBack_105 : decode cX11_askBack 105 = .ok (.invokevirtual 229, 3) := by decide +kernel
theorem dX11_askBack_108 : decode cX11_askBack 108 = .ok (.iinc 5 1, 3) := by decide +kernel
theorem dX11_askBack_111 : decode cX11_askBack 111 = .ok (.goto (-96), 3) := by decide +kernel
theorem dX11_askBack_114 : decode cX11_askBack 114 = .ok (.return_, 1) := by decide +kernel
theorem dX11_callBack_0 : decode cX11_callBack 0 = .ok (.iload_n 2, 1) := by decide +kernel
theorem dX11_callBack_1 : decode cX11_callBack 1 = .ok (.iload_n 3, 1) := by decide +kernel
theorem dX11_callBack_2 : decode cX11_callBack 2 = .ok (.invokestatic 208, 3) := by decide +kernel
theorem dX11_callBack_5 : decode cX11_callBack 5 = .ok (.istore 5, 2) := by decide +kernel
theorem dX11_callBack_7 : decode cX11_callBack 7 = .ok (.aload_n 0, 1) := by decide +kernel
theorem dX11_callBack_8 : decode cX11_callBack 8 = .ok (.getfield 48, 3) := by decide +kernel
theorem dX11_callBack_11 : decode cX11_callBack 11 = .ok (.iload 5, 2) := by decide +kernel
theorem dX11_callBack_13 : decode cX11_callBack 13 = .ok (.iaload, 1) := by decide +kernel
theorem dX11_callBack_14 : decode cX11_callBack 14 = .ok (.iload 4, 2) := by decide +kernel
theorem dX11_callBack_16 : decode cX11_callBack 16 = .ok (.if_icmp .gt 19, 3) := by decide +kernel
theorem dX11_callBack_19 : decode cX11_callBack 19 = .ok (.aload_n 0, 1) := by decide +kernel
theorem dX11_callBack_20 : decode cX11_callBack 20 = .ok (.iload_n 2, 1) := by decide +kernel
theorem dX11_callBack_21 : decode cX11_callBack 21 = .ok (.iload_n 1, 1) := by decide +kernel
theorem dX11_callBack_22 : decode cX11_callBack 22 = .ok (.iconst 3, 1) := by decide +kernel
theorem dX11_callBack_23 : decode cX11_callBack 23 = .ok (.iload_n 3, 1) := by decide +kernel
theorem dX11_callBack_24 : decode cX11_callBack 24 = .ok (.aload_n 0, 1) := by decide +kernel
theorem dX11_callBack_25 : decode cX11_callBack 25 = .ok (.getfield 48, 3) := by decide +kernel
theorem dX11_callBack_28 : decode cX11_callBack 28 = .ok (.iload 5, 2) := by decide +kernel
theorem dX11_callBack_30 : decode cX11_callBack 30 = .ok (.iaload, 1) := by decide +kernel
theorem dX11_callBack_31 : decode cX11_callBack 31 = .ok (.invokevirtual 229, 3) := by decide +kernel
theorem dX11_callBack_34 : decode cX11_callBack 34 = .ok (.return_, 1) := by decide +kernel
theorem dX11_callBack_35 : decode cX11_callBack 35 = .ok (.aload_n 0, 1) := by decide +kernel
theorem dX11_callBack_36 : decode cX11_callBack 36 = .ok (.getfield 54, 3) := by decide +kernel
theorem dX11_callBack_39 : decode cX11_callBack 39 = .ok (.iload 5, 2) := by decide +kernel
theorem dX11_callBack_41 : decode cX11_callBack 41 = .ok (.aload_n 0, 1) := by decide +kernel
theorem dX11_callBack_42 : decode cX11_callBack 42 = .ok (.getfield 54, 3) := by decide +kernel
theorem dX11_callBack_45 : decode cX11_callBack 45 = .ok (.iload 5, 2) := by decide +kernel
theorem dX11_callBack_47 : decode cX11_callBack 47 = .ok (.iaload, 1) := by decide +kernel
theorem dX11_callBack_48 : decode cX11_callBack 48 = .ok (.iconst (-1), 1) := by decide +kernel
theorem dX11_callBack_49 : decode cX11_callBack 49 = .ok (.if_icmp .eq 15, 3) := by decide +kernel
theorem dX11_callBack_52 : decode cX11_callBack 52 = .ok (.iload 4, 2) := by decide +kernel
theorem dX11_callBack_54 : decode cX11_callBack 54 = .ok (.aload_n 0, 1) := by decide +kernel
theorem dX11_callBack_55 : decode cX11_callBack 55 = .ok (.getfield 54, 3) := by decide +kernel
theorem dX11_callBack_58 : decode cX11_callBack 58 = .ok (.iload 5, 2) := by decide +kernel
theorem dX11_callBack_60 : decode cX11_callBack 60 = .ok (.iaload, 1) := by decide +kernel
theorem dX11_callBack_61 : decode cX11_callBack 61 = .ok (.if_icmp .ge 8, 3) := by decide +kernel
theorem dX11_callBack_64 : decode cX11_callBack 64 = .ok (.iload 4, 2) := by decide +kernel
theorem dX11_callBack_66 : decode cX11_callBack 66 = .ok (.goto 10, 3) := by decide +kernel
theorem dX11_callBack_69 : decode cX11_callBack 69 = .ok (.aload_n 0, 1) := by decide +kernel
theorem dX11_callBack_70 : decode cX11_callBack 70 = .ok (.getfield 54, 3) := by decide +kernel
theorem dX11_callBack_73 : decode cX11_callBack 73 = .ok (.iload 5, 2) := by decide +kernel
theorem dX11_callBack_75 : decode cX11_callBack 75 = .ok (.iaload, 1) := by decide +kernel
theorem dX11_callBack_76 : decode cX11_callBack 76 = .ok (.iastore, 1) := by decide +kernel
theorem dX11_callBack_77 : decode cX11_callBack 77 = .ok (.aload_n 0, 1) := by decide +kernel
theorem dX11_callBack_78 : decode cX11_callBack 78 = .ok (.getfield 57, 3) := by decide +kernel
theorem dX11_callBack_81 : decode cX11_callBack 81 = .ok (.iload 5, 2) := by decide +kernel
theorem dX11_callBack_83 : decode cX11_callBack 83 = .ok (.baload, 1) := by decide +kernel
theorem dX11_callBack_84 : decode cX11_callBack 84 = .ok (.ifCond .ne 9, 3) := by decide +kernel
theorem dX11_callBack_87 : decode cX11_callBack 87 = .ok (.aload_n 0, 1) := by decide +kernel
theorem dX11_callBack_88 : decode cX11_callBack 88 = .ok (.iload_n 2, 1) := by decide +kernel
theorem dX11_callBack_89 : decode cX11_callBack 89 = .ok (.iload_n 3, 1) := by decide +kernel
theorem dX11_callBack_90 : decode cX11_callBack 90 = .ok (.invokevirtual 233, 3) := by decide +kernel
theorem dX11_callBack_93 : decode cX11_callBack 93 = .ok (.return_, 1) := by decide +kernel
theorem dX11_goDown_0 : decode cX11_goDown 0 = .ok (.iload_n 1, 1) := by decide +kernel
theorem dX11_goDown_1 : decode cX11_goDown 1 = .ok (.iload_n 2, 1) := by decide +kernel
theorem dX11_goDown_2 : decode cX11_goDown 2 = .ok (.invokestatic 208, 3) := by decide +kernel
theorem dX11_goDown_5 : decode cX11_goDown 5 = .ok (.istore_n 3, 1) := by decide +kernel
theorem dX11_goDown_6 : decode cX11_goDown 6 = .ok (.aload_n 0, 1) := by decide +kernel
theorem dX11_goDown_7 : decode cX11_goDown 7 = .ok (.getfield 48, 3) := by decide +kernel
theorem dX11_goDown_10 : decode cX11_goDown 10 = .ok (.iload_n 3, 1) := by decide +kernel
theorem dX11_goDown_11 : decode cX11_goDown 11 = .ok (.iaload, 1) := by decide +kernel
theorem dX11_goDown_12 : decode cX11_goDown 12 = .ok (.iconst 2, 1) := by decide +kernel
theorem dX11_goDown_13 : decode cX11_goDown 13 = .ok (.if_icmp .ne 43, 3) := by decide +kernel
theorem dX11_goDown_16 : decode cX11_goDown 16 = .ok (.aload_n 0, 1) := by decide +kernel
theorem dX11_goDown_17 : decode cX11_goDown 17 = .ok (.getfield 36, 3) := by decide +kernel
theorem dX11_goDown_20 : decode cX11_goDown 20 = .ok (.iload_n 1, 1) := by decide +kernel
theorem dX11_goDown_21 : decode cX11_goDown 21 = .ok (.iaload, 1) := by decide +kernel
theorem dX11_goDown_22 : decode cX11_goDown 22 = .ok (.ifCond .gt 12, 3) := by decide +kernel
theorem dX11_goDown_25 : decode cX11_goDown 25 = .ok (.aload_n 0, 1) := by decide +kernel
theorem dX11_goDown_26 : decode cX11_goDown 26 = .ok (.getfield 30, 3) := by decide +kernel
theorem dX11_goDown_29 : decode cX11_goDown 29 = .ok (.iload_n 1, 1) := by decide +kernel
theorem dX11_goDown_30 : decode cX11_goDown 30 = .ok (.iaload, 1) := by decide +kernel
theorem dX11_goDown_31 : decode cX11_goDown 31 = .ok (.ifCond .le 25, 3) := by decide +kernel
theorem dX11_goDown_34 : decode cX11_goDown 34 = .ok (.aload_n 0, 1) := by decide +kernel
theorem dX11_goDown_35 : decode cX11_goDown 35 = .ok (.getfield 60, 3) := by decide +kernel
theorem dX11_goDown_38 : decode cX11_goDown 38 = .ok (.iload_n 3, 1) := by decide +kernel
theorem dX11_goDown_39 : decode cX11_goDown 39 = .ok (.iconst 1, 1) := by decide +kernel
theorem dX11_goDown_40 : decode cX11_goDown 40 = .ok (.bastore, 1) := by decide +kernel
theorem dX11_goDown_41 : decode cX11_goDown 41 = .ok (.aload_n 0, 1) := by decide +kernel
theorem dX11_goDown_42 : decode cX11_goDown 42 = .ok (.getfield 36, 3) := by decide +kernel
theorem dX11_goDown_45 : decode cX11_goDown 45 = .ok (.iload_n 1, 1) := by decide +kernel
theorem dX11_goDown_46 : decode cX11_goDown 46 = .ok (.iaload, 1) := by decide +kernel
theorem dX11_goDown_47 : decode cX11_goDown 47 = .ok (.ifCond .ne 8, 3) := by decide +kernel
theorem dX11_goDown_50 : decode cX11_goDown 50 = .ok (.aload_n 0, 1) := by decide +kernel
theorem dX11_goDown_51 : decode cX11_goDown 51 = .ok (.iload_n 1, 1) := by decide +kernel
theorem dX11_goDown_52 : decode cX11_goDown 52 = .ok (.invokevirtual 237, 3) := by decide +kernel
theorem dX11_goDown_55 : decode cX11_goDown 55 = .ok (.return_, 1) := by decide +kernel
theorem dX11_goDown_56 : decode cX11_goDown 56 = .ok (.aload_n 0, 1) := by decide +kernel
theorem dX11_goDown_57 : decode cX11_goDown 57 = .ok (.getfield 54, 3) := by decide +kernel
theorem dX11_goDown_60 : decode cX11_goDown 60 = .ok (.iload_n 3, 1) := by decide +kernel
theorem dX11_goDown_61 : decode cX11_goDown 61 = .ok (.iaload, 1) := by decide +kernel
theorem dX11_goDown_62 : decode cX11_goDown 62 = .ok (.istore 4, 2) := by decide +kernel
theorem dX11_goDown_64 : decode cX11_goDown 64 = .ok (.aload_n 0, 1) := by decide +kernel
theorem dX11_goDown_65 : decode cX11_goDown 65 = .ok (.getfield 48, 3) := by decide +kernel
theorem dX11_goDown_68 : decode cX11_goDown 68 = .ok (.iload_n 3, 1) := by decide +kernel
theorem dX11_goDown_69 : decode cX11_goDown 69 = .ok (.iload 4, 2) := by decide +kernel
theorem dX11_goDown_71 : decode cX11_goDown 71 = .ok (.iastore, 1) := by decide +kernel
theorem dX11_goDown_72 : decode cX11_goDown 72 = .ok (.iload 4, 2) := by decide +kernel
theorem dX11_goDown_74 : decode cX11_goDown 74 = .ok (.ifCond .ne 9, 3) := by decide +kernel
theorem dX11_goDown_77 : decode cX11_goDown 77 = .ok (.aload_n 0, 1) := by decide +kernel
theorem dX11_goDown_78 : decode cX11_goDown 78 = .ok (.iload_n 1, 1) := by decide +kernel
theorem dX11_goDown_79 : decode cX11_goDown 79 = .ok (.iload_n 2, 1) := by decide +kernel
theorem dX11_goDown_80 : decode cX11_goDown 80 = .ok (.invokevirtual 240, 3) := by decide +kernel
theorem dX11_goDown_83 : decode cX11_goDown 83 = .ok (.aload_n 0, 1) := by decide +kernel
theorem dX11_goDown_84 : decode cX11_goDown 84 = .ok (.getfield 54, 3) := by decide +kernel
theorem dX11_goDown_87 : decode cX11_goDown 87 = .ok (.iload_n 3, 1) := by decide +kernel
theorem dX11_goDown_88 : decode cX11_goDown 88 = .ok (.iconst (-1), 1) := by decide +kernel
theorem dX11_goDown_89 : decode cX11_goDown 89 = .ok (.iastore, 1) := by decide +kernel
theorem dX11_goDown_90 : decode cX11_goDown 90 = .ok (.aload_n 0, 1) := by decide +kernel
theorem dX11_goDown_91 : decode cX11_goDown 91 = .ok (.getfield 60, 3) := by decide +kernel
theorem dX11_goDown_94 : decode cX11_goDown 94 = .ok (.iload_n 3, 1) := by decide +kernel
theorem dX11_goDown_95 : decode cX11_goDown 95 = .ok (.iconst 0, 1) := by decide +kernel
theorem dX11_goDown_96 : decode cX11_goDown 96 = .ok (.bastore, 1) := by decide +kernel
theorem dX11_goDown_97 : decode cX11_goDown 97 = .ok (.aload_n 0, 1) := by decide +kernel
theorem dX11_goDown_98 : decode cX11_goDown 98 = .ok (.iload_n 1, 1) := by decide +kernel
theorem dX11_goDown_99 : decode cX11_goDown 99 = .ok (.aload_n 0, 1) := by decide +kernel
theorem dX11_goDown_100 : decode cX11_goDown 100 = .ok (.iload_n 2, 1) := by decide +kernel
theorem dX11_goDown_101 : decode cX11_goDown 101 = .ok (.invokevirtual 226, 3) := by decide +kernel
theorem dX11_goDown_104 : decode cX11_goDown 104 = .ok (.iconst 3, 1) := by decide +kernel
theorem dX11_goDown_105 : decode cX11_goDown 105 = .ok (.iload_n 2, 1) := by decide +kernel
theorem dX11_goDown_106 : decode cX11_goDown 106 = .ok (.iload 4, 2) := by decide +kernel
theorem dX11_goDown_108 : decode cX11_goDown 108 = .ok (.invokevirtual 229, 3) := by decide +kernel
theorem dX11_goDown_111 : decode cX11_goDown 111 = .ok (.return_, 1) := by decide +kernel
theorem dX11_leave_0 : decode cX11_leave 0 = .ok (.iload_n 2, 1) := by decide +kernel
theorem dX11_leave_1 : decode cX11_leave 1 = .ok (.iconst 1, 1) := by decide +kernel
theorem dX11_leave_2 : decode cX11_leave 2 = .ok (.sipush 639, 3) := by decide +kernel
theorem dX11_leave_5 : decode cX11_leave 5 = .ok (.invokestatic 243, 3) := by decide +kernel
theorem dX11_leave_8 : decode cX11_leave 8 = .ok (.ifCond .eq 16, 3) := by decide +kernel
theorem dX11_leave_11 : decode cX11_leave 11 = .ok (.aload_n 0, 1) := by decide +kernel
theorem dX11_leave_12 : decode cX11_leave 12 = .ok (.getfield 24, 3) := by decide +kernel
theorem dX11_leave_15 : decode cX11_leave 15 = .ok (.sipush 640, 3) := by decide +kernel
theorem dX11_leave_18 : decode cX11_leave 18 = .ok (.iload_n 1, 1) := by decide +kernel
theorem dX11_leave_19 : decode cX11_leave 19 = .ok (.imul, 1) := by decide +kernel
theorem dX11_leave_20 : decode cX11_leave 20 = .ok (.iload_n 2, 1) := by decide +kernel
theorem dX11_leave_21 : decode cX11_leave 21 = .ok (.iadd, 1) := by decide +kernel
theorem dX11_leave_22 : decode cX11_leave 22 = .ok (.iconst 0, 1) := by decide +kernel
theorem dX11_leave_23 : decode cX11_leave 23 = .ok (.bastore, 1) := by decide +kernel
theorem dX11_leave_24 : decode cX11_leave 24 = .ok (.return_, 1) := by decide +kernel
theorem dX11_forget_0 : decode cX11_forget 0 = .ok (.iload_n 2, 1) := by decide +kernel
theorem dX11_forget_1 : decode cX11_forget 1 = .ok (.sipush 128, 3) := by decide +kernel
theorem dX11_forget_4 : decode cX11_forget 4 = .ok (.if_icmp .lt 17, 3) := by decide +kernel
theorem dX11_forget_7 : decode cX11_forget 7 = .ok (.aload_n 0, 1) := by decide +kernel
theorem dX11_forget_8 : decode cX11_forget 8 = .ok (.iload_n 1, 1) := by decide +kernel
theorem dX11_forget_9 : decode cX11_forget 9 = .ok (.iload_n 2, 1) := by decide +kernel
theorem dX11_forget_10 : decode cX11_forget 10 = .ok (.sipush 128, 3) := by decide +kernel
theorem dX11_forget_13 : decode cX11_forget 13 = .ok (.isub, 1) := by decide +kernel
theorem dX11_forget_14 : decode cX11_forget 14 = .ok (.invokestatic 181, 3) := by decide +kernel
theorem dX11_forget_17 : decode cX11_forget 17 = .ok (.invokevirtual 246, 3) := by decide +kernel
theorem dX11_forget_20 : decode cX11_forget 20 = .ok (.return_, 1) := by decide +kernel
theorem dX11_forget_21 : decode cX11_forget 21 = .ok (.iload_n 2, 1) := by decide +kernel
theorem dX11_forget_22 : decode cX11_forget 22 = .ok (.invokestatic 185, 3) := by decide +kernel
theorem dX11_forget_25 : decode cX11_forget 25 = .ok (.istore_n 3, 1) := by decide +kernel
theorem dX11_forget_26 : decode cX11_forget 26 = .ok (.aload_n 0, 1) := by decide +kernel
theorem dX11_forget_27 : decode cX11_forget 27 = .ok (.getfield 24, 3) := by decide +kernel
theorem dX11_forget_30 : decode cX11_forget 30 = .ok (.sipush 640, 3) := by decide +kernel
theorem dX11_forget_33 : decode cX11_forget 33 = .ok (.iload_n 1, 1) := by decide +kernel
theorem dX11_forget_34 : decode cX11_forget 34 = .ok (.imul, 1) := by decide +kernel
theorem dX11_forget_35 : decode cX11_forget 35 = .ok (.iload_n 3, 1) := by decide +kernel
theorem dX11_forget_36 : decode cX11_forget 36 = .ok (.iadd, 1) := by decide +kernel
theorem dX11_forget_37 : decode cX11_forget 37 = .ok (.baload, 1) := by decide +kernel
theorem dX11_forget_38 : decode cX11_forget 38 = .ok (.ifCond .ne 4, 3) := by decide +kernel
theorem dX11_forget_41 : decode cX11_forget 41 = .ok (.return_, 1) := by decide +kernel
theorem dX11_forget_42 : decode cX11_forget 42 = .ok (.bipush 16, 2) := by decide +kernel
theorem dX11_forget_44 : decode cX11_forget 44 = .ok (.sipush 640, 3) := by decide +kernel
theorem dX11_forget_47 : decode cX11_forget 47 = .ok (.iload_n 1, 1) := by decide +kernel
theorem dX11_forget_48 : decode cX11_forget 48 = .ok (.imul, 1) := by decide +kernel
theorem dX11_forget_49 : decode cX11_forget 49 = .ok (.iload_n 3, 1) := by decide +kernel
theorem dX11_forget_50 : decode cX11_forget 50 = .ok (.iadd, 1) := by decide +kernel
theorem dX11_forget_51 : decode cX11_forget 51 = .ok (.imul, 1) := by decide +kernel
theorem dX11_forget_52 : decode cX11_forget 52 = .ok (.istore 4, 2) := by decide +kernel
theorem dX11_forget_54 : decode cX11_forget 54 = .ok (.iconst 3, 1) := by decide +kernel
theorem dX11_forget_55 : decode cX11_forget 55 = .ok (.istore 5, 2) := by decide +kernel
theorem dX11_forget_57 : decode cX11_forget 57 = .ok (.iload 5, 2) := by decide +kernel
theorem dX11_forget_59 : decode cX11_forget 59 = .ok (.bipush 11, 2) := by decide +kernel
theorem dX11_forget_61 : decode cX11_forget 61 = .ok (.if_icmp .ge 24, 3) := by decide +kernel
theorem dX11_forget_64 : decode cX11_forget 64 = .ok (.aload_n 0, 1) := by decide +kernel
theorem dX11_forget_65 : decode cX11_forget 65 = .ok (.iload_n 1, 1) := by decide +kernel
theorem dX11_forget_66 : decode cX11_forget 66 = .ok (.aload_n 0, 1) := by decide +kernel
theorem dX11_forget_67 : decode cX11_forget 67 = .ok (.getfield 21, 3) := by decide +kernel
theorem dX11_forget_70 : decode cX11_forget 70 = .ok (.iload 4, 2) := by decide +kernel
theorem dX11_forget_72 : decode cX11_forget 72 = .ok (.iload 5, 2) := by decide +kernel
theorem dX11_forget_74 : decode cX11_forget 74 = .ok (.iadd, 1) := by decide +kernel
theorem dX11_forget_75 : decode cX11_forget 75 = .ok (.iaload, 1) := by decide +kernel
theorem dX11_forget_76 : decode cX11_forget 76 = .ok (.invokevirtual 246, 3) := by decide +kernel
theorem dX11_forget_79 : decode cX11_forget 79 = .ok (.iinc 5 1, 3) := by decide +kernel
theorem dX11_forget_82 : decode cX11_forget 82 = .ok (.goto (-25), 3) := by decide +kernel
theorem dX11_forget_85 : decode cX11_forget 85 = .ok (.aload_n 0, 1) := by decide +kernel
theorem dX11_forget_86 : decode cX11_forget 86 = .ok (.getfield 21, 3) := by decide +kernel
theorem dX11_forget_89 : decode cX11_forget 89 = .ok (.iload 4, 2) := by decide +kernel
theorem dX11_forget_91 : decode cX11_forget 91 = .ok (.bipush 11, 2) := by decide +kernel
theorem dX11_forget_93 : decode cX11_forget 93 = .ok (.iadd, 1) := by decide +kernel
theorem dX11_forget_94 : decode cX11_forget 94 = .ok (.iaload, 1) := by decide +kernel
theorem dX11_forget_95 : decode cX11_forget 95 = .ok (.istore 5, 2) := by decide +kernel
theorem dX11_forget_97 : decode cX11_forget 97 = .ok (.iload 5, 2) := by decide +kernel
theorem dX11_forget_99 : decode cX11_forget 99 = .ok (.iconst 1, 1) := by decide +kernel
theorem dX11_forget_100 : decode cX11_forget 100 = .ok (.sipush 639, 3) := by decide +kernel
theorem dX11_forget_103 : decode cX11_forget 103 = .ok (.invokestatic 243, 3) := by decide +kernel
theorem dX11_forget_106 : decode cX11_forget 106 = .ok (.ifCond .eq 59, 3) := by decide +kernel
theorem dX11_forget_109 : decode cX11_forget 109 = .ok (.aload_n 0, 1) := by decide +kernel
theorem dX11_forget_110 : decode cX11_forget 110 = .ok (.getfield 24, 3) := by decide +kernel
theorem dX11_forget_113 : decode cX11_forget 113 = .ok (.sipush 640, 3) := by decide +kernel
theorem dX11_forget_116 : decode cX11_forget 116 = .ok (.iload_n 1, 1) := by decide +kernel
theorem dX11_forget_117 : decode cX11_forget 117 = .ok (.imul, 1) := by decide +kernel
theorem dX11_forget_118 : decode cX11_forget 118 = .ok (.iload 5, 2) := by decide +kernel
theorem dX11_forget_120 : decode cX11_forget 120 = .ok (.iadd, 1) := by decide +kernel
theorem dX11_forget_121 : decode cX11_forget 121 = .ok (.baload, 1) := by decide +kernel
theorem dX11_forget_122 : decode cX11_forget 122 = .ok (.ifCond .eq 43, 3) := by decide +kernel
theorem dX11_forget_125 : decode cX11_forget 125 = .ok (.iconst 0, 1) := by decide +kernel
theorem dX11_forget_126 : decode cX11_forget 126 = .ok (.istore 6, 2) := by decide +kernel
theorem dX11_forget_128 : decode cX11_forget 128 = .ok (.iload 6, 2) := by decide +kernel
theorem dX11_forget_130 : decode cX11_forget 130 = .ok (.bipush 16, 2) := by decide +kernel
theorem dX11_forget_132 : decode cX11_forget 132 = .ok (.if_icmp .ge 33, 3) := by decide +kernel
theorem dX11_forget_135 : decode cX11_forget 135 = .ok (.aload_n 0, 1) := by decide +kernel
theorem dX11_forget_136 : decode cX11_forget 136 = .ok (.iload_n 1, 1) := by decide +kernel
theorem dX11_forget_137 : decode cX11_forget 137 = .ok (.aload_n 0, 1) := by decide +kernel
theorem dX11_forget_138 : decode cX11_forget 138 = .ok (.getfield 21, 3) := by decide +kernel
theorem dX11_forget_141 : decode cX11_forget 141 = .ok (.bipush 16, 2) := by decide +kernel
theorem dX11_forget_143 : decode cX11_forget 143 = .ok (.sipush 640, 3) := by decide +kernel
theorem dX11_forget_146 : decode cX11_forget 146 = .ok (.iload_n 1, 1) := by decide +kernel
theorem dX11_forget_147 : decode cX11_forget 147 = .ok (.imul, 1) := by decide +kernel
theorem dX11_forget_148 : decode cX11_forget 148 = .ok (.iload 5, 2) := by decide +kernel
theorem dX11_forget_150 : decode cX11_forget 150 = .ok (.iadd, 1) := by decide +kernel
theorem dX11_forget_151 : decode cX11_forget 151 = .ok (.imul, 1) := by decide +kernel
theorem dX11_forget_152 : decode cX11_forget 152 = .ok (.iload 6, 2) := by decide +kernel
theorem dX11_forget_154 : decode cX11_forget 154 = .ok (.iadd, 1) := by decide +kernel
theorem dX11_forget_155 : decode cX11_forget 155 = .ok (.iaload, 1) := by decide +kernel
theorem dX11_forget_156 : decode cX11_forget 156 = .ok (.invokevirtual 246, 3) := by decide +kernel
theorem dX11_forget_159 : decode cX11_forget 159 = .ok (.iinc 6 1, 3) := by decide +kernel
theorem dX11_forget_162 : decode cX11_forget 162 = .ok (.goto (-34), 3) := by decide +kernel
theorem dX11_forget_165 : decode cX11_forget 165 = .ok (.aload_n 0, 1) := by decide +kernel
theorem dX11_forget_166 : decode cX11_forget 166 = .ok (.iload_n 1, 1) := by decide +kernel
theorem dX11_forget_167 : decode cX11_forget 167 = .ok (.iload 5, 2) := by decide +kernel
theorem dX11_forget_169 : decode cX11_forget 169 = .ok (.invokevirtual 246, 3) := by decide +kernel
theorem dX11_forget_172 : decode cX11_forget 172 = .ok (.aload_n 0, 1) := by decide +kernel
theorem dX11_forget_173 : decode cX11_forget 173 = .ok (.iload_n 1, 1) := by decide +kernel
theorem dX11_forget_174 : decode cX11_forget 174 = .ok (.iload_n 3, 1) := by decide +kernel
theorem dX11_forget_175 : decode cX11_forget 175 = .ok (.invokevirtual 246, 3) := by decide +kernel
theorem dX11_forget_178 : decode cX11_forget 178 = .ok (.return_, 1) := by decide +kernel
theorem dX11_addWrite_0 : decode cX11_addWrite 0 = .ok (.bipush 36, 2) := by decide +kernel
theorem dX11_addWrite_2 : decode cX11_addWrite 2 = .ok (.iload_n 1, 1) := by decide +kernel
theorem dX11_addWrite_3 : decode cX11_addWrite 3 = .ok (.imul, 1) := by decide +kernel
theorem dX11_addWrite_4 : decode cX11_addWrite 4 = .ok (.aload_n 0, 1) := by decide +kernel
theorem dX11_addWrite_5 : decode cX11_addWrite 5 = .ok (.getfield 36, 3) := by decide +kernel
theorem dX11_addWrite_8 : decode cX11_addWrite 8 = .ok (.iload_n 1, 1) := by decide +kernel
theorem dX11_addWrite_9 : decode cX11_addWrite 9 = .ok (.iaload, 1) := by decide +kernel
theorem dX11_addWrite_10 : decode cX11_addWrite 10 = .ok (.iadd, 1) := by decide +kernel
theorem dX11_addWrite_11 : decode cX11_addWrite 11 = .ok (.istore_n 3, 1) := by decide +kernel
theorem dX11_addWrite_12 : decode cX11_addWrite 12 = .ok (.aload_n 0, 1) := by decide +kernel
theorem dX11_addWrite_13 : decode cX11_addWrite 13 = .ok (.getfield 42, 3) := by decide +kernel
theorem dX11_addWrite_16 : decode cX11_addWrite 16 = .ok (.iload_n 3, 1) := by decide +kernel
theorem dX11_addWrite_17 : decode cX11_addWrite 17 = .ok (.iload_n 2, 1) := by decide +kernel
theorem dX11_addWrite_18 : decode cX11_addWrite 18 = .ok (.iastore, 1) := by decide +kernel
theorem dX11_addWrite_19 : decode cX11_addWrite 19 = .ok (.iconst 0, 1) := by decide +kernel
theorem dX11_addWrite_20 : decode cX11_addWrite 20 = .ok (.istore 4, 2) := by decide +kernel
theorem dX11_addWrite_22 : decode cX11_addWrite 22 = .ok (.iload 4, 2) := by decide +kernel
theorem dX11_addWrite_24 : decode cX11_addWrite 24 = .ok (.bipush 16, 2) := by decide +kernel
theorem dX11_addWrite_26 : decode cX11_addWrite 26 = .ok (.if_icmp .ge 22, 3) := by decide +kernel
theorem dX11_addWrite_29 : decode cX11_addWrite 29 = .ok (.aload_n 0, 1) := by decide +kernel
theorem dX11_addWrite_30 : decode cX11_addWrite 30 = .ok (.getfield 45, 3) := by decide +kernel
theorem dX11_addWrite_33 : decode cX11_addWrite 33 = .ok (.bipush 16, 2) := by decide +kernel
theorem dX11_addWrite_35 : decode cX11_addWrite 35 = .ok (.iload_n 3, 1) := by decide +kernel
theorem dX11_addWrite_36 : decode cX11_addWrite 36 = .ok (.imul, 1) := by decide +kernel
theorem dX11_addWrite_37 : decode cX11_addWrite 37 = .ok (.iload 4, 2) := by decide +kernel
theorem dX11_addWrite_39 : decode cX11_addWrite 39 = .ok (.iadd, 1) := by decide +kernel
theorem dX11_addWrite_40 : decode cX11_addWrite 40 = .ok (.iconst 0, 1) := by decide +kernel
theorem dX11_addWrite_41 : decode cX11_addWrite 41 = .ok (.iastore, 1) := by decide +kernel
theorem dX11_addWrite_42 : decode cX11_addWrite 42 = .ok (.iinc 4 1, 3) := by decide +kernel
theorem dX11_addWrite_45 : decode cX11_addWrite 45 = .ok (.goto (-23), 3) := by decide +kernel
theorem dX11_addWrite_48 : decode cX11_addWrite 48 = .ok (.aload_n 0, 1) := by decide +kernel
theorem dX11_addWrite_49 : decode cX11_addWrite 49 = .ok (.getfield 36, 3) := by decide +kernel
theorem dX11_addWrite_52 : decode cX11_addWrite 52 = .ok (.iload_n 1, 1) := by decide +kernel
theorem dX11_addWrite_53 : decode cX11_addWrite 53 = .ok (.dup2, 1) := by decide +kernel
theorem dX11_addWrite_54 : decode cX11_addWrite 54 = .ok (.iaload, 1) := by decide +kernel
theorem dX11_addWrite_55 : decode cX11_addWrite 55 = .ok (.iconst 1, 1) := by decide +kernel
theorem dX11_addWrite_56 : decode cX11_addWrite 56 = .ok (.iadd, 1) := by decide +kernel
theorem dX11_addWrite_57 : decode cX11_addWrite 57 = .ok (.iastore, 1) := by decide +kernel
theorem dX11_addWrite_58 : decode cX11_addWrite 58 = .ok (.return_, 1) := by decide +kernel
theorem dX11_writeWord_0 : decode cX11_writeWord 0 = .ok (.aload_n 0, 1) := by decide +kernel
theorem dX11_writeWord_1 : decode cX11_writeWord 1 = .ok (.getfield 45, 3) := by decide +kernel
theorem dX11_writeWord_4 : decode cX11_writeWord 4 = .ok (.bipush 16, 2) := by decide +kernel
theorem dX11_writeWord_6 : decode cX11_writeWord 6 = .ok (.bipush 36, 2) := by decide +kernel
theorem dX11_writeWord_8 : decode cX11_writeWord 8 = .ok (.iload_n 1, 1) := by decide +kernel
theorem dX11_writeWord_9 : decode cX11_writeWord 9 = .ok (.imul, 1) := by decide +kernel
theorem dX11_writeWord_10 : decode cX11_writeWord 10 = .ok (.iload_n 2, 1) := by decide +kernel
theorem dX11_writeWord_11 : decode cX11_writeWord 11 = .ok (.iadd, 1) := by decide +kernel
theorem dX11_writeWord_12 : decode cX11_writeWord 12 = .ok (.imul, 1) := by decide +kernel
theorem dX11_writeWord_13 : decode cX11_writeWord 13 = .ok (.iload_n 3, 1) := by decide +kernel
theorem dX11_writeWord_14 : decode cX11_writeWord 14 = .ok (.iadd, 1) := by decide +kernel
theorem dX11_writeWord_15 : decode cX11_writeWord 15 = .ok (.iload 4, 2) := by decide +kernel
theorem dX11_writeWord_17 : decode cX11_writeWord 17 = .ok (.iastore, 1) := by decide +kernel
theorem dX11_writeWord_18 : decode cX11_writeWord 18 = .ok (.return_, 1) := by decide +kernel
theorem dX11_addCopy_0 : decode cX11_addCopy 0 = .ok (.aload_n 0, 1) := by decide +kernel
theorem dX11_addCopy_1 : decode cX11_addCopy 1 = .ok (.iload_n 1, 1) := by decide +kernel
theorem dX11_addCopy_2 : decode cX11_addCopy 2 = .ok (.iload_n 2, 1) := by decide +kernel
theorem dX11_addCopy_3 : decode cX11_addCopy 3 = .ok (.invokevirtual 249, 3) := by decide +kernel
theorem dX11_addCopy_6 : decode cX11_addCopy 6 = .ok (.iconst 0, 1) := by decide +kernel
theorem dX11_addCopy_7 : decode cX11_addCopy 7 = .ok (.istore 4, 2) := by decide +kernel
theorem dX11_addCopy_9 : decode cX11_addCopy 9 = .ok (.iload 4, 2) := by decide +kernel
theorem dX11_addCopy_11 : decode cX11_addCopy 11 = .ok (.bipush 16, 2) := by decide +kernel
theorem dX11_addCopy_13 : decode cX11_addCopy 13 = .ok (.if_icmp .ge 42, 3) := by decide +kernel
theorem dX11_addCopy_16 : decode cX11_addCopy 16 = .ok (.aload_n 0, 1) := by decide +kernel
theorem dX11_addCopy_17 : decode cX11_addCopy 17 = .ok (.iload_n 1, 1) := by decide +kernel
theorem dX11_addCopy_18 : decode cX11_addCopy 18 = .ok (.aload_n 0, 1) := by decide +kernel
theorem dX11_addCopy_19 : decode cX11_addCopy 19 = .ok (.getfield 36, 3) := by decide +kernel
theorem dX11_addCopy_22 : decode cX11_addCopy 22 = .ok (.iload_n 1, 1) := by decide +kernel
theorem dX11_addCopy_23 : decode cX11_addCopy 23 = .ok (.iaload, 1) := by decide +kernel
theorem dX11_addCopy_24 : decode cX11_addCopy 24 = .ok (.iconst 1, 1) := by decide +kernel
theorem dX11_addCopy_25 : decode cX11_addCopy 25 = .ok (.isub, 1) := by decide +kernel
theorem dX11_addCopy_26 : decode cX11_addCopy 26 = .ok (.iload 4, 2) := by decide +kernel
theorem dX11_addCopy_28 : decode cX11_addCopy 28 = .ok (.aload_n 0, 1) := by decide +kernel
theorem dX11_addCopy_29 : decode cX11_addCopy 29 = .ok (.getfield 21, 3) := by decide +kernel
theorem dX11_addCopy_32 : decode cX11_addCopy 32 = .ok (.bipush 16, 2) := by decide +kernel
theorem dX11_addCopy_34 : decode cX11_addCopy 34 = .ok (.sipush 640, 3) := by decide +kernel
theorem dX11_addCopy_37 : decode cX11_addCopy 37 = .ok (.iload_n 1, 1) := by decide +kernel
theorem dX11_addCopy_38 : decode cX11_addCopy 38 = .ok (.imul, 1) := by decide +kernel
theorem dX11_addCopy_39 : decode cX11_addCopy 39 = .ok (.iload_n 3, 1) := by decide +kernel
theorem dX11_addCopy_40 : decode cX11_addCopy 40 = .ok (.iadd, 1) := by decide +kernel
theorem dX11_addCopy_41 : decode cX11_addCopy 41 = .ok (.imul, 1) := by decide +kernel
theorem dX11_addCopy_42 : decode cX11_addCopy 42 = .ok (.iload 4, 2) := by decide +kernel
theorem dX11_addCopy_44 : decode cX11_addCopy 44 = .ok (.iadd, 1) := by decide +kernel
theorem dX11_addCopy_45 : decode cX11_addCopy 45 = .ok (.iaload, 1) := by decide +kernel
theorem dX11_addCopy_46 : decode cX11_addCopy 46 = .ok (.invokevirtual 252, 3) := by decide +kernel
theorem dX11_addCopy_49 : decode cX11_addCopy 49 = .ok (.iinc 4 1, 3) := by decide +kernel
theorem dX11_addCopy_52 : decode cX11_addCopy 52 = .ok (.goto (-43), 3) := by decide +kernel
theorem dX11_addCopy_55 : decode cX11_addCopy 55 = .ok (.return_, 1) := by decide +kernel
theorem dX11_beginFlush_0 : decode cX11_beginFlush 0 = .ok (.aload_n 0, 1) := by decide +kernel
theorem dX11_beginFlush_1 : decode cX11_beginFlush 1 = .ok (.getfield 33, 3) := by decide +kernel
theorem dX11_beginFlush_4 : decode cX11_beginFlush 4 = .ok (.iload_n 1, 1) := by decide +kernel
theorem dX11_beginFlush_5 : decode cX11_beginFlush 5 = .ok (.dup2, 1) := by decide +kernel
theorem dX11_beginFlush_6 : decode cX11_beginFlush 6 = .ok (.iaload, 1) := by decide +kernel
theorem dX11_beginFlush_7 : decode cX11_beginFlush 7 = .ok (.iconst 1, 1) := by decide +kernel
theorem dX11_beginFlush_8 : decode cX11_beginFlush 8 = .ok (.iadd, 1) := by decide +kernel
theorem dX11_beginFlush_9 : decode cX11_beginFlush 9 = .ok (.iastore, 1) := by decide +kernel
theorem dX11_beginFlush_10 : decode cX11_beginFlush 10 = .ok (.aload_n 0, 1) := by decide +kernel
theorem dX11_beginFlush_11 : decode cX11_beginFlush 11 = .ok (.getfield 36, 3) := by decide +kernel
theorem dX11_beginFlush_14 : decode cX11_beginFlush 14 = .ok (.iload_n 1, 1) := by decide +kernel
theorem dX11_beginFlush_15 : decode cX11_beginFlush 15 = .ok (.iconst 0, 1) := by decide +kernel
theorem dX11_beginFlush_16 : decode cX11_beginFlush 16 = .ok (.iastore, 1) := by decide +kernel
theorem dX11_beginFlush_17 : decode cX11_beginFlush 17 = .ok (.aload_n 0, 1) := by decide +kernel
theorem dX11_beginFlush_18 : decode cX11_beginFlush 18 = .ok (.getfield 39, 3) := by decide +kernel
theorem dX11_beginFlush_21 : decode cX11_beginFlush 21 = .ok (.iload_n 1, 1) := by decide +kernel
theorem dX11_beginFlush_22 : decode cX11_beginFlush 22 = .ok (.iconst 0, 1) := by decide +kernel
theorem dX11_beginFlush_23 : decode cX11_beginFlush 23 = .ok (.iastore, 1) := by decide +kernel
theorem dX11_beginFlush_24 : decode cX11_beginFlush 24 = .ok (.iconst 1, 1) := by decide +kernel
theorem dX11_beginFlush_25 : decode cX11_beginFlush 25 = .ok (.bipush 24, 2) := by decide +kernel
theorem dX11_beginFlush_27 : decode cX11_beginFlush 27 = .ok (.iload_n 1, 1) := by decide +kernel
theorem dX11_beginFlush_28 : decode cX11_beginFlush 28 = .ok (.imul, 1) := by decide +kernel
theorem dX11_beginFlush_29 : decode cX11_beginFlush 29 = .ok (.iadd, 1) := by decide +kernel
theorem dX11_beginFlush_30 : decode cX11_beginFlush 30 = .ok (.istore_n 2, 1) := by decide +kernel
theorem dX11_beginFlush_31 : decode cX11_beginFlush 31 = .ok (.iconst 0, 1) := by decide +kernel
theorem dX11_beginFlush_32 : decode cX11_beginFlush 32 = .ok (.istore_n 3, 1) := by decide +kernel
theorem dX11_beginFlush_33 : decode cX11_beginFlush 33 = .ok (.iconst 0, 1) := by decide +kernel
theorem dX11_beginFlush_34 : decode cX11_beginFlush 34 = .ok (.istore 4, 2) := by decide +kernel
theorem dX11_beginFlush_36 : decode cX11_beginFlush 36 = .ok (.iload 4, 2) := by decide +kernel
theorem dX11_beginFlush_38 : decode cX11_beginFlush 38 = .ok (.sipush 640, 3) := by decide +kernel
theorem dX11_beginFlush_41 : decode cX11_beginFlush 41 = .ok (.if_icmp .ge 40, 3) := by decide +kernel
theorem dX11_beginFlush_44 : decode cX11_beginFlush 44 = .ok (.aload_n 0, 1) := by decide +kernel
theorem dX11_beginFlush_45 : decode cX11_beginFlush 45 = .ok (.getfield 27, 3) := by decide +kernel
theorem dX11_beginFlush_48 : decode cX11_beginFlush 48 = .ok (.sipush 640, 3) := by decide +kernel
theorem dX11_beginFlush_51 : decode cX11_beginFlush 51 = .ok (.iload_n 1, 1) := by decide +kernel
theorem dX11_beginFlush_52 : decode cX11_beginFlush 52 = .ok (.imul, 1) := by decide +kernel
theorem dX11_beginFlush_53 : decode cX11_beginFlush 53 = .ok (.iload 4, 2) := by decide +kernel
theorem dX11_beginFlush_55 : decode cX11_beginFlush 55 = .ok (.iadd, 1) := by decide +kernel
theorem dX11_beginFlush_56 : decode cX11_beginFlush 56 = .ok (.baload, 1) := by decide +kernel
theorem dX11_beginFlush_57 : decode cX11_beginFlush 57 = .ok (.ifCond .eq 18, 3) := by decide +kernel
theorem dX11_beginFlush_60 : decode cX11_beginFlush 60 = .ok (.aload_n 0, 1) := by decide +kernel
theorem dX11_beginFlush_61 : decode cX11_beginFlush 61 = .ok (.iload_n 1, 1) := by decide +kernel
theorem dX11_beginFlush_62 : decode cX11_beginFlush 62 = .ok (.iload_n 2, 1) := by decide +kernel
theorem dX11_beginFlush_63 : decode cX11_beginFlush 63 = .ok (.iconst 2, 1) := by decide +kernel
theorem dX11_beginFlush_64 : decode cX11_beginFlush 64 = .ok (.iadd, 1) := by decide +kernel
theorem dX11_beginFlush_65 : decode cX11_beginFlush 65 = .ok (.iload_n 3, 1) := by decide +kernel
theorem dX11_beginFlush_66 : decode cX11_beginFlush 66 = .ok (.iadd, 1) := by decide +kernel
theorem dX11_beginFlush_67 : decode cX11_beginFlush 67 = .ok (.iload 4, 2) := by decide +kernel
theorem dX11_beginFlush_69 : decode cX11_beginFlush 69 = .ok (.invokevirtual 255, 3) := by decide +kernel
theorem dX11_beginFlush_72 : decode cX11_beginFlush 72 = .ok (.iinc 3 1, 3) := by decide +kernel
theorem dX11_beginFlush_75 : decode cX11_beginFlush 75 = .ok (.iinc 4 1, 3) := by decide +kernel
theorem dX11_beginFlush_78 : decode cX11_beginFlush 78 = .ok (.goto (-42), 3) := by decide +kernel
theorem dX11_beginFlush_81 : decode cX11_beginFlush 81 = .ok (.aload_n 0, 1) := by decide +kernel
theorem dX11_beginFlush_82 : decode cX11_beginFlush 82 = .ok (.iload_n 1, 1) := by decide +kernel
theorem dX11_beginFlush_83 : decode cX11_beginFlush 83 = .ok (.iload_n 2, 1) := by decide +kernel
theorem dX11_beginFlush_84 : decode cX11_beginFlush 84 = .ok (.iconst 1, 1) := by decide +kernel
theorem dX11_beginFlush_85 : decode cX11_beginFlush 85 = .ok (.iadd, 1) := by decide +kernel
theorem dX11_beginFlush_86 : decode cX11_beginFlush 86 = .ok (.invokevirtual 249, 3) := by decide +kernel
theorem dX11_beginFlush_89 : decode cX11_beginFlush 89 = .ok (.aload_n 0, 1) := by decide +kernel
theorem dX11_beginFlush_90 : decode cX11_beginFlush 90 = .ok (.getfield 36, 3) := by decide +kernel
theorem dX11_beginFlush_93 : decode cX11_beginFlush 93 = .ok (.iload_n 1, 1) := by decide +kernel
theorem dX11_beginFlush_94 : decode cX11_beginFlush 94 = .ok (.iaload, 1) := by decide +kernel
theorem dX11_beginFlush_95 : decode cX11_beginFlush 95 = .ok (.iconst 1, 1) := by decide +kernel
theorem dX11_beginFlush_96 : decode cX11_beginFlush 96 = .ok (.isub, 1) := by decide +kernel
theorem dX11_beginFlush_97 : decode cX11_beginFlush 97 = .ok (.istore 4, 2) := by decide +kernel
theorem dX11_beginFlush_99 : decode cX11_beginFlush 99 = .ok (.iconst 0, 1) := by decide +kernel
theorem dX11_beginFlush_100 : decode cX11_beginFlush 100 = .ok (.istore 5, 2) := by decide +kernel
theorem dX11_beginFlush_102 : decode cX11_beginFlush 102 = .ok (.iconst 0, 1) := by decide +kernel
theorem dX11_beginFlush_103 : decode cX11_beginFlush 103 = .ok (.istore 6, 2) := by decide +kernel
theorem dX11_beginFlush_105 : decode cX11_beginFlush 105 = .ok (.iload 6, 2) := by decide +kernel
theorem dX11_beginFlush_107 : decode cX11_beginFlush 107 = .ok (.sipush 640, 3) := by decide +kernel
theorem dX11_beginFlush_110 : decode cX11_beginFlush 110 = .ok (.if_icmp .ge 39, 3) := by decide +kernel
theorem dX11_beginFlush_113 : decode cX11_beginFlush 113 = .ok (.aload_n 0, 1) := by decide +kernel
theorem dX11_beginFlush_114 : decode cX11_beginFlush 114 = .ok (.getfield 27, 3) := by decide +kernel
theorem dX11_beginFlush_117 : decode cX11_beginFlush 117 = .ok (.sipush 640, 3) := by decide +kernel
theorem dX11_beginFlush_120 : decode cX11_beginFlush 120 = .ok (.iload_n 1, 1) := by decide +kernel
theorem dX11_beginFlush_121 : decode cX11_beginFlush 121 = .ok (.imul, 1) := by decide +kernel
theorem dX11_beginFlush_122 : decode cX11_beginFlush 122 = .ok (.iload 6, 2) := by decide +kernel
theorem dX11_beginFlush_124 : decode cX11_beginFlush 124 = .ok (.iadd, 1) := by decide +kernel
theorem dX11_beginFlush_125 : decode cX11_beginFlush 125 = .ok (.baload, 1) := by decide +kernel
theorem dX11_beginFlush_126 : decode cX11_beginFlush 126 = .ok (.ifCond .eq 17, 3) := by decide +kernel
theorem dX11_beginFlush_129 : decode cX11_beginFlush 129 = .ok (.aload_n 0, 1) := by decide +kernel
theorem dX11_beginFlush_130 : decode cX11_beginFlush 130 = .ok (.iload_n 1, 1) := by decide +kernel
theorem dX11_beginFlush_131 : decode cX11_beginFlush 131 = .ok (.iload 4, 2) := by decide +kernel
theorem dX11_beginFlush_133 : decode cX11_beginFlush 133 = .ok (.iload 5, 2) := by decide +kernel
theorem dX11_beginFlush_135 : decode cX11_beginFlush 135 = .ok (.iload 6, 2) := by decide +kernel
theorem dX11_beginFlush_137 : decode cX11_beginFlush 137 = .ok (.invokevirtual 252, 3) := by decide +kernel
theorem dX11_beginFlush_140 : decode cX11_beginFlush 140 = .ok (.iinc 5 1, 3) := by decide +kernel
theorem dX11_beginFlush_143 : decode cX11_beginFlush 143 = .ok (.iinc 6 1, 3) := by decide +kernel
theorem dX11_beginFlush_146 : decode cX11_beginFlush 146 = .ok (.goto (-41), 3) := by decide +kernel
theorem dX11_beginFlush_149 : decode cX11_beginFlush 149 = .ok (.aload_n 0, 1) := by decide +kernel
theorem dX11_beginFlush_150 : decode cX11_beginFlush 150 = .ok (.iload_n 1, 1) := by decide +kernel
theorem dX11_beginFlush_151 : decode cX11_beginFlush 151 = .ok (.iload_n 3, 1) := by decide +kernel
theorem dX11_beginFlush_152 : decode cX11_beginFlush 152 = .ok (.iconst 1, 1) := by decide +kernel
theorem dX11_beginFlush_153 : decode cX11_beginFlush 153 = .ok (.invokevirtual 258, 3) := by decide +kernel
theorem dX11_beginFlush_156 : decode cX11_beginFlush 156 = .ok (.iconst 0, 1) := by decide +kernel
theorem dX11_beginFlush_157 : decode cX11_beginFlush 157 = .ok (.istore 6, 2) := by decide +kernel
theorem dX11_beginFlush_159 : decode cX11_beginFlush 159 = .ok (.iload 6, 2) := by decide +kernel
theorem dX11_beginFlush_161 : decode cX11_beginFlush 161 = .ok (.sipush 640, 3) := by decide +kernel
theorem dX11_beginFlush_164 : decode cX11_beginFlush 164 = .ok (.if_icmp .ge 48, 3) := by decide +kernel
theorem dX11_beginFlush_167 : decode cX11_beginFlush 167 = .ok (.aload_n 0, 1) := by decide +kernel
theorem dX11_beginFlush_168 : decode cX11_beginFlush 168 = .ok (.getfield 27, 3) := by decide +kernel
theorem dX11_beginFlush_171 : decode cX11_beginFlush 171 = .ok (.sipush 640, 3) := by decide +kernel
theorem dX11_beginFlush_174 : decode cX11_beginFlush 174 = .ok (.iload_n 1, 1) := by decide +kernel
theorem dX11_beginFlush_175 : decode cX11_beginFlush 175 = .ok (.imul, 1) := by decide +kernel
theorem dX11_beginFlush_176 : decode cX11_beginFlush 176 = .ok (.iload 6, 2) := by decide +kernel
theorem dX11_beginFlush_178 : decode cX11_beginFlush 178 = .ok (.iadd, 1) := by decide +kernel
theorem dX11_beginFlush_179 : decode cX11_beginFlush 179 = .ok (.baload, 1) := by decide +kernel
theorem dX11_beginFlush_180 : decode cX11_beginFlush 180 = .ok (.ifCond .eq 26, 3) := by decide +kernel
theorem dX11_beginFlush_183 : decode cX11_beginFlush 183 = .ok (.aload_n 0, 1) := by decide +kernel
theorem dX11_beginFlush_184 : decode cX11_beginFlush 184 = .ok (.iload_n 1, 1) := by decide +kernel
theorem dX11_beginFlush_185 : decode cX11_beginFlush 185 = .ok (.iload 6, 2) := by decide +kernel
theorem dX11_beginFlush_187 : decode cX11_beginFlush 187 = .ok (.iload 6, 2) := by decide +kernel
theorem dX11_beginFlush_189 : decode cX11_beginFlush 189 = .ok (.invokevirtual 255, 3) := by decide +kernel
theorem dX11_beginFlush_192 : decode cX11_beginFlush 192 = .ok (.aload_n 0, 1) := by decide +kernel
theorem dX11_beginFlush_193 : decode cX11_beginFlush 193 = .ok (.getfield 27, 3) := by decide +kernel
theorem dX11_beginFlush_196 : decode cX11_beginFlush 196 = .ok (.sipush 640, 3) := by decide +kernel
theorem dX11_beginFlush_199 : decode cX11_beginFlush 199 = .ok (.iload_n 1, 1) := by decide +kernel
theorem dX11_beginFlush_200 : decode cX11_beginFlush 200 = .ok (.imul, 1) := by decide +kernel
theorem dX11_beginFlush_201 : decode cX11_beginFlush 201 = .ok (.iload 6, 2) := by decide +kernel
theorem dX11_beginFlush_203 : decode cX11_beginFlush 203 = .ok (.iadd, 1) := by decide +kernel
theorem dX11_beginFlush_204 : decode cX11_beginFlush 204 = .ok (.iconst 0, 1) := by decide +kernel
theorem dX11_beginFlush_205 : decode cX11_beginFlush 205 = .ok (.bastore, 1) := by decide +kernel
theorem dX11_beginFlush_206 : decode cX11_beginFlush 206 = .ok (.iinc 6 1, 3) := by decide +kernel
theorem dX11_beginFlush_209 : decode cX11_beginFlush 209 = .ok (.goto (-50), 3) := by decide +kernel
theorem dX11_beginFlush_212 : decode cX11_beginFlush 212 = .ok (.aload_n 0, 1) := by decide +kernel
theorem dX11_beginFlush_213 : decode cX11_beginFlush 213 = .ok (.iload_n 1, 1) := by decide +kernel
theorem dX11_beginFlush_214 : decode cX11_beginFlush 214 = .ok (.iload_n 3, 1) := by decide +kernel
theorem dX11_beginFlush_215 : decode cX11_beginFlush 215 = .ok (.iconst 0, 1) := by decide +kernel
theorem dX11_beginFlush_216 : decode cX11_beginFlush 216 = .ok (.invokevirtual 258, 3) := by decide +kernel
theorem dX11_beginFlush_219 : decode cX11_beginFlush 219 = .ok (.aload_n 0, 1) := by decide +kernel
theorem dX11_beginFlush_220 : decode cX11_beginFlush 220 = .ok (.getfield 30, 3) := by decide +kernel
theorem dX11_beginFlush_223 : decode cX11_beginFlush 223 = .ok (.iload_n 1, 1) := by decide +kernel
theorem dX11_beginFlush_224 : decode cX11_beginFlush 224 = .ok (.iconst 0, 1) := by decide +kernel
theorem dX11_beginFlush_225 : decode cX11_beginFlush 225 = .ok (.iastore, 1) := by decide +kernel
theorem dX11_beginFlush_226 : decode cX11_beginFlush 226 = .ok (.aload_n 0, 1) := by decide +kernel
theorem dX11_beginFlush_227 : decode cX11_beginFlush 227 = .ok (.iload_n 1, 1) := by decide +kernel
theorem dX11_beginFlush_228 : decode cX11_beginFlush 228 = .ok (.invokevirtual 261, 3) := by decide +kernel
theorem dX11_beginFlush_231 : decode cX11_beginFlush 231 = .ok (.return_, 1) := by decide +kernel
theorem dX11_addHead_0 : decode cX11_addHead 0 = .ok (.aload_n 0, 1) := by decide +kernel
theorem dX11_addHead_1 : decode cX11_addHead 1 = .ok (.iload_n 1, 1) := by decide +kernel
theorem dX11_addHead_2 : decode cX11_addHead 2 = .ok (.iconst 1, 1) := by decide +kernel
theorem dX11_addHead_3 : decode cX11_addHead 3 = .ok (.bipush 24, 2) := by decide +kernel
theorem dX11_addHead_5 : decode cX11_addHead 5 = .ok (.iload_n 1, 1) := by decide +kernel
theorem dX11_addHead_6 : decode cX11_addHead 6 = .ok (.imul, 1) := by decide +kernel
theorem dX11_addHead_7 : decode cX11_addHead 7 = .ok (.iadd, 1) := by decide +kernel
theorem dX11_addHead_8 : decode cX11_addHead 8 = .ok (.invokevirtual 249, 3) := by decide +kernel
theorem dX11_addHead_11 : decode cX11_addHead 11 = .ok (.aload_n 0, 1) := by decide +kernel
theorem dX11_addHead_12 : decode cX11_addHead 12 = .ok (.iload_n 1, 1) := by decide +kernel
theorem dX11_addHead_13 : decode cX11_addHead 13 = .ok (.aload_n 0, 1) := by decide +kernel
theorem dX11_addHead_14 : decode cX11_addHead 14 = .ok (.getfield 36, 3) := by decide +kernel
theorem dX11_addHead_17 : decode cX11_addHead 17 = .ok (.iload_n 1, 1) := by decide +kernel
theorem dX11_addHead_18 : decode cX11_addHead 18 = .ok (.iaload, 1) := by decide +kernel
theorem dX11_addHead_19 : decode cX11_addHead 19 = .ok (.iconst 1, 1) := by decide +kernel
theorem dX11_addHead_20 : decode cX11_addHead 20 = .ok (.isub, 1) := by decide +kernel
theorem dX11_addHead_21 : decode cX11_addHead 21 = .ok (.iconst 0, 1) := by decide +kernel
theorem dX11_addHead_22 : decode cX11_addHead 22 = .ok (.aload_n 0, 1) := by decide +kernel
theorem dX11_addHead_23 : decode cX11_addHead 23 = .ok (.getfield 33, 3) := by decide +kernel
theorem dX11_addHead_26 : decode cX11_addHead 26 = .ok (.iload_n 1, 1) := by decide +kernel
theorem dX11_addHead_27 : decode cX11_addHead 27 = .ok (.iaload, 1) := by decide +kernel
theorem dX11_addHead_28 : decode cX11_addHead 28 = .ok (.invokevirtual 252, 3) := by decide +kernel
theorem dX11_addHead_31 : decode cX11_addHead 31 = .ok (.aload_n 0, 1) := by decide +kernel
theorem dX11_addHead_32 : decode cX11_addHead 32 = .ok (.iload_n 1, 1) := by decide +kernel
theorem dX11_addHead_33 : decode cX11_addHead 33 = .ok (.aload_n 0, 1) := by decide +kernel
theorem dX11_addHead_34 : decode cX11_addHead 34 = .ok (.getfield 36, 3) := by decide +kernel
theorem dX11_addHead_37 : decode cX11_addHead 37 = .ok (.iload_n 1, 1) := by decide +kernel
theorem dX11_addHead_38 : decode cX11_addHead 38 = .ok (.iaload, 1) := by decide +kernel
theorem dX11_addHead_39 : decode cX11_addHead 39 = .ok (.iconst 1, 1) := by decide +kernel
theorem dX11_addHead_40 : decode cX11_addHead 40 = .ok (.isub, 1) := by decide +kernel
theorem dX11_addHead_41 : decode cX11_addHead 41 = .ok (.iconst 1, 1) := by decide +kernel
theorem dX11_addHead_42 : decode cX11_addHead 42 = .ok (.iload_n 2, 1) := by decide +kernel
theorem dX11_addHead_43 : decode cX11_addHead 43 = .ok (.invokevirtual 252, 3) := by decide +kernel
theorem dX11_addHead_46 : decode cX11_addHead 46 = .ok (.aload_n 0, 1) := by decide +kernel
theorem dX11_addHead_47 : decode cX11_addHead 47 = .ok (.iload_n 1, 1) := by decide +kernel
theorem dX11_addHead_48 : decode cX11_addHead 48 = .ok (.aload_n 0, 1) := by decide +kernel
theorem dX11_addHead_49 : decode cX11_addHead 49 = .ok (.getfield 36, 3) := by decide +kernel
theorem dX11_addHead_52 : decode cX11_addHead 52 = .ok (.iload_n 1, 1) := by decide +kernel
theorem dX11_addHead_53 : decode cX11_addHead 53 = .ok (.iaload, 1) := by decide +kernel
theorem dX11_addHead_54 : decode cX11_addHead 54 = .ok (.iconst 1, 1) := by decide +kernel
theorem dX11_addHead_55 : decode cX11_addHead 55 = .ok (.isub, 1) := by decide +kernel
theorem dX11_addHead_56 : decode cX11_addHead 56 = .ok (.iconst 2, 1) := by decide +kernel
theorem dX11_addHead_57 : decode cX11_addHead 57 = .ok (.iload_n 3, 1) := by decide +kernel
theorem dX11_addHead_58 : decode cX11_addHead 58 = .ok (.invokevirtual 252, 3) := by decide +kernel
theorem dX11_addHead_61 : decode cX11_addHead 61 = .ok (.return_, 1) := by decide +kernel
theorem dX11_isCalling_0 : decode cX11_isCalling 0 = .ok (.aload_n 0, 1) := by decide +kernel
theorem dX11_isCalling_1 : decode cX11_isCalling 1 = .ok (.getfield 81, 3) := by decide +kernel
theorem dX11_isCalling_4 : decode cX11_isCalling 4 = .ok (.iload_n 1, 1) := by decide +kernel
theorem dX11_isCalling_5 : decode cX11_isCalling 5 = .ok (.iaload, 1) := by decide +kernel
theorem dX11_isCalling_6 : decode cX11_isCalling 6 = .ok (.iconst 1, 1) := by decide +kernel
theorem dX11_isCalling_7 : decode cX11_isCalling 7 = .ok (.if_icmp .ne 7, 3) := by decide +kernel
theorem dX11_isCalling_10 : decode cX11_isCalling 10 = .ok (.iconst 1, 1) := by decide +kernel
theorem dX11_isCalling_11 : decode cX11_isCalling 11 = .ok (.goto 4, 3) := by decide +kernel
theorem dX11_isCalling_14 : decode cX11_isCalling 14 = .ok (.iconst 0, 1) := by decide +kernel
theorem dX11_isCalling_15 : decode cX11_isCalling 15 = .ok (.ireturn, 1) := by decide +kernel
theorem dX11_flushOver_0 : decode cX11_flushOver 0 = .ok (.aload_n 0, 1) := by decide +kernel
theorem dX11_flushOver_1 : decode cX11_flushOver 1 = .ok (.getfield 36, 3) := by decide +kernel
theorem dX11_flushOver_4 : decode cX11_flushOver 4 = .ok (.iload_n 1, 1) := by decide +kernel
theorem dX11_flushOver_5 : decode cX11_flushOver 5 = .ok (.iconst 0, 1) := by decide +kernel
theorem dX11_flushOver_6 : decode cX11_flushOver 6 = .ok (.iastore, 1) := by decide +kernel
theorem dX11_flushOver_7 : decode cX11_flushOver 7 = .ok (.aload_n 0, 1) := by decide +kernel
theorem dX11_flushOver_8 : decode cX11_flushOver 8 = .ok (.getfield 39, 3) := by decide +kernel
theorem dX11_flushOver_11 : decode cX11_flushOver 11 = .ok (.iload_n 1, 1) := by decide +kernel
theorem dX11_flushOver_12 : decode cX11_flushOver 12 = .ok (.iconst 0, 1) := by decide +kernel
theorem dX11_flushOver_13 : decode cX11_flushOver 13 = .ok (.iastore, 1) := by decide +kernel
theorem dX11_flushOver_14 : decode cX11_flushOver 14 = .ok (.aload_n 0, 1) := by decide +kernel
theorem dX11_flushOver_15 : decode cX11_flushOver 15 = .ok (.iload_n 1, 1) := by decide +kernel
theorem dX11_flushOver_16 : decode cX11_flushOver 16 = .ok (.invokevirtual 264, 3) := by decide +kernel
theorem dX11_flushOver_19 : decode cX11_flushOver 19 = .ok (.ifCond .eq 27, 3) := by decide +kernel
theorem dX11_flushOver_22 : decode cX11_flushOver 22 = .ok (.aload_n 0, 1) := by decide +kernel
theorem dX11_flushOver_23 : decode cX11_flushOver 23 = .ok (.getfield 66, 3) := by decide +kernel
theorem dX11_flushOver_26 : decode cX11_flushOver 26 = .ok (.iload_n 1, 1) := by decide +kernel
theorem dX11_flushOver_27 : decode cX11_flushOver 27 = .ok (.iaload, 1) := by decide +kernel
theorem dX11_flushOver_28 : decode cX11_flushOver 28 = .ok (.bipush 10, 2) := by decide +kernel
theorem dX11_flushOver_30 : decode cX11_flushOver 30 = .ok (.if_icmp .eq 12, 3) := by decide +kernel
theorem dX11_flushOver_33 : decode cX11_flushOver 33 = .ok (.aload_n 0, 1) := by decide +kernel
theorem dX11_flushOver_34 : decode cX11_flushOver 34 = .ok (.getfield 99, 3) := by decide +kernel
theorem dX11_flushOver_37 : decode cX11_flushOver 37 = .ok (.iload_n 1, 1) := by decide +kernel
theorem dX11_flushOver_38 : decode cX11_flushOver 38 = .ok (.baload, 1) := by decide +kernel
theorem dX11_flushOver_39 : decode cX11_flushOver 39 = .ok (.ifCond .eq 7, 3) := by decide +kernel
theorem dX11_flushOver_42 : decode cX11_flushOver 42 = .ok (.iconst 1, 1) := by decide +kernel
theorem dX11_flushOver_43 : decode cX11_flushOver 43 = .ok (.goto 4, 3) := by decide +kernel
theorem dX11_flushOver_46 : decode cX11_flushOver 46 = .ok (.iconst 0, 1) := by decide +kernel
theorem dX11_flushOver_47 : decode cX11_flushOver 47 = .ok (.istore_n 2, 1) := by decide +kernel
theorem dX11_flushOver_48 : decode cX11_flushOver 48 = .ok (.iconst 0, 1) := by decide +kernel
theorem dX11_flushOver_49 : decode cX11_flushOver 49 = .ok (.istore_n 3, 1) := by decide +kernel
theorem dX11_flushOver_50 : decode cX11_flushOver 50 = .ok (.iload_n 3, 1) := by decide +kernel
theorem dX11_flushOver_51 : decode cX11_flushOver 51 = .ok (.sipush 136, 3) := by decide +kernel
theorem dX11_flushOver_54 : decode cX11_flushOver 54 = .ok (.if_icmp .ge 32, 3) := by decide +kernel
theorem dX11_flushOver_57 : decode cX11_flushOver 57 = .ok (.iload_n 2, 1) := by decide +kernel
theorem dX11_flushOver_58 : decode cX11_flushOver 58 = .ok (.ifCond .ne 16, 3) := by decide +kernel
theorem dX11_flushOver_61 : decode cX11_flushOver 61 = .ok (.aload_n 0, 1) := by decide +kernel
theorem dX11_flushOver_62 : decode cX11_flushOver 62 = .ok (.getfield 60, 3) := by decide +kernel
theorem dX11_flushOver_65 : decode cX11_flushOver 65 = .ok (.iload_n 1, 1) := by decide +kernel
theorem dX11_flushOver_66 : decode cX11_flushOver 66 = .ok (.iload_n 3, 1) := by decide +kernel
theorem dX11_flushOver_67 : decode cX11_flushOver 67 = .ok (.invokestatic 208, 3) := by decide +kernel
theorem dX11_flushOver_70 : decode cX11_flushOver 70 = .ok (.baload, 1) := by decide +kernel
theorem dX11_flushOver_71 : decode cX11_flushOver 71 = .ok (.ifCond .eq 7, 3) := by decide +kernel
theorem dX11_flushOver_74 : decode cX11_flushOver 74 = .ok (.iconst 1, 1) := by decide +kernel
theorem dX11_flushOver_75 : decode cX11_flushOver 75 = .ok (.goto 4, 3) := by decide +kernel
theorem dX11_flushOver_78 : decode cX11_flushOver 78 = .ok (.iconst 0, 1) := by decide +kernel
theorem dX11_flushOver_79 : decode cX11_flushOver 79 = .ok (.istore_n 2, 1) := by decide +kernel
theorem dX11_flushOver_80 : decode cX11_flushOver 80 = .ok (.iinc 3 1, 3) := by decide +kernel
theorem dX11_flushOver_83 : decode cX11_flushOver 83 = .ok (.goto (-33), 3) := by decide +kernel
theorem dX11_flushOver_86 : decode cX11_flushOver 86 = .ok (.aload_n 0, 1) := by decide +kernel
theorem dX11_flushOver_87 : decode cX11_flushOver 87 = .ok (.getfield 30, 3) := by decide +kernel
theorem dX11_flushOver_90 : decode cX11_flushOver 90 = .ok (.iload_n 1, 1) := by decide +kernel
theorem dX11_flushOver_91 : decode cX11_flushOver 91 = .ok (.iaload, 1) := by decide +kernel
theorem dX11_flushOver_92 : decode cX11_flushOver 92 = .ok (.ifCond .le 13, 3) := by decide +kernel
theorem dX11_flushOver_95 : decode cX11_flushOver 95 = .ok (.iload_n 2, 1) := by decide +kernel
theorem dX11_flushOver_96 : decode cX11_flushOver 96 = .ok (.ifCond .eq 9, 3) := by decide +kernel
theorem dX11_flushOver_99 : decode cX11_flushOver 99 = .ok (.aload_n 0, 1) := by decide +kernel
theorem dX11_flushOver_100 : decode cX11_flushOver 100 = .ok (.iload_n 1, 1) := by decide +kernel
theorem dX11_flushOver_101 : decode cX11_flushOver 101 = .ok (.invokevirtual 237, 3) := by decide +kernel
theorem dX11_flushOver_104 : decode cX11_flushOver 104 = .ok (.return_, 1) := by decide +kernel
theorem dX11_flushOver_105 : decode cX11_flushOver 105 = .ok (.iconst 0, 1) := by decide +kernel
theorem dX11_flushOver_106 : decode cX11_flushOver 106 = .ok (.istore_n 3, 1) := by decide +kernel
theorem dX11_flushOver_107 : decode cX11_flushOver 107 = .ok (.iload_n 3, 1) := by decide +kernel
theorem dX11_flushOver_108 : decode cX11_flushOver 108 = .ok (.sipush 136, 3) := by decide +kernel
theorem dX11_flushOver_111 : decode cX11_flushOver 111 = .ok (.if_icmp .ge 28, 3) := by decide +kernel
theorem dX11_flushOver_114 : decode cX11_flushOver 114 = .ok (.aload_n 0, 1) := by decide +kernel
theorem dX11_flushOver_115 : decode cX11_flushOver 115 = .ok (.getfield 60, 3) := by decide +kernel
theorem dX11_flushOver_118 : decode cX11_flushOver 118 = .ok (.iload_n 1, 1) := by decide +kernel
theorem dX11_flushOver_119 : decode cX11_flushOver 119 = .ok (.iload_n 3, 1) := by decide +kernel
theorem dX11_flushOver_120 : decode cX11_flushOver 120 = .ok (.invokestatic 208, 3) := by decide +kernel
theorem dX11_flushOver_123 : decode cX11_flushOver 123 = .ok (.baload, 1) := by decide +kernel
theorem dX11_flushOver_124 : decode cX11_flushOver 124 = .ok (.ifCond .eq 9, 3) := by decide +kernel
theorem dX11_flushOver_127 : decode cX11_flushOver 127 = .ok (.aload_n 0, 1) := by decide +kernel
theorem dX11_flushOver_128 : decode cX11_flushOver 128 = .ok (.iload_n 1, 1) := by decide +kernel
theorem dX11_flushOver_129 : decode cX11_flushOver 129 = .ok (.iload_n 3, 1) := by decide +kernel
theorem dX11_flushOver_130 : decode cX11_flushOver 130 = .ok (.invokevirtual 233, 3) := by decide +kernel
theorem dX11_flushOver_133 : decode cX11_flushOver 133 = .ok (.iinc 3 1, 3) := by decide +kernel
theorem dX11_flushOver_136 : decode cX11_flushOver 136 = .ok (.goto (-29), 3) := by decide +kernel
theorem dX11_flushOver_139 : decode cX11_flushOver 139 = .ok (.aload_n 0, 1) := by decide +kernel
theorem dX11_flushOver_140 : decode cX11_flushOver 140 = .ok (.iload_n 1, 1) := by decide +kernel
theorem dX11_flushOver_141 : decode cX11_flushOver 141 = .ok (.invokevirtual 212, 3) := by decide +kernel
theorem dX11_flushOver_144 : decode cX11_flushOver 144 = .ok (.return_, 1) := by decide +kernel
theorem dX11_unpin_0 : decode cX11_unpin 0 = .ok (.iconst 0, 1) := by decide +kernel
theorem dX11_unpin_1 : decode cX11_unpin 1 = .ok (.istore_n 2, 1) := by decide +kernel
theorem dX11_unpin_2 : decode cX11_unpin 2 = .ok (.iload_n 2, 1) := by decide +kernel
theorem dX11_unpin_3 : decode cX11_unpin 3 = .ok (.sipush 136, 3) := by decide +kernel
theorem dX11_unpin_6 : decode cX11_unpin 6 = .ok (.if_icmp .ge 51, 3) := by decide +kernel
theorem dX11_unpin_9 : decode cX11_unpin 9 = .ok (.iload_n 1, 1) := by decide +kernel
theorem dX11_unpin_10 : decode cX11_unpin 10 = .ok (.iload_n 2, 1) := by decide +kernel
theorem dX11_unpin_11 : decode cX11_unpin 11 = .ok (.invokestatic 208, 3) := by decide +kernel
theorem dX11_unpin_14 : decode cX11_unpin 14 = .ok (.istore_n 3, 1) := by decide +kernel
theorem dX11_unpin_15 : decode cX11_unpin 15 = .ok (.aload_n 0, 1) := by decide +kernel
theorem dX11_unpin_16 : decode cX11_unpin 16 = .ok (.getfield 57, 3) := by decide +kernel
theorem dX11_unpin_19 : decode cX11_unpin 19 = .ok (.iload_n 3, 1) := by decide +kernel
theorem dX11_unpin_20 : decode cX11_unpin 20 = .ok (.baload, 1) := by decide +kernel
theorem dX11_unpin_21 : decode cX11_unpin 21 = .ok (.istore 4, 2) := by decide +kernel
theorem dX11_unpin_23 : decode cX11_unpin 23 = .ok (.aload_n 0, 1) := by decide +kernel
theorem dX11_unpin_24 : decode cX11_unpin 24 = .ok (.getfield 57, 3) := by decide +kernel
theorem dX11_unpin_27 : decode cX11_unpin 27 = .ok (.iload_n 3, 1) := by decide +kernel
theorem dX11_unpin_28 : decode cX11_unpin 28 = .ok (.iconst 0, 1) := by decide +kernel
theorem dX11_unpin_29 : decode cX11_unpin 29 = .ok (.bastore, 1) := by decide +kernel
theorem dX11_unpin_30 : decode cX11_unpin 30 = .ok (.iload 4, 2) := by decide +kernel
theorem dX11_unpin_32 : decode cX11_unpin 32 = .ok (.ifCond .eq 19, 3) := by decide +kernel
theorem dX11_unpin_35 : decode cX11_unpin 35 = .ok (.aload_n 0, 1) := by decide +kernel
theorem dX11_unpin_36 : decode cX11_unpin 36 = .ok (.getfield 54, 3) := by decide +kernel
theorem dX11_unpin_39 : decode cX11_unpin 39 = .ok (.iload_n 3, 1) := by decide +kernel
theorem dX11_unpin_40 : decode cX11_unpin 40 = .ok (.iaload, 1) := by decide +kernel
theorem dX11_unpin_41 : decode cX11_unpin 41 = .ok (.iconst (-1), 1) := by decide +kernel
theorem dX11_unpin_42 : decode cX11_unpin 42 = .ok (.if_icmp .eq 9, 3) := by decide +kernel
theorem dX11_unpin_45 : decode cX11_unpin 45 = .ok (.aload_n 0, 1) := by decide +kernel
theorem dX11_unpin_46 : decode cX11_unpin 46 = .ok (.iload_n 1, 1) := by decide +kernel
theorem dX11_unpin_47 : decode cX11_unpin 47 = .ok (.iload_n 2, 1) := by decide +kernel
theorem dX11_unpin_48 : decode cX11_unpin 48 = .ok (.invokevirtual 233, 3) := by decide +kernel
theorem dX11_unpin_51 : decode cX11_unpin 51 = .ok (.iinc 2 1, 3) := by decide +kernel
theorem dX11_unpin_54 : decode cX11_unpin 54 = .ok (.goto (-52), 3) := by decide +kernel
theorem dX11_unpin_57 : decode cX11_unpin 57 = .ok (.return_, 1) := by decide +kernel
theorem dX11_end_0 : decode cX11_end 0 = .ok (.aload_n 0, 1) := by decide +kernel
theorem dX11_end_1 : decode cX11_end 1 = .ok (.getfield 81, 3) := by decide +kernel
theorem dX11_end_4 : decode cX11_end 4 = .ok (.iload_n 1, 1) := by decide +kernel
theorem dX11_end_5 : decode cX11_end 5 = .ok (.iload_n 2, 1) := by decide +kernel
theorem dX11_end_6 : decode cX11_end 6 = .ok (.iastore, 1) := by decide +kernel
theorem dX11_end_7 : decode cX11_end 7 = .ok (.aload_n 0, 1) := by decide +kernel
theorem dX11_end_8 : decode cX11_end 8 = .ok (.getfield 84, 3) := by decide +kernel
