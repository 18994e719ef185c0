theorem dX11_end_11 : decode cX11_end 11 = .ok (.iload_n 1, 1) := by decide +kernel
theorem dX11_end_12 : decode cX11_end 12 = .ok (.iload_n 3, 1) := by decide +kernel
theorem dX11_end_13 : decode cX11_end 13 = .ok (.iastore, 1) := by decide +kernel
theorem dX11_end_14 : decode cX11_end 14 = .ok (.aload_n 0, 1) := by decide +kernel
theorem dX11_end_15 : decode cX11_end 15 = .ok (.getfield 90, 3) := by decide +kernel
theorem dX11_end_18 : decode cX11_end 18 = .ok (.iload_n 1, 1) := by decide +kernel
theorem dX11_end_19 : decode cX11_end 19 = .ok (.aload_n 0, 1) := by decide +kernel
theorem dX11_end_20 : decode cX11_end 20 = .ok (.getfield 194, 3) := by decide +kernel
theorem dX11_end_23 : decode cX11_end 23 = .ok (.aload_n 0, 1) := by decide +kernel
theorem dX11_end_24 : decode cX11_end 24 = .ok (.getfield 87, 3) := by decide +kernel
theorem dX11_end_27 : decode cX11_end 27 = .ok (.iload_n 1, 1) := by decide +kernel
theorem dX11_end_28 : decode cX11_end 28 = .ok (.iaload, 1) := by decide +kernel
theorem dX11_end_29 : decode cX11_end 29 = .ok (.isub, 1) := by decide +kernel
theorem dX11_end_30 : decode cX11_end 30 = .ok (.iastore, 1) := by decide +kernel
theorem dX11_end_31 : decode cX11_end 31 = .ok (.aload_n 0, 1) := by decide +kernel
theorem dX11_end_32 : decode cX11_end 32 = .ok (.dup, 1) := by decide +kernel
theorem dX11_end_33 : decode cX11_end 33 = .ok (.getfield 268, 3) := by decide +kernel
theorem dX11_end_36 : decode cX11_end 36 = .ok (.iconst 1, 1) := by decide +kernel
theorem dX11_end_37 : decode cX11_end 37 = .ok (.iadd, 1) := by decide +kernel
theorem dX11_end_38 : decode cX11_end 38 = .ok (.putfield 268, 3) := by decide +kernel
theorem dX11_end_41 : decode cX11_end 41 = .ok (.aload_n 0, 1) := by decide +kernel
theorem dX11_end_42 : decode cX11_end 42 = .ok (.iload_n 1, 1) := by decide +kernel
theorem dX11_end_43 : decode cX11_end 43 = .ok (.invokevirtual 271, 3) := by decide +kernel
theorem dX11_end_46 : decode cX11_end 46 = .ok (.return_, 1) := by decide +kernel
theorem dX11_note_0 : decode cX11_note 0 = .ok (.aload_n 0, 1) := by decide +kernel
theorem dX11_note_1 : decode cX11_note 1 = .ok (.getfield 274, 3) := by decide +kernel
theorem dX11_note_4 : decode cX11_note 4 = .ok (.sipush 400, 3) := by decide +kernel
theorem dX11_note_7 : decode cX11_note 7 = .ok (.if_icmp .ne 4, 3) := by decide +kernel
theorem dX11_note_10 : decode cX11_note 10 = .ok (.return_, 1) := by decide +kernel
theorem dX11_note_11 : decode cX11_note 11 = .ok (.bipush 10, 2) := by decide +kernel
theorem dX11_note_13 : decode cX11_note 13 = .ok (.aload_n 0, 1) := by decide +kernel
theorem dX11_note_14 : decode cX11_note 14 = .ok (.getfield 274, 3) := by decide +kernel
theorem dX11_note_17 : decode cX11_note 17 = .ok (.imul, 1) := by decide +kernel
theorem dX11_note_18 : decode cX11_note 18 = .ok (.istore 5, 2) := by decide +kernel
theorem dX11_note_20 : decode cX11_note 20 = .ok (.aload_n 0, 1) := by decide +kernel
theorem dX11_note_21 : decode cX11_note 21 = .ok (.getfield 156, 3) := by decide +kernel
theorem dX11_note_24 : decode cX11_note 24 = .ok (.iload 5, 2) := by decide +kernel
theorem dX11_note_26 : decode cX11_note 26 = .ok (.iload_n 1, 1) := by decide +kernel
theorem dX11_note_27 : decode cX11_note 27 = .ok (.iastore, 1) := by decide +kernel
theorem dX11_note_28 : decode cX11_note 28 = .ok (.aload_n 0, 1) := by decide +kernel
theorem dX11_note_29 : decode cX11_note 29 = .ok (.getfield 156, 3) := by decide +kernel
theorem dX11_note_32 : decode cX11_note 32 = .ok (.iload 5, 2) := by decide +kernel
theorem dX11_note_34 : decode cX11_note 34 = .ok (.iconst 1, 1) := by decide +kernel
theorem dX11_note_35 : decode cX11_note 35 = .ok (.iadd, 1) := by decide +kernel
theorem dX11_note_36 : decode cX11_note 36 = .ok (.aload_n 0, 1) := by decide +kernel
theorem dX11_note_37 : decode cX11_note 37 = .ok (.getfield 66, 3) := by decide +kernel
theorem dX11_note_40 : decode cX11_note 40 = .ok (.iload_n 1, 1) := by decide +kernel
theorem dX11_note_41 : decode cX11_note 41 = .ok (.iaload, 1) := by decide +kernel
theorem dX11_note_42 : decode cX11_note 42 = .ok (.iastore, 1) := by decide +kernel
theorem dX11_note_43 : decode cX11_note 43 = .ok (.aload_n 0, 1) := by decide +kernel
theorem dX11_note_44 : decode cX11_note 44 = .ok (.getfield 156, 3) := by decide +kernel
theorem dX11_note_47 : decode cX11_note 47 = .ok (.iload 5, 2) := by decide +kernel
theorem dX11_note_49 : decode cX11_note 49 = .ok (.iconst 2, 1) := by decide +kernel
theorem dX11_note_50 : decode cX11_note 50 = .ok (.iadd, 1) := by decide +kernel
theorem dX11_note_51 : decode cX11_note 51 = .ok (.aload_n 0, 1) := by decide +kernel
theorem dX11_note_52 : decode cX11_note 52 = .ok (.getfield 69, 3) := by decide +kernel
theorem dX11_note_55 : decode cX11_note 55 = .ok (.iload_n 1, 1) := by decide +kernel
theorem dX11_note_56 : decode cX11_note 56 = .ok (.iaload, 1) := by decide +kernel
theorem dX11_note_57 : decode cX11_note 57 = .ok (.iastore, 1) := by decide +kernel
theorem dX11_note_58 : decode cX11_note 58 = .ok (.aload_n 0, 1) := by decide +kernel
theorem dX11_note_59 : decode cX11_note 59 = .ok (.getfield 156, 3) := by decide +kernel
theorem dX11_note_62 : decode cX11_note 62 = .ok (.iload 5, 2) := by decide +kernel
theorem dX11_note_64 : decode cX11_note 64 = .ok (.iconst 3, 1) := by decide +kernel
theorem dX11_note_65 : decode cX11_note 65 = .ok (.iadd, 1) := by decide +kernel
theorem dX11_note_66 : decode cX11_note 66 = .ok (.aload_n 0, 1) := by decide +kernel
theorem dX11_note_67 : decode cX11_note 67 = .ok (.getfield 72, 3) := by decide +kernel
theorem dX11_note_70 : decode cX11_note 70 = .ok (.iload_n 1, 1) := by decide +kernel
theorem dX11_note_71 : decode cX11_note 71 = .ok (.iaload, 1) := by decide +kernel
theorem dX11_note_72 : decode cX11_note 72 = .ok (.iastore, 1) := by decide +kernel
theorem dX11_note_73 : decode cX11_note 73 = .ok (.aload_n 0, 1) := by decide +kernel
theorem dX11_note_74 : decode cX11_note 74 = .ok (.getfield 156, 3) := by decide +kernel
theorem dX11_note_77 : decode cX11_note 77 = .ok (.iload 5, 2) := by decide +kernel
theorem dX11_note_79 : decode cX11_note 79 = .ok (.iconst 4, 1) := by decide +kernel
theorem dX11_note_80 : decode cX11_note 80 = .ok (.iadd, 1) := by decide +kernel
theorem dX11_note_81 : decode cX11_note 81 = .ok (.aload_n 0, 1) := by decide +kernel
theorem dX11_note_82 : decode cX11_note 82 = .ok (.getfield 75, 3) := by decide +kernel
theorem dX11_note_85 : decode cX11_note 85 = .ok (.iload_n 1, 1) := by decide +kernel
theorem dX11_note_86 : decode cX11_note 86 = .ok (.iaload, 1) := by decide +kernel
theorem dX11_note_87 : decode cX11_note 87 = .ok (.iastore, 1) := by decide +kernel
theorem dX11_note_88 : decode cX11_note 88 = .ok (.aload_n 0, 1) := by decide +kernel
theorem dX11_note_89 : decode cX11_note 89 = .ok (.getfield 156, 3) := by decide +kernel
theorem dX11_note_92 : decode cX11_note 92 = .ok (.iload 5, 2) := by decide +kernel
theorem dX11_note_94 : decode cX11_note 94 = .ok (.iconst 5, 1) := by decide +kernel
theorem dX11_note_95 : decode cX11_note 95 = .ok (.iadd, 1) := by decide +kernel
theorem dX11_note_96 : decode cX11_note 96 = .ok (.aload_n 0, 1) := by decide +kernel
theorem dX11_note_97 : decode cX11_note 97 = .ok (.getfield 78, 3) := by decide +kernel
theorem dX11_note_100 : decode cX11_note 100 = .ok (.iload_n 1, 1) := by decide +kernel
theorem dX11_note_101 : decode cX11_note 101 = .ok (.iaload, 1) := by decide +kernel
theorem dX11_note_102 : decode cX11_note 102 = .ok (.iastore, 1) := by decide +kernel
theorem dX11_note_103 : decode cX11_note 103 = .ok (.aload_n 0, 1) := by decide +kernel
theorem dX11_note_104 : decode cX11_note 104 = .ok (.getfield 156, 3) := by decide +kernel
theorem dX11_note_107 : decode cX11_note 107 = .ok (.iload 5, 2) := by decide +kernel
theorem dX11_note_109 : decode cX11_note 109 = .ok (.bipush 6, 2) := by decide +kernel
theorem dX11_note_111 : decode cX11_note 111 = .ok (.iadd, 1) := by decide +kernel
theorem dX11_note_112 : decode cX11_note 112 = .ok (.iload_n 2, 1) := by decide +kernel
theorem dX11_note_113 : decode cX11_note 113 = .ok (.iastore, 1) := by decide +kernel
theorem dX11_note_114 : decode cX11_note 114 = .ok (.aload_n 0, 1) := by decide +kernel
theorem dX11_note_115 : decode cX11_note 115 = .ok (.getfield 156, 3) := by decide +kernel
theorem dX11_note_118 : decode cX11_note 118 = .ok (.iload 5, 2) := by decide +kernel
theorem dX11_note_120 : decode cX11_note 120 = .ok (.bipush 7, 2) := by decide +kernel
theorem dX11_note_122 : decode cX11_note 122 = .ok (.iadd, 1) := by decide +kernel
theorem dX11_note_123 : decode cX11_note 123 = .ok (.iload_n 3, 1) := by decide +kernel
theorem dX11_note_124 : decode cX11_note 124 = .ok (.iastore, 1) := by decide +kernel
theorem dX11_note_125 : decode cX11_note 125 = .ok (.aload_n 0, 1) := by decide +kernel
theorem dX11_note_126 : decode cX11_note 126 = .ok (.getfield 156, 3) := by decide +kernel
theorem dX11_note_129 : decode cX11_note 129 = .ok (.iload 5, 2) := by decide +kernel
theorem dX11_note_131 : decode cX11_note 131 = .ok (.bipush 8, 2) := by decide +kernel
theorem dX11_note_133 : decode cX11_note 133 = .ok (.iadd, 1) := by decide +kernel
theorem dX11_note_134 : decode cX11_note 134 = .ok (.aload_n 0, 1) := by decide +kernel
theorem dX11_note_135 : decode cX11_note 135 = .ok (.getfield 194, 3) := by decide +kernel
theorem dX11_note_138 : decode cX11_note 138 = .ok (.iastore, 1) := by decide +kernel
theorem dX11_note_139 : decode cX11_note 139 = .ok (.aload_n 0, 1) := by decide +kernel
theorem dX11_note_140 : decode cX11_note 140 = .ok (.getfield 156, 3) := by decide +kernel
theorem dX11_note_143 : decode cX11_note 143 = .ok (.iload 5, 2) := by decide +kernel
theorem dX11_note_145 : decode cX11_note 145 = .ok (.bipush 9, 2) := by decide +kernel
theorem dX11_note_147 : decode cX11_note 147 = .ok (.iadd, 1) := by decide +kernel
theorem dX11_note_148 : decode cX11_note 148 = .ok (.iload 4, 2) := by decide +kernel
theorem dX11_note_150 : decode cX11_note 150 = .ok (.iastore, 1) := by decide +kernel
theorem dX11_note_151 : decode cX11_note 151 = .ok (.aload_n 0, 1) := by decide +kernel
theorem dX11_note_152 : decode cX11_note 152 = .ok (.getfield 159, 3) := by decide +kernel
theorem dX11_note_155 : decode cX11_note 155 = .ok (.aload_n 0, 1) := by decide +kernel
theorem dX11_note_156 : decode cX11_note 156 = .ok (.getfield 274, 3) := by decide +kernel
theorem dX11_note_159 : decode cX11_note 159 = .ok (.iconst 0, 1) := by decide +kernel
theorem dX11_note_160 : decode cX11_note 160 = .ok (.bastore, 1) := by decide +kernel
theorem dX11_note_161 : decode cX11_note 161 = .ok (.aload_n 0, 1) := by decide +kernel
theorem dX11_note_162 : decode cX11_note 162 = .ok (.dup, 1) := by decide +kernel
theorem dX11_note_163 : decode cX11_note 163 = .ok (.getfield 274, 3) := by decide +kernel
theorem dX11_note_166 : decode cX11_note 166 = .ok (.iconst 1, 1) := by decide +kernel
theorem dX11_note_167 : decode cX11_note 167 = .ok (.iadd, 1) := by decide +kernel
theorem dX11_note_168 : decode cX11_note 168 = .ok (.putfield 274, 3) := by decide +kernel
theorem dX11_note_171 : decode cX11_note 171 = .ok (.return_, 1) := by decide +kernel
theorem dX11_noteFlush_0 : decode cX11_noteFlush 0 = .ok (.iconst 0, 1) := by decide +kernel
theorem dX11_noteFlush_1 : decode cX11_noteFlush 1 = .ok (.istore_n 2, 1) := by decide +kernel
theorem dX11_noteFlush_2 : decode cX11_noteFlush 2 = .ok (.iload_n 2, 1) := by decide +kernel
theorem dX11_noteFlush_3 : decode cX11_noteFlush 3 = .ok (.aload_n 0, 1) := by decide +kernel
theorem dX11_noteFlush_4 : decode cX11_noteFlush 4 = .ok (.getfield 274, 3) := by decide +kernel
theorem dX11_noteFlush_7 : decode cX11_noteFlush 7 = .ok (.if_icmp .ge 45, 3) := by decide +kernel
theorem dX11_noteFlush_10 : decode cX11_noteFlush 10 = .ok (.aload_n 0, 1) := by decide +kernel
theorem dX11_noteFlush_11 : decode cX11_noteFlush 11 = .ok (.getfield 156, 3) := by decide +kernel
theorem dX11_noteFlush_14 : decode cX11_noteFlush 14 = .ok (.bipush 10, 2) := by decide +kernel
theorem dX11_noteFlush_16 : decode cX11_noteFlush 16 = .ok (.iload_n 2, 1) := by decide +kernel
theorem dX11_noteFlush_17 : decode cX11_noteFlush 17 = .ok (.imul, 1) := by decide +kernel
theorem dX11_noteFlush_18 : decode cX11_noteFlush 18 = .ok (.iaload, 1) := by decide +kernel
theorem dX11_noteFlush_19 : decode cX11_noteFlush 19 = .ok (.iload_n 1, 1) := by decide +kernel
theorem dX11_noteFlush_20 : decode cX11_noteFlush 20 = .ok (.if_icmp .ne 26, 3) := by decide +kernel
theorem dX11_noteFlush_23 : decode cX11_noteFlush 23 = .ok (.aload_n 0, 1) := by decide +kernel
theorem dX11_noteFlush_24 : decode cX11_noteFlush 24 = .ok (.getfield 156, 3) := by decide +kernel
theorem dX11_noteFlush_27 : decode cX11_noteFlush 27 = .ok (.bipush 10, 2) := by decide +kernel
theorem dX11_noteFlush_29 : decode cX11_noteFlush 29 = .ok (.iload_n 2, 1) := by decide +kernel
theorem dX11_noteFlush_30 : decode cX11_noteFlush 30 = .ok (.imul, 1) := by decide +kernel
theorem dX11_noteFlush_31 : decode cX11_noteFlush 31 = .ok (.bipush 9, 2) := by decide +kernel
theorem dX11_noteFlush_33 : decode cX11_noteFlush 33 = .ok (.iadd, 1) := by decide +kernel
theorem dX11_noteFlush_34 : decode cX11_noteFlush 34 = .ok (.iaload, 1) := by decide +kernel
theorem dX11_noteFlush_35 : decode cX11_noteFlush 35 = .ok (.iconst 1, 1) := by decide +kernel
theorem dX11_noteFlush_36 : decode cX11_noteFlush 36 = .ok (.if_icmp .ne 10, 3) := by decide +kernel
theorem dX11_noteFlush_39 : decode cX11_noteFlush 39 = .ok (.aload_n 0, 1) := by decide +kernel
theorem dX11_noteFlush_40 : decode cX11_noteFlush 40 = .ok (.getfield 159, 3) := by decide +kernel
theorem dX11_noteFlush_43 : decode cX11_noteFlush 43 = .ok (.iload_n 2, 1) := by decide +kernel
theorem dX11_noteFlush_44 : decode cX11_noteFlush 44 = .ok (.iconst 1, 1) := by decide +kernel
theorem dX11_noteFlush_45 : decode cX11_noteFlush 45 = .ok (.bastore, 1) := by decide +kernel
theorem dX11_noteFlush_46 : decode cX11_noteFlush 46 = .ok (.iinc 2 1, 3) := by decide +kernel
theorem dX11_noteFlush_49 : decode cX11_noteFlush 49 = .ok (.goto (-47), 3) := by decide +kernel
theorem dX11_noteFlush_52 : decode cX11_noteFlush 52 = .ok (.return_, 1) := by decide +kernel
theorem dX11_noteSafe_0 : decode cX11_noteSafe 0 = .ok (.iconst 0, 1) := by decide +kernel
theorem dX11_noteSafe_1 : decode cX11_noteSafe 1 = .ok (.istore_n 2, 1) := by decide +kernel
theorem dX11_noteSafe_2 : decode cX11_noteSafe 2 = .ok (.iload_n 2, 1) := by decide +kernel
theorem dX11_noteSafe_3 : decode cX11_noteSafe 3 = .ok (.aload_n 0, 1) := by decide +kernel
theorem dX11_noteSafe_4 : decode cX11_noteSafe 4 = .ok (.getfield 274, 3) := by decide +kernel
theorem dX11_noteSafe_7 : decode cX11_noteSafe 7 = .ok (.if_icmp .ge 60, 3) := by decide +kernel
theorem dX11_noteSafe_10 : decode cX11_noteSafe 10 = .ok (.aload_n 0, 1) := by decide +kernel
theorem dX11_noteSafe_11 : decode cX11_noteSafe 11 = .ok (.getfield 156, 3) := by decide +kernel
theorem dX11_noteSafe_14 : decode cX11_noteSafe 14 = .ok (.bipush 10, 2) := by decide +kernel
theorem dX11_noteSafe_16 : decode cX11_noteSafe 16 = .ok (.iload_n 2, 1) := by decide +kernel
theorem dX11_noteSafe_17 : decode cX11_noteSafe 17 = .ok (.imul, 1) := by decide +kernel
theorem dX11_noteSafe_18 : decode cX11_noteSafe 18 = .ok (.iaload, 1) := by decide +kernel
theorem dX11_noteSafe_19 : decode cX11_noteSafe 19 = .ok (.iload_n 1, 1) := by decide +kernel
theorem dX11_noteSafe_20 : decode cX11_noteSafe 20 = .ok (.if_icmp .ne 41, 3) := by decide +kernel
theorem dX11_noteSafe_23 : decode cX11_noteSafe 23 = .ok (.aload_n 0, 1) := by decide +kernel
theorem dX11_noteSafe_24 : decode cX11_noteSafe 24 = .ok (.getfield 156, 3) := by decide +kernel
theorem dX11_noteSafe_27 : decode cX11_noteSafe 27 = .ok (.bipush 10, 2) := by decide +kernel
theorem dX11_noteSafe_29 : decode cX11_noteSafe 29 = .ok (.iload_n 2, 1) := by decide +kernel
theorem dX11_noteSafe_30 : decode cX11_noteSafe 30 = .ok (.imul, 1) := by decide +kernel
theorem dX11_noteSafe_31 : decode cX11_noteSafe 31 = .ok (.bipush 9, 2) := by decide +kernel
theorem dX11_noteSafe_33 : decode cX11_noteSafe 33 = .ok (.iadd, 1) := by decide +kernel
theorem dX11_noteSafe_34 : decode cX11_noteSafe 34 = .ok (.iaload, 1) := by decide +kernel
theorem dX11_noteSafe_35 : decode cX11_noteSafe 35 = .ok (.iconst 1, 1) := by decide +kernel
theorem dX11_noteSafe_36 : decode cX11_noteSafe 36 = .ok (.if_icmp .ne 25, 3) := by decide +kernel
theorem dX11_noteSafe_39 : decode cX11_noteSafe 39 = .ok (.aload_n 0, 1) := by decide +kernel
theorem dX11_noteSafe_40 : decode cX11_noteSafe 40 = .ok (.getfield 159, 3) := by decide +kernel
theorem dX11_noteSafe_43 : decode cX11_noteSafe 43 = .ok (.iload_n 2, 1) := by decide +kernel
theorem dX11_noteSafe_44 : decode cX11_noteSafe 44 = .ok (.baload, 1) := by decide +kernel
theorem dX11_noteSafe_45 : decode cX11_noteSafe 45 = .ok (.ifCond .eq 16, 3) := by decide +kernel
theorem dX11_noteSafe_48 : decode cX11_noteSafe 48 = .ok (.aload_n 0, 1) := by decide +kernel
theorem dX11_noteSafe_49 : decode cX11_noteSafe 49 = .ok (.getfield 156, 3) := by decide +kernel
theorem dX11_noteSafe_52 : decode cX11_noteSafe 52 = .ok (.bipush 10, 2) := by decide +kernel
theorem dX11_noteSafe_54 : decode cX11_noteSafe 54 = .ok (.iload_n 2, 1) := by decide +kernel
theorem dX11_noteSafe_55 : decode cX11_noteSafe 55 = .ok (.imul, 1) := by decide +kernel
theorem dX11_noteSafe_56 : decode cX11_noteSafe 56 = .ok (.bipush 9, 2) := by decide +kernel
theorem dX11_noteSafe_58 : decode cX11_noteSafe 58 = .ok (.iadd, 1) := by decide +kernel
theorem dX11_noteSafe_59 : decode cX11_noteSafe 59 = .ok (.iconst 2, 1) := by decide +kernel
theorem dX11_noteSafe_60 : decode cX11_noteSafe 60 = .ok (.iastore, 1) := by decide +kernel
theorem dX11_noteSafe_61 : decode cX11_noteSafe 61 = .ok (.iinc 2 1, 3) := by decide +kernel
theorem dX11_noteSafe_64 : decode cX11_noteSafe 64 = .ok (.goto (-62), 3) := by decide +kernel
theorem dX11_noteSafe_67 : decode cX11_noteSafe 67 = .ok (.return_, 1) := by decide +kernel
theorem dX11_noteGone_0 : decode cX11_noteGone 0 = .ok (.iconst 0, 1) := by decide +kernel
theorem dX11_noteGone_1 : decode cX11_noteGone 1 = .ok (.istore_n 2, 1) := by decide +kernel
theorem dX11_noteGone_2 : decode cX11_noteGone 2 = .ok (.iload_n 2, 1) := by decide +kernel
theorem dX11_noteGone_3 : decode cX11_noteGone 3 = .ok (.aload_n 0, 1) := by decide +kernel
theorem dX11_noteGone_4 : decode cX11_noteGone 4 = .ok (.getfield 274, 3) := by decide +kernel
theorem dX11_noteGone_7 : decode cX11_noteGone 7 = .ok (.if_icmp .ge 51, 3) := by decide +kernel
theorem dX11_noteGone_10 : decode cX11_noteGone 10 = .ok (.aload_n 0, 1) := by decide +kernel
theorem dX11_noteGone_11 : decode cX11_noteGone 11 = .ok (.getfield 156, 3) := by decide +kernel
theorem dX11_noteGone_14 : decode cX11_noteGone 14 = .ok (.bipush 10, 2) := by decide +kernel
theorem dX11_noteGone_16 : decode cX11_noteGone 16 = .ok (.iload_n 2, 1) := by decide +kernel
theorem dX11_noteGone_17 : decode cX11_noteGone 17 = .ok (.imul, 1) := by decide +kernel
theorem dX11_noteGone_18 : decode cX11_noteGone 18 = .ok (.iaload, 1) := by decide +kernel
theorem dX11_noteGone_19 : decode cX11_noteGone 19 = .ok (.iload_n 1, 1) := by decide +kernel
theorem dX11_noteGone_20 : decode cX11_noteGone 20 = .ok (.if_icmp .ne 32, 3) := by decide +kernel
theorem dX11_noteGone_23 : decode cX11_noteGone 23 = .ok (.aload_n 0, 1) := by decide +kernel
theorem dX11_noteGone_24 : decode cX11_noteGone 24 = .ok (.getfield 156, 3) := by decide +kernel
theorem dX11_noteGone_27 : decode cX11_noteGone 27 = .ok (.bipush 10, 2) := by decide +kernel
theorem dX11_noteGone_29 : decode cX11_noteGone 29 = .ok (.iload_n 2, 1) := by decide +kernel
theorem dX11_noteGone_30 : decode cX11_noteGone 30 = .ok (.imul, 1) := by decide +kernel
theorem dX11_noteGone_31 : decode cX11_noteGone 31 = .ok (.bipush 9, 2) := by decide +kernel
theorem dX11_noteGone_33 : decode cX11_noteGone 33 = .ok (.iadd, 1) := by decide +kernel
theorem dX11_noteGone_34 : decode cX11_noteGone 34 = .ok (.iaload, 1) := by decide +kernel
theorem dX11_noteGone_35 : decode cX11_noteGone 35 = .ok (.iconst 1, 1) := by decide +kernel
theorem dX11_noteGone_36 : decode cX11_noteGone 36 = .ok (.if_icmp .ne 16, 3) := by decide +kernel
theorem dX11_noteGone_39 : decode cX11_noteGone 39 = .ok (.aload_n 0, 1) := by decide +kernel
theorem dX11_noteGone_40 : decode cX11_noteGone 40 = .ok (.getfield 156, 3) := by decide +kernel
theorem dX11_noteGone_43 : decode cX11_noteGone 43 = .ok (.bipush 10, 2) := by decide +kernel
theorem dX11_noteGone_45 : decode cX11_noteGone 45 = .ok (.iload_n 2, 1) := by decide +kernel
theorem dX11_noteGone_46 : decode cX11_noteGone 46 = .ok (.imul, 1) := by decide +kernel
theorem dX11_noteGone_47 : decode cX11_noteGone 47 = .ok (.bipush 9, 2) := by decide +kernel
theorem dX11_noteGone_49 : decode cX11_noteGone 49 = .ok (.iadd, 1) := by decide +kernel
theorem dX11_noteGone_50 : decode cX11_noteGone 50 = .ok (.iconst 3, 1) := by decide +kernel
theorem dX11_noteGone_51 : decode cX11_noteGone 51 = .ok (.iastore, 1) := by decide +kernel
theorem dX11_noteGone_52 : decode cX11_noteGone 52 = .ok (.iinc 2 1, 3) := by decide +kernel
theorem dX11_noteGone_55 : decode cX11_noteGone 55 = .ok (.goto (-53), 3) := by decide +kernel
theorem dX11_noteGone_58 : decode cX11_noteGone 58 = .ok (.return_, 1) := by decide +kernel
theorem dX11_pinAll_0 : decode cX11_pinAll 0 = .ok (.iconst 0, 1) := by decide +kernel
theorem dX11_pinAll_1 : decode cX11_pinAll 1 = .ok (.istore_n 2, 1) := by decide +kernel
theorem dX11_pinAll_2 : decode cX11_pinAll 2 = .ok (.iload_n 2, 1) := by decide +kernel
theorem dX11_pinAll_3 : decode cX11_pinAll 3 = .ok (.sipush 136, 3) := by decide +kernel
theorem dX11_pinAll_6 : decode cX11_pinAll 6 = .ok (.if_icmp .ge 119, 3) := by decide +kernel
theorem dX11_pinAll_9 : decode cX11_pinAll 9 = .ok (.iload_n 1, 1) := by decide +kernel
theorem dX11_pinAll_10 : decode cX11_pinAll 10 = .ok (.iload_n 2, 1) := by decide +kernel
theorem dX11_pinAll_11 : decode cX11_pinAll 11 = .ok (.invokestatic 208, 3) := by decide +kernel
theorem dX11_pinAll_14 : decode cX11_pinAll 14 = .ok (.istore_n 3, 1) := by decide +kernel
theorem dX11_pinAll_15 : decode cX11_pinAll 15 = .ok (.aload_n 0, 1) := by decide +kernel
theorem dX11_pinAll_16 : decode cX11_pinAll 16 = .ok (.getfield 63, 3) := by decide +kernel
theorem dX11_pinAll_19 : decode cX11_pinAll 19 = .ok (.iload_n 3, 1) := by decide +kernel
theorem dX11_pinAll_20 : decode cX11_pinAll 20 = .ok (.iaload, 1) := by decide +kernel
theorem dX11_pinAll_21 : decode cX11_pinAll 21 = .ok (.ifCond .eq 98, 3) := by decide +kernel
theorem dX11_pinAll_24 : decode cX11_pinAll 24 = .ok (.aload_n 0, 1) := by decide +kernel
theorem dX11_pinAll_25 : decode cX11_pinAll 25 = .ok (.getfield 57, 3) := by decide +kernel
theorem dX11_pinAll_28 : decode cX11_pinAll 28 = .ok (.iload_n 3, 1) := by decide +kernel
theorem dX11_pinAll_29 : decode cX11_pinAll 29 = .ok (.baload, 1) := by decide +kernel
theorem dX11_pinAll_30 : decode cX11_pinAll 30 = .ok (.ifCond .eq 6, 3) := by decide +kernel
theorem dX11_pinAll_33 : decode cX11_pinAll 33 = .ok (.goto 86, 3) := by decide +kernel
theorem dX11_pinAll_36 : decode cX11_pinAll 36 = .ok (.aload_n 0, 1) := by decide +kernel
theorem dX11_pinAll_37 : decode cX11_pinAll 37 = .ok (.getfield 48, 3) := by decide +kernel
theorem dX11_pinAll_40 : decode cX11_pinAll 40 = .ok (.iload_n 3, 1) := by decide +kernel
theorem dX11_pinAll_41 : decode cX11_pinAll 41 = .ok (.iaload, 1) := by decide +kernel
theorem dX11_pinAll_42 : decode cX11_pinAll 42 = .ok (.aload_n 0, 1) := by decide +kernel
theorem dX11_pinAll_43 : decode cX11_pinAll 43 = .ok (.getfield 63, 3) := by decide +kernel
theorem dX11_pinAll_46 : decode cX11_pinAll 46 = .ok (.iload_n 3, 1) := by decide +kernel
theorem dX11_pinAll_47 : decode cX11_pinAll 47 = .ok (.iaload, 1) := by decide +kernel
theorem dX11_pinAll_48 : decode cX11_pinAll 48 = .ok (.if_icmp .lt 13, 3) := by decide +kernel
theorem dX11_pinAll_51 : decode cX11_pinAll 51 = .ok (.aload_n 0, 1) := by decide +kernel
theorem dX11_pinAll_52 : decode cX11_pinAll 52 = .ok (.getfield 54, 3) := by decide +kernel
theorem dX11_pinAll_55 : decode cX11_pinAll 55 = .ok (.iload_n 3, 1) := by decide +kernel
theorem dX11_pinAll_56 : decode cX11_pinAll 56 = .ok (.iaload, 1) := by decide +kernel
theorem dX11_pinAll_57 : decode cX11_pinAll 57 = .ok (.iconst (-1), 1) := by decide +kernel
theorem dX11_pinAll_58 : decode cX11_pinAll 58 = .ok (.if_icmp .eq 54, 3) := by decide +kernel
theorem dX11_pinAll_61 : decode cX11_pinAll 61 = .ok (.aload_n 0, 1) := by decide +kernel
theorem dX11_pinAll_62 : decode cX11_pinAll 62 = .ok (.getfield 54, 3) := by decide +kernel
theorem dX11_pinAll_65 : decode cX11_pinAll 65 = .ok (.iload_n 3, 1) := by decide +kernel
theorem dX11_pinAll_66 : decode cX11_pinAll 66 = .ok (.iaload, 1) := by decide +kernel
theorem dX11_pinAll_67 : decode cX11_pinAll 67 = .ok (.iconst (-1), 1) := by decide +kernel
theorem dX11_pinAll_68 : decode cX11_pinAll 68 = .ok (.if_icmp .ne 42, 3) := by decide +kernel
theorem dX11_pinAll_71 : decode cX11_pinAll 71 = .ok (.aload_n 0, 1) := by decide +kernel
theorem dX11_pinAll_72 : decode cX11_pinAll 72 = .ok (.getfield 51, 3) := by decide +kernel
theorem dX11_pinAll_75 : decode cX11_pinAll 75 = .ok (.iload_n 3, 1) := by decide +kernel
theorem dX11_pinAll_76 : decode cX11_pinAll 76 = .ok (.iaload, 1) := by decide +kernel
theorem dX11_pinAll_77 : decode cX11_pinAll 77 = .ok (.ifCond .ne 33, 3) := by decide +kernel
theorem dX11_pinAll_80 : decode cX11_pinAll 80 = .ok (.aload_n 0, 1) := by decide +kernel
theorem dX11_pinAll_81 : decode cX11_pinAll 81 = .ok (.getfield 51, 3) := by decide +kernel
theorem dX11_pinAll_84 : decode cX11_pinAll 84 = .ok (.iload_n 3, 1) := by decide +kernel
theorem dX11_pinAll_85 : decode cX11_pinAll 85 = .ok (.aload_n 0, 1) := by decide +kernel
theorem dX11_pinAll_86 : decode cX11_pinAll 86 = .ok (.getfield 63, 3) := by decide +kernel
theorem dX11_pinAll_89 : decode cX11_pinAll 89 = .ok (.iload_n 3, 1) := by decide +kernel
theorem dX11_pinAll_90 : decode cX11_pinAll 90 = .ok (.iaload, 1) := by decide +kernel
theorem dX11_pinAll_91 : decode cX11_pinAll 91 = .ok (.iastore, 1) := by decide +kernel
theorem dX11_pinAll_92 : decode cX11_pinAll 92 = .ok (.aload_n 0, 1) := by decide +kernel
theorem dX11_pinAll_93 : decode cX11_pinAll 93 = .ok (.iload_n 1, 1) := by decide +kernel
theorem dX11_pinAll_94 : decode cX11_pinAll 94 = .ok (.aload_n 0, 1) := by decide +kernel
theorem dX11_pinAll_95 : decode cX11_pinAll 95 = .ok (.iload_n 2, 1) := by decide +kernel
theorem dX11_pinAll_96 : decode cX11_pinAll 96 = .ok (.invokevirtual 226, 3) := by decide +kernel
theorem dX11_pinAll_99 : decode cX11_pinAll 99 = .ok (.iconst 0, 1) := by decide +kernel
theorem dX11_pinAll_100 : decode cX11_pinAll 100 = .ok (.iload_n 2, 1) := by decide +kernel
theorem dX11_pinAll_101 : decode cX11_pinAll 101 = .ok (.aload_n 0, 1) := by decide +kernel
theorem dX11_pinAll_102 : decode cX11_pinAll 102 = .ok (.getfield 63, 3) := by decide +kernel
theorem dX11_pinAll_105 : decode cX11_pinAll 105 = .ok (.iload_n 3, 1) := by decide +kernel
theorem dX11_pinAll_106 : decode cX11_pinAll 106 = .ok (.iaload, 1) := by decide +kernel
theorem dX11_pinAll_107 : decode cX11_pinAll 107 = .ok (.invokevirtual 229, 3) := by decide +kernel
theorem dX11_pinAll_110 : decode cX11_pinAll 110 = .ok (.iconst 0, 1) := by decide +kernel
theorem dX11_pinAll_111 : decode cX11_pinAll 111 = .ok (.ireturn, 1) := by decide +kernel
theorem dX11_pinAll_112 : decode cX11_pinAll 112 = .ok (.aload_n 0, 1) := by decide +kernel
theorem dX11_pinAll_113 : decode cX11_pinAll 113 = .ok (.getfield 57, 3) := by decide +kernel
theorem dX11_pinAll_116 : decode cX11_pinAll 116 = .ok (.iload_n 3, 1) := by decide +kernel
theorem dX11_pinAll_117 : decode cX11_pinAll 117 = .ok (.iconst 1, 1) := by decide +kernel
theorem dX11_pinAll_118 : decode cX11_pinAll 118 = .ok (.bastore, 1) := by decide +kernel
theorem dX11_pinAll_119 : decode cX11_pinAll 119 = .ok (.iinc 2 1, 3) := by decide +kernel
theorem dX11_pinAll_122 : decode cX11_pinAll 122 = .ok (.goto (-120), 3) := by decide +kernel
theorem dX11_pinAll_125 : decode cX11_pinAll 125 = .ok (.iconst 1, 1) := by decide +kernel
theorem dX11_pinAll_126 : decode cX11_pinAll 126 = .ok (.ireturn, 1) := by decide +kernel
theorem dX11_goOn_0 : decode cX11_goOn 0 = .ok (.aload_n 0, 1) := by decide +kernel
theorem dX11_goOn_1 : decode cX11_goOn 1 = .ok (.iload_n 1, 1) := by decide +kernel
theorem dX11_goOn_2 : decode cX11_goOn 2 = .ok (.invokevirtual 264, 3) := by decide +kernel
theorem dX11_goOn_5 : decode cX11_goOn 5 = .ok (.istore_n 2, 1) := by decide +kernel
theorem dX11_goOn_6 : decode cX11_goOn 6 = .ok (.iload_n 2, 1) := by decide +kernel
theorem dX11_goOn_7 : decode cX11_goOn 7 = .ok (.ifCond .eq 79, 3) := by decide +kernel
theorem dX11_goOn_10 : decode cX11_goOn 10 = .ok (.aload_n 0, 1) := by decide +kernel
theorem dX11_goOn_11 : decode cX11_goOn 11 = .ok (.getfield 66, 3) := by decide +kernel
theorem dX11_goOn_14 : decode cX11_goOn 14 = .ok (.iload_n 1, 1) := by decide +kernel
theorem dX11_goOn_15 : decode cX11_goOn 15 = .ok (.iaload, 1) := by decide +kernel
theorem dX11_goOn_16 : decode cX11_goOn 16 = .ok (.bipush 10, 2) := by decide +kernel
theorem dX11_goOn_18 : decode cX11_goOn 18 = .ok (.if_icmp .ne 13, 3) := by decide +kernel
theorem dX11_goOn_21 : decode cX11_goOn 21 = .ok (.iconst 0, 1) := by decide +kernel
theorem dX11_goOn_22 : decode cX11_goOn 22 = .ok (.istore_n 2, 1) := by decide +kernel
theorem dX11_goOn_23 : decode cX11_goOn 23 = .ok (.aload_n 0, 1) := by decide +kernel
theorem dX11_goOn_24 : decode cX11_goOn 24 = .ok (.iload_n 1, 1) := by decide +kernel
theorem dX11_goOn_25 : decode cX11_goOn 25 = .ok (.invokevirtual 277, 3) := by decide +kernel
theorem dX11_goOn_28 : decode cX11_goOn 28 = .ok (.goto (-22), 3) := by decide +kernel
theorem dX11_goOn_31 : decode cX11_goOn 31 = .ok (.aload_n 0, 1) := by decide +kernel
theorem dX11_goOn_32 : decode cX11_goOn 32 = .ok (.getfield 99, 3) := by decide +kernel
theorem dX11_goOn_35 : decode cX11_goOn 35 = .ok (.iload_n 1, 1) := by decide +kernel
theorem dX11_goOn_36 : decode cX11_goOn 36 = .ok (.baload, 1) := by decide +kernel
theorem dX11_goOn_37 : decode cX11_goOn 37 = .ok (.ifCond .eq 17, 3) := by decide +kernel
theorem dX11_goOn_40 : decode cX11_goOn 40 = .ok (.aload_n 0, 1) := by decide +kernel
theorem dX11_goOn_41 : decode cX11_goOn 41 = .ok (.getfield 36, 3) := by decide +kernel
theorem dX11_goOn_44 : decode cX11_goOn 44 = .ok (.iload_n 1, 1) := by decide +kernel
theorem dX11_goOn_45 : decode cX11_goOn 45 = .ok (.iaload, 1) := by decide +kernel
theorem dX11_goOn_46 : decode cX11_goOn 46 = .ok (.ifCond .le 8, 3) := by decide +kernel
theorem dX11_goOn_49 : decode cX11_goOn 49 = .ok (.iconst 0, 1) := by decide +kernel
theorem dX11_goOn_50 : decode cX11_goOn 50 = .ok (.istore_n 2, 1) := by decide +kernel
theorem dX11_goOn_51 : decode cX11_goOn 51 = .ok (.goto (-45), 3) := by decide +kernel
theorem dX11_goOn_54 : decode cX11_goOn 54 = .ok (.aload_n 0, 1) := by decide +kernel
theorem dX11_goOn_55 : decode cX11_goOn 55 = .ok (.getfield 99, 3) := by decide +kernel
theorem dX11_goOn_58 : decode cX11_goOn 58 = .ok (.iload_n 1, 1) := by decide +kernel
theorem dX11_goOn_59 : decode cX11_goOn 59 = .ok (.iconst 0, 1) := by decide +kernel
theorem dX11_goOn_60 : decode cX11_goOn 60 = .ok (.bastore, 1) := by decide +kernel
theorem dX11_goOn_61 : decode cX11_goOn 61 = .ok (.aload_n 0, 1) := by decide +kernel
theorem dX11_goOn_62 : decode cX11_goOn 62 = .ok (.iload_n 1, 1) := by decide +kernel
theorem dX11_goOn_63 : decode cX11_goOn 63 = .ok (.invokevirtual 280, 3) := by decide +kernel
theorem dX11_goOn_66 : decode cX11_goOn 66 = .ok (.ifCond .eq 15, 3) := by decide +kernel
theorem dX11_goOn_69 : decode cX11_goOn 69 = .ok (.aload_n 0, 1) := by decide +kernel
theorem dX11_goOn_70 : decode cX11_goOn 70 = .ok (.iload_n 1, 1) := by decide +kernel
theorem dX11_goOn_71 : decode cX11_goOn 71 = .ok (.invokevirtual 283, 3) := by decide +kernel
theorem dX11_goOn_74 : decode cX11_goOn 74 = .ok (.ifCond .eq 7, 3) := by decide +kernel
theorem dX11_goOn_77 : decode cX11_goOn 77 = .ok (.iconst 1, 1) := by decide +kernel
theorem dX11_goOn_78 : decode cX11_goOn 78 = .ok (.goto 4, 3) := by decide +kernel
theorem dX11_goOn_81 : decode cX11_goOn 81 = .ok (.iconst 0, 1) := by decide +kernel
theorem dX11_goOn_82 : decode cX11_goOn 82 = .ok (.istore_n 2, 1) := by decide +kernel
theorem dX11_goOn_83 : decode cX11_goOn 83 = .ok (.goto (-77), 3) := by decide +kernel
theorem dX11_goOn_86 : decode cX11_goOn 86 = .ok (.return_, 1) := by decide +kernel
theorem dX11_goOnSync_0 : decode cX11_goOnSync 0 = .ok (.aload_n 0, 1) := by decide +kernel
theorem dX11_goOnSync_1 : decode cX11_goOnSync 1 = .ok (.getfield 36, 3) := by decide +kernel
theorem dX11_goOnSync_4 : decode cX11_goOnSync 4 = .ok (.iload_n 1, 1) := by decide +kernel
theorem dX11_goOnSync_5 : decode cX11_goOnSync 5 = .ok (.iaload, 1) := by decide +kernel
theorem dX11_goOnSync_6 : decode cX11_goOnSync 6 = .ok (.ifCond .ne 40, 3) := by decide +kernel
theorem dX11_goOnSync_9 : decode cX11_goOnSync 9 = .ok (.aload_n 0, 1) := by decide +kernel
theorem dX11_goOnSync_10 : decode cX11_goOnSync 10 = .ok (.getfield 30, 3) := by decide +kernel
theorem dX11_goOnSync_13 : decode cX11_goOnSync 13 = .ok (.iload_n 1, 1) := by decide +kernel
theorem dX11_goOnSync_14 : decode cX11_goOnSync 14 = .ok (.iaload, 1) := by decide +kernel
theorem dX11_goOnSync_15 : decode cX11_goOnSync 15 = .ok (.ifCond .ne 31, 3) := by decide +kernel
theorem dX11_goOnSync_18 : decode cX11_goOnSync 18 = .ok (.aload_n 0, 1) := by decide +kernel
theorem dX11_goOnSync_19 : decode cX11_goOnSync 19 = .ok (.getfield 93, 3) := by decide +kernel
theorem dX11_goOnSync_22 : decode cX11_goOnSync 22 = .ok (.iload_n 1, 1) := by decide +kernel
theorem dX11_goOnSync_23 : decode cX11_goOnSync 23 = .ok (.dup2, 1) := by decide +kernel
theorem dX11_goOnSync_24 : decode cX11_goOnSync 24 = .ok (.iaload, 1) := by decide +kernel
theorem dX11_goOnSync_25 : decode cX11_goOnSync 25 = .ok (.iconst 1, 1) := by decide +kernel
theorem dX11_goOnSync_26 : decode cX11_goOnSync 26 = .ok (.iadd, 1) := by decide +kernel
theorem dX11_goOnSync_27 : decode cX11_goOnSync 27 = .ok (.iastore, 1) := by decide +kernel
theorem dX11_goOnSync_28 : decode cX11_goOnSync 28 = .ok (.aload_n 0, 1) := by decide +kernel
theorem dX11_goOnSync_29 : decode cX11_goOnSync 29 = .ok (.iload_n 1, 1) := by decide +kernel
theorem dX11_goOnSync_30 : decode cX11_goOnSync 30 = .ok (.iconst 2, 1) := by decide +kernel
theorem dX11_goOnSync_31 : decode cX11_goOnSync 31 = .ok (.iconst 0, 1) := by decide +kernel
theorem dX11_goOnSync_32 : decode cX11_goOnSync 32 = .ok (.iconst 0, 1) := by decide +kernel
theorem dX11_goOnSync_33 : decode cX11_goOnSync 33 = .ok (.invokevirtual 286, 3) := by decide +kernel
theorem dX11_goOnSync_36 : decode cX11_goOnSync 36 = .ok (.aload_n 0, 1) := by decide +kernel
theorem dX11_goOnSync_37 : decode cX11_goOnSync 37 = .ok (.iload_n 1, 1) := by decide +kernel
theorem dX11_goOnSync_38 : decode cX11_goOnSync 38 = .ok (.iconst 2, 1) := by decide +kernel
theorem dX11_goOnSync_39 : decode cX11_goOnSync 39 = .ok (.iconst 0, 1) := by decide +kernel
theorem dX11_goOnSync_40 : decode cX11_goOnSync 40 = .ok (.invokevirtual 289, 3) := by decide +kernel
theorem dX11_goOnSync_43 : decode cX11_goOnSync 43 = .ok (.goto 17, 3) := by decide +kernel
theorem dX11_goOnSync_46 : decode cX11_goOnSync 46 = .ok (.aload_n 0, 1) := by decide +kernel
theorem dX11_goOnSync_47 : decode cX11_goOnSync 47 = .ok (.getfield 36, 3) := by decide +kernel
theorem dX11_goOnSync_50 : decode cX11_goOnSync 50 = .ok (.iload_n 1, 1) := by decide +kernel
theorem dX11_goOnSync_51 : decode cX11_goOnSync 51 = .ok (.iaload, 1) := by decide +kernel
theorem dX11_goOnSync_52 : decode cX11_goOnSync 52 = .ok (.ifCond .ne 8, 3) := by decide +kernel
theorem dX11_goOnSync_55 : decode cX11_goOnSync 55 = .ok (.aload_n 0, 1) := by decide +kernel
theorem dX11_goOnSync_56 : decode cX11_goOnSync 56 = .ok (.iload_n 1, 1) := by decide +kernel
theorem dX11_goOnSync_57 : decode cX11_goOnSync 57 = .ok (.invokevirtual 237, 3) := by decide +kernel
theorem dX11_goOnSync_60 : decode cX11_goOnSync 60 = .ok (.return_, 1) := by decide +kernel
theorem dX11_isTriedAgain_0 : decode cX11_isTriedAgain 0 = .ok (.aload_n 0, 1) := by decide +kernel
theorem dX11_isTriedAgain_1 : decode cX11_isTriedAgain 1 = .ok (.getfield 93, 3) := by decide +kernel
theorem dX11_isTriedAgain_4 : decode cX11_isTriedAgain 4 = .ok (.iload_n 1, 1) := by decide +kernel
theorem dX11_isTriedAgain_5 : decode cX11_isTriedAgain 5 = .ok (.dup2, 1) := by decide +kernel
theorem dX11_isTriedAgain_6 : decode cX11_isTriedAgain 6 = .ok (.iaload, 1) := by decide +kernel
theorem dX11_isTriedAgain_7 : decode cX11_isTriedAgain 7 = .ok (.iconst 1, 1) := by decide +kernel
theorem dX11_isTriedAgain_8 : decode cX11_isTriedAgain 8 = .ok (.iadd, 1) := by decide +kernel
theorem dX11_isTriedAgain_9 : decode cX11_isTriedAgain 9 = .ok (.iastore, 1) := by decide +kernel
theorem dX11_isTriedAgain_10 : decode cX11_isTriedAgain 10 = .ok (.aload_n 0, 1) := by decide +kernel
theorem dX11_isTriedAgain_11 : decode cX11_isTriedAgain 11 = .ok (.iload_n 1, 1) := by decide +kernel
theorem dX11_isTriedAgain_12 : decode cX11_isTriedAgain 12 = .ok (.invokevirtual 292, 3) := by decide +kernel
theorem dX11_isTriedAgain_15 : decode cX11_isTriedAgain 15 = .ok (.aload_n 0, 1) := by decide +kernel
theorem dX11_isTriedAgain_16 : decode cX11_isTriedAgain 16 = .ok (.getfield 295, 3) := by decide +kernel
theorem dX11_isTriedAgain_19 : decode cX11_isTriedAgain 19 = .ok (.iconst (-1), 1) := by decide +kernel
theorem dX11_isTriedAgain_20 : decode cX11_isTriedAgain 20 = .ok (.if_icmp .eq 70, 3) := by decide +kernel
theorem dX11_isTriedAgain_23 : decode cX11_isTriedAgain 23 = .ok (.aload_n 0, 1) := by decide +kernel
theorem dX11_isTriedAgain_24 : decode cX11_isTriedAgain 24 = .ok (.invokevirtual 298, 3) := by decide +kernel
theorem dX11_isTriedAgain_27 : decode cX11_isTriedAgain 27 = .ok (.aload_n 0, 1) := by decide +kernel
theorem dX11_isTriedAgain_28 : decode cX11_isTriedAgain 28 = .ok (.getfield 96, 3) := by decide +kernel
theorem dX11_isTriedAgain_31 : decode cX11_isTriedAgain 31 = .ok (.iload_n 1, 1) := by decide +kernel
theorem dX11_isTriedAgain_32 : decode cX11_isTriedAgain 32 = .ok (.aload_n 0, 1) := by decide +kernel
theorem dX11_isTriedAgain_33 : decode cX11_isTriedAgain 33 = .ok (.getfield 63, 3) := by decide +kernel
theorem dX11_isTriedAgain_36 : decode cX11_isTriedAgain 36 = .ok (.iload_n 1, 1) := by decide +kernel
theorem dX11_isTriedAgain_37 : decode cX11_isTriedAgain 37 = .ok (.aload_n 0, 1) := by decide +kernel
theorem dX11_isTriedAgain_38 : decode cX11_isTriedAgain 38 = .ok (.getfield 295, 3) := by decide +kernel
theorem dX11_isTriedAgain_41 : decode cX11_isTriedAgain 41 = .ok (.invokestatic 208, 3) := by decide +kernel
theorem dX11_isTriedAgain_44 : decode cX11_isTriedAgain 44 = .ok (.iaload, 1) := by decide +kernel
theorem dX11_isTriedAgain_45 : decode cX11_isTriedAgain 45 = .ok (.ifCond .ne 14, 3) := by decide +kernel
theorem dX11_isTriedAgain_48 : decode cX11_isTriedAgain 48 = .ok (.aload_n 0, 1) := by decide +kernel
theorem dX11_isTriedAgain_49 : decode cX11_isTriedAgain 49 = .ok (.getfield 96, 3) := by decide +kernel
theorem dX11_isTriedAgain_52 : decode cX11_isTriedAgain 52 = .ok (.iload_n 1, 1) := by decide +kernel
theorem dX11_isTriedAgain_53 : decode cX11_isTriedAgain 53 = .ok (.iaload, 1) := by decide +kernel
theorem dX11_isTriedAgain_54 : decode cX11_isTriedAgain 54 = .ok (.iconst 1, 1) := by decide +kernel
theorem dX11_isTriedAgain_55 : decode cX11_isTriedAgain 55 = .ok (.iadd, 1) := by decide +kernel
theorem dX11_isTriedAgain_56 : decode cX11_isTriedAgain 56 = .ok (.goto 9, 3) := by decide +kernel
theorem dX11_isTriedAgain_59 : decode cX11_isTriedAgain 59 = .ok (.aload_n 0, 1) := by decide +kernel
theorem dX11_isTriedAgain_60 : decode cX11_isTriedAgain 60 = .ok (.getfield 96, 3) := by decide +kernel
theorem dX11_isTriedAgain_63 : decode cX11_isTriedAgain 63 = .ok (.iload_n 1, 1) := by decide +kernel
theorem dX11_isTriedAgain_64 : decode cX11_isTriedAgain 64 = .ok (.iaload, 1) := by decide +kernel
theorem dX11_isTriedAgain_65 : decode cX11_isTriedAgain 65 = .ok (.iastore, 1) := by decide +kernel
theorem dX11_isTriedAgain_66 : decode cX11_isTriedAgain 66 = .ok (.aload_n 0, 1) := by decide +kernel
theorem dX11_isTriedAgain_67 : decode cX11_isTriedAgain 67 = .ok (.getfield 63, 3) := by decide +kernel
theorem dX11_isTriedAgain_70 : decode cX11_isTriedAgain 70 = .ok (.iload_n 1, 1) := by decide +kernel
theorem dX11_isTriedAgain_71 : decode cX11_isTriedAgain 71 = .ok (.aload_n 0, 1) := by decide +kernel
theorem dX11_isTriedAgain_72 : decode cX11_isTriedAgain 72 = .ok (.getfield 295, 3) := by decide +kernel
theorem dX11_isTriedAgain_75 : decode cX11_isTriedAgain 75 = .ok (.invokestatic 208, 3) := by decide +kernel
theorem dX11_isTriedAgain_78 : decode cX11_isTriedAgain 78 = .ok (.aload_n 0, 1) := by decide +kernel
theorem dX11_isTriedAgain_79 : decode cX11_isTriedAgain 79 = .ok (.getfield 301, 3) := by decide +kernel
theorem dX11_isTriedAgain_82 : decode cX11_isTriedAgain 82 = .ok (.iastore, 1) := by decide +kernel
theorem dX11_isTriedAgain_83 : decode cX11_isTriedAgain 83 = .ok (.aload_n 0, 1) := by decide +kernel
theorem dX11_isTriedAgain_84 : decode cX11_isTriedAgain 84 = .ok (.iload_n 1, 1) := by decide +kernel
theorem dX11_isTriedAgain_85 : decode cX11_isTriedAgain 85 = .ok (.invokevirtual 271, 3) := by decide +kernel
theorem dX11_isTriedAgain_88 : decode cX11_isTriedAgain 88 = .ok (.iconst 1, 1) := by decide +kernel
theorem dX11_isTriedAgain_89 : decode cX11_isTriedAgain 89 = .ok (.ireturn, 1) := by decide +kernel
theorem dX11_isTriedAgain_90 : decode cX11_isTriedAgain 90 = .ok (.aload_n 0, 1) := by decide +kernel
theorem dX11_isTriedAgain_91 : decode cX11_isTriedAgain 91 = .ok (.getfield 304, 3) := by decide +kernel
theorem dX11_isTriedAgain_94 : decode cX11_isTriedAgain 94 = .ok (.ifCond .eq 30, 3) := by decide +kernel
theorem dX11_isTriedAgain_97 : decode cX11_isTriedAgain 97 = .ok (.aload_n 0, 1) := by decide +kernel
theorem dX11_isTriedAgain_98 : decode cX11_isTriedAgain 98 = .ok (.invokevirtual 298, 3) := by decide +kernel
theorem dX11_isTriedAgain_101 : decode cX11_isTriedAgain 101 = .ok (.aload_n 0, 1) := by decide +kernel
theorem dX11_isTriedAgain_102 : decode cX11_isTriedAgain 102 = .ok (.iload_n 1, 1) := by decide +kernel
theorem dX11_isTriedAgain_103 : decode cX11_isTriedAgain 103 = .ok (.iconst 3, 1) := by decide +kernel
theorem dX11_isTriedAgain_104 : decode cX11_isTriedAgain 104 = .ok (.aload_n 0, 1) := by decide +kernel
theorem dX11_isTriedAgain_105 : decode cX11_isTriedAgain 105 = .ok (.getfield 304, 3) := by decide +kernel
theorem dX11_isTriedAgain_108 : decode cX11_isTriedAgain 108 = .ok (.iconst 0, 1) := by decide +kernel
theorem dX11_isTriedAgain_109 : decode cX11_isTriedAgain 109 = .ok (.invokevirtual 286, 3) := by decide +kernel
theorem dX11_isTriedAgain_112 : decode cX11_isTriedAgain 112 = .ok (.aload_n 0, 1) := by decide +kernel
theorem dX11_isTriedAgain_113 : decode cX11_isTriedAgain 113 = .ok (.iload_n 1, 1) := by decide +kernel
theorem dX11_isTriedAgain_114 : decode cX11_isTriedAgain 114 = .ok (.iconst 3, 1) := by decide +kernel
theorem dX11_isTriedAgain_115 : decode cX11_isTriedAgain 115 = .ok (.aload_n 0, 1) := by decide +kernel
theorem dX11_isTriedAgain_116 : decode cX11_isTriedAgain 116 = .ok (.getfield 304, 3) := by decide +kernel
theorem dX11_isTriedAgain_119 : decode cX11_isTriedAgain 119 = .ok (.invokevirtual 289, 3) := by decide +kernel
theorem dX11_isTriedAgain_122 : decode cX11_isTriedAgain 122 = .ok (.iconst 0, 1) := by decide +kernel
theorem dX11_isTriedAgain_123 : decode cX11_isTriedAgain 123 = .ok (.ireturn, 1) := by decide +kernel
theorem dX11_isTriedAgain_124 : decode cX11_isTriedAgain 124 = .ok (.aload_n 0, 1) := by decide +kernel
theorem dX11_isTriedAgain_125 : decode cX11_isTriedAgain 125 = .ok (.getfield 30, 3) := by decide +kernel
theorem dX11_isTriedAgain_128 : decode cX11_isTriedAgain 128 = .ok (.iload_n 1, 1) := by decide +kernel
theorem dX11_isTriedAgain_129 : decode cX11_isTriedAgain 129 = .ok (.iaload, 1) := by decide +kernel
theorem dX11_isTriedAgain_130 : decode cX11_isTriedAgain 130 = .ok (.istore_n 2, 1) := by decide +kernel
theorem dX11_isTriedAgain_131 : decode cX11_isTriedAgain 131 = .ok (.iconst 0, 1) := by decide +kernel
theorem dX11_isTriedAgain_132 : decode cX11_isTriedAgain 132 = .ok (.istore_n 3, 1) := by decide +kernel
theorem dX11_isTriedAgain_133 : decode cX11_isTriedAgain 133 = .ok (.iload_n 3, 1) := by decide +kernel
theorem dX11_isTriedAgain_134 : decode cX11_isTriedAgain 134 = .ok (.aload_n 0, 1) := by decide +kernel
theorem dX11_isTriedAgain_135 : decode cX11_isTriedAgain 135 = .ok (.getfield 307, 3) := by decide +kernel
theorem dX11_isTriedAgain_138 : decode cX11_isTriedAgain 138 = .ok (.if_icmp .ge 37, 3) := by decide +kernel
theorem dX11_isTriedAgain_141 : decode cX11_isTriedAgain 141 = .ok (.aload_n 0, 1) := by decide +kernel
theorem dX11_isTriedAgain_142 : decode cX11_isTriedAgain 142 = .ok (.getfield 27, 3) := by decide +kernel
theorem dX11_isTriedAgain_145 : decode cX11_isTriedAgain 145 = .ok (.sipush 640, 3) := by decide +kernel
theorem dX11_isTriedAgain_148 : decode cX11_isTriedAgain 148 = .ok (.iload_n 1, 1) := by decide +kernel
theorem dX11_isTriedAgain_149 : decode cX11_isTriedAgain 149 = .ok (.imul, 1) := by decide +kernel
theorem dX11_isTriedAgain_150 : decode cX11_isTriedAgain 150 = .ok (.aload_n 0, 1) := by decide +kernel
theorem dX11_isTriedAgain_151 : decode cX11_isTriedAgain 151 = .ok (.getfield 141, 3) := by decide +kernel
theorem dX11_isTriedAgain_154 : decode cX11_isTriedAgain 154 = .ok (.iload_n 3, 1) := by decide +kernel
theorem dX11_isTriedAgain_155 : decode cX11_isTriedAgain 155 = .ok (.iaload, 1) := by decide +kernel
theorem dX11_isTriedAgain_156 : decode cX11_isTriedAgain 156 = .ok (.iadd, 1) := by decide +kernel
theorem dX11_isTriedAgain_157 : decode cX11_isTriedAgain 157 = .ok (.baload, 1) := by decide +kernel
theorem dX11_isTriedAgain_158 : decode cX11_isTriedAgain 158 = .ok (.ifCond .eq 7, 3) := by decide +kernel
theorem dX11_isTriedAgain_161 : decode cX11_isTriedAgain 161 = .ok (.iload_n 2, 1) := by decide +kernel
theorem dX11_isTriedAgain_162 : decode cX11_isTriedAgain 162 = .ok (.goto 6, 3) := by decide +kernel
theorem dX11_isTriedAgain_165 : decode cX11_isTriedAgain 165 = .ok (.iload_n 2, 1) := by decide +kernel
theorem dX11_isTriedAgain_166 : decode cX11_isTriedAgain 166 = .ok (.iconst 1, 1) := by decide +kernel
theorem dX11_isTriedAgain_167 : decode cX11_isTriedAgain 167 = .ok (.iadd, 1) := by decide +kernel
theorem dX11_isTriedAgain_168 : decode cX11_isTriedAgain 168 = .ok (.istore_n 2, 1) := by decide +kernel
theorem dX11_isTriedAgain_169 : decode cX11_isTriedAgain 169 = .ok (.iinc 3 1, 3) := by decide +kernel
theorem dX11_isTriedAgain_172 : decode cX11_isTriedAgain 172 = .ok (.goto (-39), 3) := by decide +kernel
theorem dX11_isTriedAgain_175 : decode cX11_isTriedAgain 175 = .ok (.iconst 0, 1) := by decide +kernel
theorem dX11_isTriedAgain_176 : decode cX11_isTriedAgain 176 = .ok (.istore_n 3, 1) := by decide +kernel
theorem dX11_isTriedAgain_177 : decode cX11_isTriedAgain 177 = .ok (.iload_n 3, 1) := by decide +kernel
theorem dX11_isTriedAgain_178 : decode cX11_isTriedAgain 178 = .ok (.aload_n 0, 1) := by decide +kernel
theorem dX11_isTriedAgain_179 : decode cX11_isTriedAgain 179 = .ok (.getfield 310, 3) := by decide +kernel
theorem dX11_isTriedAgain_182 : decode cX11_isTriedAgain 182 = .ok (.if_icmp .ge 51, 3) := by decide +kernel
theorem dX11_isTriedAgain_185 : decode cX11_isTriedAgain 185 = .ok (.aload_n 0, 1) := by decide +kernel
theorem dX11_isTriedAgain_186 : decode cX11_isTriedAgain 186 = .ok (.getfield 27, 3) := by decide +kernel
theorem dX11_isTriedAgain_189 : decode cX11_isTriedAgain 189 = .ok (.sipush 640, 3) := by decide +kernel
theorem dX11_isTriedAgain_192 : decode cX11_isTriedAgain 192 = .ok (.iload_n 1, 1) := by decide +kernel
theorem dX11_isTriedAgain_193 : decode cX11_isTriedAgain 193 = .ok (.imul, 1) := by decide +kernel
theorem dX11_isTriedAgain_194 : decode cX11_isTriedAgain 194 = .ok (.aload_n 0, 1) := by decide +kernel
theorem dX11_isTriedAgain_195 : decode cX11_isTriedAgain 195 = .ok (.getfield 153, 3) := by decide +kernel
theorem dX11_isTriedAgain_198 : decode cX11_isTriedAgain 198 = .ok (.iload_n 3, 1) := by decide +kernel
theorem dX11_isTriedAgain_199 : decode cX11_isTriedAgain 199 = .ok (.iaload, 1) := by decide +kernel
theorem dX11_isTriedAgain_200 : decode cX11_isTriedAgain 200 = .ok (.iadd, 1) := by decide +kernel
theorem dX11_isTriedAgain_201 : decode cX11_isTriedAgain 201 = .ok (.baload, 1) := by decide +kernel
theorem dX11_isTriedAgain_202 : decode cX11_isTriedAgain 202 = .ok (.ifCond .ne 17, 3) := by decide +kernel
theorem dX11_isTriedAgain_205 : decode cX11_isTriedAgain 205 = .ok (.aload_n 0, 1) := by decide +kernel
theorem dX11_isTriedAgain_206 : decode cX11_isTriedAgain 206 = .ok (.getfield 147, 3) := by decide +kernel
theorem dX11_isTriedAgain_209 : decode cX11_isTriedAgain 209 = .ok (.aload_n 0, 1) := by decide +kernel
theorem dX11_isTriedAgain_210 : decode cX11_isTriedAgain 210 = .ok (.getfield 153, 3) := by decide +kernel
theorem dX11_isTriedAgain_213 : decode cX11_isTriedAgain 213 = .ok (.iload_n 3, 1) := by decide +kernel
theorem dX11_isTriedAgain_214 : decode cX11_isTriedAgain 214 = .ok (.iaload, 1) := by decide +kernel
theorem dX11_isTriedAgain_215 : decode cX11_isTriedAgain 215 = .ok (.baload, 1) := by decide +kernel
theorem dX11_isTriedAgain_216 : decode cX11_isTriedAgain 216 = .ok (.ifCond .eq 9, 3) := by decide +kernel
theorem dX11_isTriedAgain_219 : decode cX11_isTriedAgain 219 = .ok (.iload_n 2, 1) := by decide +kernel
theorem dX11_isTriedAgain_220 : decode cX11_isTriedAgain 220 = .ok (.iconst 1, 1) := by decide +kernel
theorem dX11_isTriedAgain_221 : decode cX11_isTriedAgain 221 = .ok (.isub, 1) := by decide +kernel
theorem dX11_isTriedAgain_222 : decode cX11_isTriedAgain 222 = .ok (.goto 4, 3) := by decide +kernel
theorem dX11_isTriedAgain_225 : decode cX11_isTriedAgain 225 = .ok (.iload_n 2, 1) := by decide +kernel
theorem dX11_isTriedAgain_226 : decode cX11_isTriedAgain 226 = .ok (.istore_n 2, 1) := by decide +kernel
theorem dX11_isTriedAgain_227 : decode cX11_isTriedAgain 227 = .ok (.iinc 3 1, 3) := by decide +kernel
theorem dX11_isTriedAgain_230 : decode cX11_isTriedAgain 230 = .ok (.goto (-53), 3) := by decide +kernel
theorem dX11_isTriedAgain_233 : decode cX11_isTriedAgain 233 = .ok (.iload_n 2, 1) := by decide +kernel
theorem dX11_isTriedAgain_234 : decode cX11_isTriedAgain 234 = .ok (.bipush 16, 2) := by decide +kernel
theorem dX11_isTriedAgain_236 : decode cX11_isTriedAgain 236 = .ok (.if_icmp .le 57, 3) := by decide +kernel
theorem dX11_isTriedAgain_239 : decode cX11_isTriedAgain 239 = .ok (.aload_n 0, 1) := by decide +kernel
theorem dX11_isTriedAgain_240 : decode cX11_isTriedAgain 240 = .ok (.invokevirtual 298, 3) := by decide +kernel
theorem dX11_isTriedAgain_243 : decode cX11_isTriedAgain 243 = .ok (.aload_n 0, 1) := by decide +kernel
theorem dX11_isTriedAgain_244 : decode cX11_isTriedAgain 244 = .ok (.iload_n 1, 1) := by decide +kernel
theorem dX11_isTriedAgain_245 : decode cX11_isTriedAgain 245 = .ok (.invokevirtual 271, 3) := by decide +kernel
theorem dX11_isTriedAgain_248 : decode cX11_isTriedAgain 248 = .ok (.aload_n 0, 1) := by decide +kernel
theorem dX11_isTriedAgain_249 : decode cX11_isTriedAgain 249 = .ok (.getfield 99, 3) := by decide +kernel
theorem dX11_isTriedAgain_252 : decode cX11_isTriedAgain 252 = .ok (.iload_n 1, 1) := by decide +kernel
theorem dX11_isTriedAgain_253 : decode cX11_isTriedAgain 253 = .ok (.iconst 1, 1) := by decide +kernel
theorem dX11_isTriedAgain_254 : decode cX11_isTriedAgain 254 = .ok (.bastore, 1) := by decide +kernel
theorem dX11_isTriedAgain_255 : decode cX11_isTriedAgain 255 = .ok (.aload_n 0, 1) := by decide +kernel
theorem dX11_isTriedAgain_256 : decode cX11_isTriedAgain 256 = .ok (.getfield 36, 3) := by decide +kernel
theorem dX11_isTriedAgain_259 : decode cX11_isTriedAgain 259 = .ok (.iload_n 1, 1) := by decide +kernel
theorem dX11_isTriedAgain_260 : decode cX11_isTriedAgain 260 = .ok (.iaload, 1) := by decide +kernel
theorem dX11_isTriedAgain_261 : decode cX11_isTriedAgain 261 = .ok (.ifCond .ne 17, 3) := by decide +kernel
theorem dX11_isTriedAgain_264 : decode cX11_isTriedAgain 264 = .ok (.aload_n 0, 1) := by decide +kernel
theorem dX11_isTriedAgain_265 : decode cX11_isTriedAgain 265 = .ok (.getfield 30, 3) := by decide +kernel
theorem dX11_isTriedAgain_268 : decode cX11_isTriedAgain 268 = .ok (.iload_n 1, 1) := by decide +kernel
theorem dX11_isTriedAgain_269 : decode cX11_isTriedAgain 269 = .ok (.iaload, 1) := by decide +kernel
theorem dX11_isTriedAgain_270 : decode cX11_isTriedAgain 270 = .ok (.ifCond .le 8, 3) := by decide +kernel
theorem dX11_isTriedAgain_273 : decode cX11_isTriedAgain 273 = .ok (.aload_n 0, 1) := by decide +kernel
theorem dX11_isTriedAgain_274 : decode cX11_isTriedAgain 274 = .ok (.iload_n 1, 1) := by decide +kernel
theorem dX11_isTriedAgain_275 : decode cX11_isTriedAgain 275 = .ok (.invokevirtual 237, 3) := by decide +kernel
theorem dX11_isTriedAgain_278 : decode cX11_isTriedAgain 278 = .ok (.aload_n 0, 1) := by decide +kernel
theorem dX11_isTriedAgain_279 : decode cX11_isTriedAgain 279 = .ok (.getfield 36, 3) := by decide +kernel
theorem dX11_isTriedAgain_282 : decode cX11_isTriedAgain 282 = .ok (.iload_n 1, 1) := by decide +kernel
theorem dX11_isTriedAgain_283 : decode cX11_isTriedAgain 283 = .ok (.iaload, 1) := by decide +kernel
theorem dX11_isTriedAgain_284 : decode cX11_isTriedAgain 284 = .ok (.ifCond .ne 7, 3) := by decide +kernel
theorem dX11_isTriedAgain_287 : decode cX11_isTriedAgain 287 = .ok (.iconst 1, 1) := by decide +kernel
theorem dX11_isTriedAgain_288 : decode cX11_isTriedAgain 288 = .ok (.goto 4, 3) := by decide +kernel
theorem dX11_isTriedAgain_291 : decode cX11_isTriedAgain 291 = .ok (.iconst 0, 1) := by decide +kernel
theorem dX11_isTriedAgain_292 : decode cX11_isTriedAgain 292 = .ok (.ireturn, 1) := by decide +kernel
theorem dX11_isTriedAgain_293 : decode cX11_isTriedAgain 293 = .ok (.aload_n 0, 1) := by decide +kernel
theorem dX11_isTriedAgain_294 : decode cX11_isTriedAgain 294 = .ok (.getfield 307, 3) := by decide +kernel
theorem dX11_isTriedAgain_297 : decode cX11_isTriedAgain 297 = .ok (.ifCond .le 7, 3) := by decide +kernel
theorem dX11_isTriedAgain_300 : decode cX11_isTriedAgain 300 = .ok (.iconst 1, 1) := by decide +kernel
theorem dX11_isTriedAgain_301 : decode cX11_isTriedAgain 301 = .ok (.goto 4, 3) := by decide +kernel
theorem dX11_isTriedAgain_304 : decode cX11_isTriedAgain 304 = .ok (.iconst 0, 1) := by decide +kernel
theorem dX11_isTriedAgain_305 : decode cX11_isTriedAgain 305 = .ok (.istore_n 3, 1) := by decide +kernel
theorem dX11_isTriedAgain_306 : decode cX11_isTriedAgain 306 = .ok (.aload_n 0, 1) := by decide +kernel
theorem dX11_isTriedAgain_307 : decode cX11_isTriedAgain 307 = .ok (.iload_n 1, 1) := by decide +kernel
theorem dX11_isTriedAgain_308 : decode cX11_isTriedAgain 308 = .ok (.invokevirtual 313, 3) := by decide +kernel
theorem dX11_isTriedAgain_311 : decode cX11_isTriedAgain 311 = .ok (.aload_n 0, 1) := by decide +kernel
theorem dX11_isTriedAgain_312 : decode cX11_isTriedAgain 312 = .ok (.iload_n 1, 1) := by decide +kernel
theorem dX11_isTriedAgain_313 : decode cX11_isTriedAgain 313 = .ok (.iconst 2, 1) := by decide +kernel
theorem dX11_isTriedAgain_314 : decode cX11_isTriedAgain 314 = .ok (.aload_n 0, 1) := by decide +kernel
theorem dX11_isTriedAgain_315 : decode cX11_isTriedAgain 315 = .ok (.getfield 316, 3) := by decide +kernel
theorem dX11_isTriedAgain_318 : decode cX11_isTriedAgain 318 = .ok (.iload_n 3, 1) := by decide +kernel
theorem dX11_isTriedAgain_319 : decode cX11_isTriedAgain 319 = .ok (.ifCond .eq 7, 3) := by decide +kernel
theorem dX11_isTriedAgain_322 : decode cX11_isTriedAgain 322 = .ok (.iconst 1, 1) := by decide +kernel
theorem dX11_isTriedAgain_323 : decode cX11_isTriedAgain 323 = .ok (.goto 4, 3) := by decide +kernel
theorem dX11_isTriedAgain_326 : decode cX11_isTriedAgain 326 = .ok (.iconst 0, 1) := by decide +kernel
theorem dX11_isTriedAgain_327 : decode cX11_isTriedAgain 327 = .ok (.invokevirtual 286, 3) := by decide +kernel
theorem dX11_isTriedAgain_330 : decode cX11_isTriedAgain 330 = .ok (.aload_n 0, 1) := by decide +kernel
theorem dX11_isTriedAgain_331 : decode cX11_isTriedAgain 331 = .ok (.iload_n 1, 1) := by decide +kernel
theorem dX11_isTriedAgain_332 : decode cX11_isTriedAgain 332 = .ok (.iconst 2, 1) := by decide +kernel
theorem dX11_isTriedAgain_333 : decode cX11_isTriedAgain 333 = .ok (.aload_n 0, 1) := by decide +kernel
theorem dX11_isTriedAgain_334 : decode cX11_isTriedAgain 334 = .ok (.getfield 316, 3) := by decide +kernel
theorem dX11_isTriedAgain_337 : decode cX11_isTriedAgain 337 = .ok (.invokevirtual 289, 3) := by decide +kernel
theorem dX11_isTriedAgain_340 : decode cX11_isTriedAgain 340 = .ok (.iconst 0, 1) := by decide +kernel
theorem dX11_isTriedAgain_341 : decode cX11_isTriedAgain 341 = .ok (.ireturn, 1) := by decide +kernel
theorem dX11_keepAll_0 : decode cX11_keepAll 0 = .ok (.iconst 0, 1) := by decide +kernel
theorem dX11_keepAll_1 : decode cX11_keepAll 1 = .ok (.istore_n 2, 1) := by decide +kernel
theorem dX11_keepAll_2 : decode cX11_keepAll 2 = .ok (.iload_n 2, 1) := by decide +kernel
theorem dX11_keepAll_3 : decode cX11_keepAll 3 = .ok (.aload_n 0, 1) := by decide +kernel
theorem dX11_keepAll_4 : decode cX11_keepAll 4 = .ok (.getfield 307, 3) := by decide +kernel
theorem dX11_keepAll_7 : decode cX11_keepAll 7 = .ok (.if_icmp .ge 74, 3) := by decide +kernel
theorem dX11_keepAll_10 : decode cX11_keepAll 10 = .ok (.aload_n 0, 1) := by decide +kernel
theorem dX11_keepAll_11 : decode cX11_keepAll 11 = .ok (.getfield 141, 3) := by decide +kernel
theorem dX11_keepAll_14 : decode cX11_keepAll 14 = .ok (.iload_n 2, 1) := by decide +kernel
theorem dX11_keepAll_15 : decode cX11_keepAll 15 = .ok (.iaload, 1) := by decide +kernel
theorem dX11_keepAll_16 : decode cX11_keepAll 16 = .ok (.istore_n 3, 1) := by decide +kernel
theorem dX11_keepAll_17 : decode cX11_keepAll 17 = .ok (.aload_n 0, 1) := by decide +kernel
theorem dX11_keepAll_18 : decode cX11_keepAll 18 = .ok (.getfield 147, 3) := by decide +kernel
theorem dX11_keepAll_21 : decode cX11_keepAll 21 = .ok (.iload_n 3, 1) := by decide +kernel
theorem dX11_keepAll_22 : decode cX11_keepAll 22 = .ok (.iconst 0, 1) := by decide +kernel
theorem dX11_keepAll_23 : decode cX11_keepAll 23 = .ok (.bastore, 1) := by decide +kernel
theorem dX11_keepAll_24 : decode cX11_keepAll 24 = .ok (.aload_n 0, 1) := by decide +kernel
theorem dX11_keepAll_25 : decode cX11_keepAll 25 = .ok (.getfield 30, 3) := by decide +kernel
theorem dX11_keepAll_28 : decode cX11_keepAll 28 = .ok (.iload_n 1, 1) := by decide +kernel
theorem dX11_keepAll_29 : decode cX11_keepAll 29 = .ok (.aload_n 0, 1) := by decide +kernel
theorem dX11_keepAll_30 : decode cX11_keepAll 30 = .ok (.getfield 27, 3) := by decide +kernel
theorem dX11_keepAll_33 : decode cX11_keepAll 33 = .ok (.sipush 640, 3) := by decide +kernel
theorem dX11_keepAll_36 : decode cX11_keepAll 36 = .ok (.iload_n 1, 1) := by decide +kernel
theorem dX11_keepAll_37 : decode cX11_keepAll 37 = .ok (.imul, 1) := by decide +kernel
theorem dX11_keepAll_38 : decode cX11_keepAll 38 = .ok (.iload_n 3, 1) := by decide +kernel
theorem dX11_keepAll_39 : decode cX11_keepAll 39 = .ok (.iadd, 1) := by decide +kernel
theorem dX11_keepAll_40 : decode cX11_keepAll 40 = .ok (.baload, 1) := by decide +kernel
theorem dX11_keepAll_41 : decode cX11_keepAll 41 = .ok (.ifCond .eq 12, 3) := by decide +kernel
theorem dX11_keepAll_44 : decode cX11_keepAll 44 = .ok (.aload_n 0, 1) := by decide +kernel
theorem dX11_keepAll_45 : decode cX11_keepAll 45 = .ok (.getfield 30, 3) := by decide +kernel
theorem dX11_keepAll_48 : decode cX11_keepAll 48 = .ok (.iload_n 1, 1) := by decide +kernel
theorem dX11_keepAll_49 : decode cX11_keepAll 49 = .ok (.iaload, 1) := by decide +kernel
theorem dX11_keepAll_50 : decode cX11_keepAll 50 = .ok (.goto 11, 3) := by decide +kernel
theorem dX11_keepAll_53 : decode cX11_keepAll 53 = .ok (.aload_n 0, 1) := by decide +kernel
theorem dX11_keepAll_54 : decode cX11_keepAll 54 = .ok (.getfield 30, 3) := by decide +kernel
theorem dX11_keepAll_57 : decode cX11_keepAll 57 = .ok (.iload_n 1, 1) := by decide +kernel
theorem dX11_keepAll_58 : decode cX11_keepAll 58 = .ok (.iaload, 1) := by decide +kernel
theorem dX11_keepAll_59 : decode cX11_keepAll 59 = .ok (.iconst 1, 1) := by decide +kernel
theorem dX11_keepAll_60 : decode cX11_keepAll 60 = .ok (.iadd, 1) := by decide +kernel
theorem dX11_keepAll_61 : decode cX11_keepAll 61 = .ok (.iastore, 1) := by decide +kernel
theorem dX11_keepAll_62 : decode cX11_keepAll 62 = .ok (.aload_n 0, 1) := by decide +kernel
theorem dX11_keepAll_63 : decode cX11_keepAll 63 = .ok (.getfield 27, 3) := by decide +kernel
theorem dX11_keepAll_66 : decode cX11_keepAll 66 = .ok (.sipush 640, 3) := by decide +kernel
theorem dX11_keepAll_69 : decode cX11_keepAll 69 = .ok (.iload_n 1, 1) := by decide +kernel
theorem dX11_keepAll_70 : decode cX11_keepAll 70 = .ok (.imul, 1) := by decide +kernel
theorem dX11_keepAll_71 : decode cX11_keepAll 71 = .ok (.iload_n 3, 1) := by decide +kernel
theorem dX11_keepAll_72 : decode cX11_keepAll 72 = .ok (.iadd, 1) := by decide +kernel
theorem dX11_keepAll_73 : decode cX11_keepAll 73 = .ok (.iconst 1, 1) := by decide +kernel
theorem dX11_keepAll_74 : decode cX11_keepAll 74 = .ok (.bastore, 1) := by decide +kernel
theorem dX11_keepAll_75 : decode cX11_keepAll 75 = .ok (.iinc 2 1, 3) := by decide +kernel
theorem dX11_keepAll_78 : decode cX11_keepAll 78 = .ok (.goto (-76), 3) := by decide +kernel
theorem dX11_keepAll_81 : decode cX11_keepAll 81 = .ok (.aload_n 0, 1) := by decide +kernel
theorem dX11_keepAll_82 : decode cX11_keepAll 82 = .ok (.iconst 0, 1) := by decide +kernel
theorem dX11_keepAll_83 : decode cX11_keepAll 83 = .ok (.putfield 307, 3) := by decide +kernel
theorem dX11_keepAll_86 : decode cX11_keepAll 86 = .ok (.iconst 0, 1) := by decide +kernel
theorem dX11_keepAll_87 : decode cX11_keepAll 87 = .ok (.istore_n 2, 1) := by decide +kernel
theorem dX11_keepAll_88 : decode cX11_keepAll 88 = .ok (.iload_n 2, 1) := by decide +kernel
theorem dX11_keepAll_89 : decode cX11_keepAll 89 = .ok (.aload_n 0, 1) := by decide +kernel
theorem dX11_keepAll_90 : decode cX11_keepAll 90 = .ok (.getfield 310, 3) := by decide +kernel
theorem dX11_keepAll_93 : decode cX11_keepAll 93 = .ok (.if_icmp .ge 80, 3) := by decide +kernel
theorem dX11_keepAll_96 : decode cX11_keepAll 96 = .ok (.aload_n 0, 1) := by decide +kernel
theorem dX11_keepAll_97 : decode cX11_keepAll 97 = .ok (.getfield 153, 3) := by decide +kernel
theorem dX11_keepAll_100 : decode cX11_keepAll 100 = .ok (.iload_n 2, 1) := by decide +kernel
theorem dX11_keepAll_101 : decode cX11_keepAll 101 = .ok (.iaload, 1) := by decide +kernel
theorem dX11_keepAll_102 : decode cX11_keepAll 102 = .ok (.istore_n 3, 1) := by decide +kernel
theorem dX11_keepAll_103 : decode cX11_keepAll 103 = .ok (.aload_n 0, 1) := by decide +kernel
theorem dX11_keepAll_104 : decode cX11_keepAll 104 = .ok (.getfield 24, 3) := by decide +kernel
theorem dX11_keepAll_107 : decode cX11_keepAll 107 = .ok (.sipush 640, 3) := by decide +kernel
theorem dX11_keepAll_110 : decode cX11_keepAll 110 = .ok (.iload_n 1, 1) := by decide +kernel
theorem dX11_keepAll_111 : decode cX11_keepAll 111 = .ok (.imul, 1) := by decide +kernel
theorem dX11_keepAll_112 : decode cX11_keepAll 112 = .ok (.iload_n 3, 1) := by decide +kernel
theorem dX11_keepAll_113 : decode cX11_keepAll 113 = .ok (.iadd, 1) := by decide +kernel
theorem dX11_keepAll_114 : decode cX11_keepAll 114 = .ok (.iconst 0, 1) := by decide +kernel
theorem dX11_keepAll_115 : decode cX11_keepAll 115 = .ok (.bastore, 1) := by decide +kernel
theorem dX11_keepAll_116 : decode cX11_keepAll 116 = .ok (.aload_n 0, 1) := by decide +kernel
theorem dX11_keepAll_117 : decode cX11_keepAll 117 = .ok (.getfield 30, 3) := by decide +kernel
theorem dX11_keepAll_120 : decode cX11_keepAll 120 = .ok (.iload_n 1, 1) := by decide +kernel
theorem dX11_keepAll_121 : decode cX11_keepAll 121 = .ok (.aload_n 0, 1) := by decide +kernel
theorem dX11_keepAll_122 : decode cX11_keepAll 122 = .ok (.getfield 27, 3) := by decide +kernel
theorem dX11_keepAll_125 : decode cX11_keepAll 125 = .ok (.sipush 640, 3) := by decide +kernel
theorem dX11_keepAll_128 : decode cX11_keepAll 128 = .ok (.iload_n 1, 1) := by decide +kernel
theorem dX11_keepAll_129 : decode cX11_keepAll 129 = .ok (.imul, 1) := by decide +kernel
theorem dX11_keepAll_130 : decode cX11_keepAll 130 = .ok (.iload_n 3, 1) := by decide +kernel
theorem dX11_keepAll_131 : decode cX11_keepAll 131 = .ok (.iadd, 1) := by decide +kernel
theorem dX11_keepAll_132 : decode cX11_keepAll 132 = .ok (.baload, 1) := by decide +kernel
theorem dX11_keepAll_133 : decode cX11_keepAll 133 = .ok (.ifCond .eq 14, 3) := by decide +kernel
theorem dX11_keepAll_136 : decode cX11_keepAll 136 = .ok (.aload_n 0, 1) := by decide +kernel
theorem dX11_keepAll_137 : decode cX11_keepAll 137 = .ok (.getfield 30, 3) := by decide +kernel
theorem dX11_keepAll_140 : decode cX11_keepAll 140 = .ok (.iload_n 1, 1) := by decide +kernel
theorem dX11_keepAll_141 : decode cX11_keepAll 141 = .ok (.iaload, 1) := by decide +kernel
theorem dX11_keepAll_142 : decode cX11_keepAll 142 = .ok (.iconst 1, 1) := by decide +kernel
theorem dX11_keepAll_143 : decode cX11_keepAll 143 = .ok (.isub, 1) := by decide +kernel
theorem dX11_keepAll_144 : decode cX11_keepAll 144 = .ok (.goto 9, 3) := by decide +kernel
theorem dX11_keepAll_147 : decode cX11_keepAll 147 = .ok (.aload_n 0, 1) := by decide +kernel
theorem dX11_keepAll_148 : decode cX11_keepAll 148 = .ok (.getfield 30, 3) := by decide +kernel
theorem dX11_keepAll_151 : decode cX11_keepAll 151 = .ok (.iload_n 1, 1) := by decide +kernel
theorem dX11_keepAll_152 : decode cX11_keepAll 152 = .ok (.iaload, 1) := by decide +kernel
theorem dX11_keepAll_153 : decode cX11_keepAll 153 = .ok (.iastore, 1) := by decide +kernel
theorem dX11_keepAll_154 : decode cX11_keepAll 154 = .ok (.aload_n 0, 1) := by decide +kernel
theorem dX11_keepAll_155 : decode cX11_keepAll 155 = .ok (.getfield 27, 3) := by decide +kernel
theorem dX11_keepAll_158 : decode cX11_keepAll 158 = .ok (.sipush 640, 3) := by decide +kernel
theorem dX11_keepAll_161 : decode cX11_keepAll 161 = .ok (.iload_n 1, 1) := by decide +kernel
theorem dX11_keepAll_162 : decode cX11_keepAll 162 = .ok (.imul, 1) := by decide +kernel
theorem dX11_keepAll_163 : decode cX11_keepAll 163 = .ok (.iload_n 3, 1) := by decide +kernel
theorem dX11_keepAll_164 : decode cX11_keepAll 164 = .ok (.iadd, 1) := by decide +kernel
theorem dX11_keepAll_165 : decode cX11_keepAll 165 = .ok (.iconst 0, 1) := by decide +kernel
theorem dX11_keepAll_166 : decode cX11_keepAll 166 = .ok (.bastore, 1) := by decide +kernel
theorem dX11_keepAll_167 : decode cX11_keepAll 167 = .ok (.iinc 2 1, 3) := by decide +kernel
theorem dX11_keepAll_170 : decode cX11_keepAll 170 = .ok (.goto (-82), 3) := by decide +kernel
theorem dX11_keepAll_173 : decode cX11_keepAll 173 = .ok (.aload_n 0, 1) := by decide +kernel
theorem dX11_keepAll_174 : decode cX11_keepAll 174 = .ok (.iconst 0, 1) := by decide +kernel
theorem dX11_keepAll_175 : decode cX11_keepAll 175 = .ok (.putfield 310, 3) := by decide +kernel
theorem dX11_keepAll_178 : decode cX11_keepAll 178 = .ok (.return_, 1) := by decide +kernel
theorem dX11_undo_0 : decode cX11_undo 0 = .ok (.iconst 0, 1) := by decide +kernel
theorem dX11_undo_1 : decode cX11_undo 1 = .ok (.istore_n 1, 1) := by decide +kernel
theorem dX11_undo_2 : decode cX11_undo 2 = .ok (.iload_n 1, 1) := by decide +kernel
theorem dX11_undo_3 : decode cX11_undo 3 = .ok (.aload_n 0, 1) := by decide +kernel
theorem dX11_undo_4 : decode cX11_undo 4 = .ok (.getfield 307, 3) := by decide +kernel
theorem dX11_undo_7 : decode cX11_undo 7 = .ok (.if_icmp .ge 89, 3) := by decide +kernel
theorem dX11_undo_10 : decode cX11_undo 10 = .ok (.aload_n 0, 1) := by decide +kernel
theorem dX11_undo_11 : decode cX11_undo 11 = .ok (.getfield 141, 3) := by decide +kernel
theorem dX11_undo_14 : decode cX11_undo 14 = .ok (.iload_n 1, 1) := by decide +kernel
theorem dX11_undo_15 : decode cX11_undo 15 = .ok (.iaload, 1) := by decide +kernel
theorem dX11_undo_16 : decode cX11_undo 16 = .ok (.istore_n 2, 1) := by decide +kernel
theorem dX11_undo_17 : decode cX11_undo 17 = .ok (.aload_n 0, 1) := by decide +kernel
theorem dX11_undo_18 : decode cX11_undo 18 = .ok (.getfield 147, 3) := by decide +kernel
theorem dX11_undo_21 : decode cX11_undo 21 = .ok (.iload_n 2, 1) := by decide +kernel
theorem dX11_undo_22 : decode cX11_undo 22 = .ok (.iconst 0, 1) := by decide +kernel
theorem dX11_undo_23 : decode cX11_undo 23 = .ok (.bastore, 1) := by decide +kernel
theorem dX11_undo_24 : decode cX11_undo 24 = .ok (.aload_n 0, 1) := by decide +kernel
theorem dX11_undo_25 : decode cX11_undo 25 = .ok (.getfield 24, 3) := by decide +kernel
theorem dX11_undo_28 : decode cX11_undo 28 = .ok (.sipush 640, 3) := by decide +kernel
theorem dX11_undo_31 : decode cX11_undo 31 = .ok (.aload_n 0, 1) := by decide +kernel
theorem dX11_undo_32 : decode cX11_undo 32 = .ok (.getfield 319, 3) := by decide +kernel
theorem dX11_undo_35 : decode cX11_undo 35 = .ok (.imul, 1) := by decide +kernel
theorem dX11_undo_36 : decode cX11_undo 36 = .ok (.iload_n 2, 1) := by decide +kernel
theorem dX11_undo_37 : decode cX11_undo 37 = .ok (.iadd, 1) := by decide +kernel
theorem dX11_undo_38 : decode cX11_undo 38 = .ok (.aload_n 0, 1) := by decide +kernel
theorem dX11_undo_39 : decode cX11_undo 39 = .ok (.getfield 144, 3) := by decide +kernel
theorem dX11_undo_42 : decode cX11_undo 42 = .ok (.iload_n 1, 1) := by decide +kernel
theorem dX11_undo_43 : decode cX11_undo 43 = .ok (.baload, 1) := by decide +kernel
theorem dX11_undo_44 : decode cX11_undo 44 = .ok (.bastore, 1) := by decide +kernel
theorem dX11_undo_45 : decode cX11_undo 45 = .ok (.iconst 0, 1) := by decide +kernel
theorem dX11_undo_46 : decode cX11_undo 46 = .ok (.istore_n 3, 1) := by decide +kernel
theorem dX11_undo_47 : decode cX11_undo 47 = .ok (.iload_n 3, 1) := by decide +kernel
theorem dX11_undo_48 : decode cX11_undo 48 = .ok (.bipush 16, 2) := by decide +kernel
theorem dX11_undo_50 : decode cX11_undo 50 = .ok (.if_icmp .ge 40, 3) := by decide +kernel
theorem dX11_undo_53 : decode cX11_undo 53 = .ok (.aload_n 0, 1) := by decide +kernel
theorem dX11_undo_54 : decode cX11_undo 54 = .ok (.getfield 21, 3) := by decide +kernel
theorem dX11_undo_57 : decode cX11_undo 57 = .ok (.bipush 16, 2) := by decide +kernel
theorem dX11_undo_59 : decode cX11_undo 59 = .ok (.sipush 640, 3) := by decide +kernel
theorem dX11_undo_62 : decode cX11_undo 62 = .ok (.aload_n 0, 1) := by decide +kernel
theorem dX11_undo_63 : decode cX11_undo 63 = .ok (.getfield 319, 3) := by decide +kernel
theorem dX11_undo_66 : decode cX11_undo 66 = .ok (.imul, 1) := by decide +kernel
theorem dX11_undo_67 : decode cX11_undo 67 = .ok (.iload_n 2, 1) := by decide +kernel
theorem dX11_undo_68 : decode cX11_undo 68 = .ok (.iadd, 1) := by decide +kernel
theorem dX11_undo_69 : decode cX11_undo 69 = .ok (.imul, 1) := by decide +kernel
theorem dX11_undo_70 : decode cX11_undo 70 = .ok (.iload_n 3, 1) := by decide +kernel
theorem dX11_undo_71 : decode cX11_undo 71 = .ok (.iadd, 1) := by decide +kernel
theorem dX11_undo_72 : decode cX11_undo 72 = .ok (.aload_n 0, 1) := by decide +kernel
theorem dX11_undo_73 : decode cX11_undo 73 = .ok (.getfield 150, 3) := by decide +kernel
theorem dX11_undo_76 : decode cX11_undo 76 = .ok (.bipush 16, 2) := by decide +kernel
theorem dX11_undo_78 : decode cX11_undo 78 = .ok (.iload_n 1, 1) := by decide +kernel
theorem dX11_undo_79 : decode cX11_undo 79 = .ok (.imul, 1) := by decide +kernel
theorem dX11_undo_80 : decode cX11_undo 80 = .ok (.iload_n 3, 1) := by decide +kernel
theorem dX11_undo_81 : decode cX11_undo 81 = .ok (.iadd, 1) := by decide +kernel
theorem dX11_undo_82 : decode cX11_undo 82 = .ok (.iaload, 1) := by decide +kernel
theorem dX11_undo_83 : decode cX11_undo 83 = .ok (.iastore, 1) := by decide +kernel
theorem dX11_undo_84 : decode cX11_undo 84 = .ok (.iinc 3 1, 3) := by decide +kernel
theorem dX11_undo_87 : decode cX11_undo 87 = .ok (.goto (-40), 3) := by decide +kernel
theorem dX11_undo_90 : decode cX11_undo 90 = .ok (.iinc 1 1, 3) := by decide +kernel
theorem dX11_undo_93 : decode cX11_undo 93 = .ok (.goto (-91), 3) := by decide +kernel
theorem dX11_undo_96 : decode cX11_undo 96 = .ok (.aload_n 0, 1) := by decide +kernel
theorem dX11_undo_97 : decode cX11_undo 97 = .ok (.iconst 0, 1) := by decide +kernel
theorem dX11_undo_98 : decode cX11_undo 98 = .ok (.putfield 307, 3) := by decide +kernel
theorem dX11_undo_101 : decode cX11_undo 101 = .ok (.aload_n 0, 1) := by decide +kernel
theorem dX11_undo_102 : decode cX11_undo 102 = .ok (.iconst 0, 1) := by decide +kernel
theorem dX11_undo_103 : decode cX11_undo 103 = .ok (.putfield 310, 3) := by decide +kernel
theorem dX11_undo_106 : decode cX11_undo 106 = .ok (.return_, 1) := by decide +kernel
theorem dX11_isOver_0 : decode cX11_isOver 0 = .ok (.aload_n 0, 1) := by decide +kernel
theorem dX11_isOver_1 : decode cX11_isOver 1 = .ok (.getfield 295, 3) := by decide +kernel
theorem dX11_isOver_4 : decode cX11_isOver 4 = .ok (.iconst (-1), 1) := by decide +kernel
theorem dX11_isOver_5 : decode cX11_isOver 5 = .ok (.if_icmp .ne 10, 3) := by decide +kernel
theorem dX11_isOver_8 : decode cX11_isOver 8 = .ok (.aload_n 0, 1) := by decide +kernel
theorem dX11_isOver_9 : decode cX11_isOver 9 = .ok (.getfield 304, 3) := by decide +kernel
theorem dX11_isOver_12 : decode cX11_isOver 12 = .ok (.ifCond .eq 7, 3) := by decide +kernel
theorem dX11_isOver_15 : decode cX11_isOver 15 = .ok (.iconst 1, 1) := by decide +kernel
theorem dX11_isOver_16 : decode cX11_isOver 16 = .ok (.goto 4, 3) := by decide +kernel
theorem dX11_isOver_19 : decode cX11_isOver 19 = .ok (.iconst 0, 1) := by decide +kernel
theorem dX11_isOver_20 : decode cX11_isOver 20 = .ok (.ireturn, 1) := by decide +kernel
theorem dX11_fail_0 : decode cX11_fail 0 = .ok (.aload_n 0, 1) := by decide +kernel
theorem dX11_fail_1 : decode cX11_fail 1 = .ok (.invokevirtual 322, 3) := by decide +kernel
theorem dX11_fail_4 : decode cX11_fail 4 = .ok (.ifCond .ne 8, 3) := by decide +kernel
theorem dX11_fail_7 : decode cX11_fail 7 = .ok (.aload_n 0, 1) := by decide +kernel
theorem dX11_fail_8 : decode cX11_fail 8 = .ok (.iload_n 1, 1) := by decide +kernel
theorem dX11_fail_9 : decode cX11_fail 9 = .ok (.putfield 304, 3) := by decide +kernel
theorem dX11_fail_12 : decode cX11_fail 12 = .ok (.return_, 1) := by decide +kernel
theorem dX11_meets_0 : decode cX11_meets 0 = .ok (.aload_n 0, 1) := by decide +kernel
theorem dX11_meets_1 : decode cX11_meets 1 = .ok (.invokevirtual 322, 3) := by decide +kernel
theorem dX11_meets_4 : decode cX11_meets 4 = .ok (.ifCond .eq 5, 3) := by decide +kernel
theorem dX11_meets_7 : decode cX11_meets 7 = .ok (.iconst 0, 1) := by decide +kernel
theorem dX11_meets_8 : decode cX11_meets 8 = .ok (.ireturn, 1) := by decide +kernel
theorem dX11_meets_9 : decode cX11_meets 9 = .ok (.aload_n 0, 1) := by decide +kernel
theorem dX11_meets_10 : decode cX11_meets 10 = .ok (.getfield 57, 3) := by decide +kernel
theorem dX11_meets_13 : decode cX11_meets 13 = .ok (.aload_n 0, 1) := by decide +kernel
theorem dX11_meets_14 : decode cX11_meets 14 = .ok (.getfield 319, 3) := by decide +kernel
theorem dX11_meets_17 : decode cX11_meets 17 = .ok (.iload_n 1, 1) := by decide +kernel
theorem dX11_meets_18 : decode cX11_meets 18 = .ok (.invokestatic 208, 3) := by decide +kernel
theorem dX11_meets_21 : decode cX11_meets 21 = .ok (.baload, 1) := by decide +kernel
theorem dX11_meets_22 : decode cX11_meets 22 = .ok (.ifCond .eq 22, 3) := by decide +kernel
theorem dX11_meets_25 : decode cX11_meets 25 = .ok (.aload_n 0, 1) := by decide +kernel
theorem dX11_meets_26 : decode cX11_meets 26 = .ok (.getfield 48, 3) := by decide +kernel
theorem dX11_meets_29 : decode cX11_meets 29 = .ok (.aload_n 0, 1) := by decide +kernel
theorem dX11_meets_30 : decode cX11_meets 30 = .ok (.getfield 319, 3) := by decide +kernel
theorem dX11_meets_33 : decode cX11_meets 33 = .ok (.iload_n 1, 1) := by decide +kernel
theorem dX11_meets_34 : decode cX11_meets 34 = .ok (.invokestatic 208, 3) := by decide +kernel
theorem dX11_meets_37 : decode cX11_meets 37 = .ok (.iaload, 1) := by decide +kernel
theorem dX11_meets_38 : decode cX11_meets 38 = .ok (.iload_n 2, 1) := by decide +kernel
theorem dX11_meets_39 : decode cX11_meets 39 = .ok (.if_icmp .lt 5, 3) := by decide +kernel
theorem dX11_meets_42 : decode cX11_meets 42 = .ok (.iconst 1, 1) := by decide +kernel
theorem dX11_meets_43 : decode cX11_meets 43 = .ok (.ireturn, 1) := by decide +kernel
theorem dX11_meets_44 : decode cX11_meets 44 = .ok (.aload_n 0, 1) := by decide +kernel
theorem dX11_meets_45 : decode cX11_meets 45 = .ok (.iload_n 1, 1) := by decide +kernel
theorem dX11_meets_46 : decode cX11_meets 46 = .ok (.putfield 295, 3) := by decide +kernel
theorem dX11_meets_49 : decode cX11_meets 49 = .ok (.aload_n 0, 1) := by decide +kernel
theorem dX11_meets_50 : decode cX11_meets 50 = .ok (.iload_n 2, 1) := by decide +kernel
theorem dX11_meets_51 : decode cX11_meets 51 = .ok (.putfield 301, 3) := by decide +kernel
theorem dX11_meets_54 : decode cX11_meets 54 = .ok (.iconst 0, 1) := by decide +kernel
theorem dX11_meets_55 : decode cX11_meets 55 = .ok (.ireturn, 1) := by decide +kernel
theorem dX11_fetch_0 : decode cX11_fetch 0 = .ok (.aload_n 0, 1) := by decide +kernel
theorem dX11_fetch_1 : decode cX11_fetch 1 = .ok (.getfield 24, 3) := by decide +kernel
theorem dX11_fetch_4 : decode cX11_fetch 4 = .ok (.sipush 640, 3) := by decide +kernel
theorem dX11_fetch_7 : decode cX11_fetch 7 = .ok (.aload_n 0, 1) := by decide +kernel
theorem dX11_fetch_8 : decode cX11_fetch 8 = .ok (.getfield 319, 3) := by decide +kernel
theorem dX11_fetch_11 : decode cX11_fetch 11 = .ok (.imul, 1) := by decide +kernel
theorem dX11_fetch_12 : decode cX11_fetch 12 = .ok (.iload_n 1, 1) := by decide +kernel
theorem dX11_fetch_13 : decode cX11_fetch 13 = .ok (.iadd, 1) := by decide +kernel
theorem dX11_fetch_14 : decode cX11_fetch 14 = .ok (.baload, 1) := by decide +kernel
theorem dX11_fetch_15 : decode cX11_fetch 15 = .ok (.ifCond .eq 4, 3) := by decide +kernel
theorem dX11_fetch_18 : decode cX11_fetch 18 = .ok (.return_, 1) := by decide +kernel
theorem dX11_fetch_19 : decode cX11_fetch 19 = .ok (.aload_n 0, 1) := by decide +kernel
theorem dX11_fetch_20 : decode cX11_fetch 20 = .ok (.getfield 24, 3) := by decide +kernel
theorem dX11_fetch_23 : decode cX11_fetch 23 = .ok (.sipush 640, 3) := by decide +kernel
theorem dX11_fetch_26 : decode cX11_fetch 26 = .ok (.aload_n 0, 1) := by decide +kernel
theorem dX11_fetch_27 : decode cX11_fetch 27 = .ok (.getfield 319, 3) := by decide +kernel
theorem dX11_fetch_30 : decode cX11_fetch 30 = .ok (.imul, 1) := by decide +kernel
theorem dX11_fetch_31 : decode cX11_fetch 31 = .ok (.iload_n 1, 1) := by decide +kernel
theorem dX11_fetch_32 : decode cX11_fetch 32 = .ok (.iadd, 1) := by decide +kernel
theorem dX11_fetch_33 : decode cX11_fetch 33 = .ok (.iconst 1, 1) := by decide +kernel
theorem dX11_fetch_34 : decode cX11_fetch 34 = .ok (.bastore, 1) := by decide +kernel
theorem dX11_fetch_35 : decode cX11_fetch 35 = .ok (.iconst 0, 1) := by decide +kernel
theorem dX11_fetch_36 : decode cX11_fetch 36 = .ok (.istore_n 2, 1) := by decide +kernel
theorem dX11_fetch_37 : decode cX11_fetch 37 = .ok (.iload_n 2, 1) := by decide +kernel
theorem dX11_fetch_38 : decode cX11_fetch 38 = .ok (.bipush 16, 2) := by decide +kernel
theorem dX11_fetch_40 : decode cX11_fetch 40 = .ok (.if_icmp .ge 40, 3) := by decide +kernel
theorem dX11_fetch_43 : decode cX11_fetch 43 = .ok (.aload_n 0, 1) := by decide +kernel
theorem dX11_fetch_44 : decode cX11_fetch 44 = .ok (.getfield 21, 3) := by decide +kernel
theorem dX11_fetch_47 : decode cX11_fetch 47 = .ok (.bipush 16, 2) := by decide +kernel
theorem dX11_fetch_49 : decode cX11_fetch 49 = .ok (.sipush 640, 3) := by decide +kernel
theorem dX11_fetch_52 : decode cX11_fetch 52 = .ok (.aload_n 0, 1) := by decide +kernel
theorem dX11_fetch_53 : decode cX11_fetch 53 = .ok (.getfield 319, 3) := by decide +kernel
theorem dX11_fetch_56 : decode cX11_fetch 56 = .ok (.imul, 1) := by decide +kernel
theorem dX11_fetch_57 : decode cX11_fetch 57 = .ok (.iload_n 1, 1) := by decide +kernel
theorem dX11_fetch_58 : decode cX11_fetch 58 = .ok (.iadd, 1) := by decide +kernel
theorem dX11_fetch_59 : decode cX11_fetch 59 = .ok (.imul, 1) := by decide +kernel
theorem dX11_fetch_60 : decode cX11_fetch 60 = .ok (.iload_n 2, 1) := by decide +kernel
theorem dX11_fetch_61 : decode cX11_fetch 61 = .ok (.iadd, 1) := by decide +kernel
theorem dX11_fetch_62 : decode cX11_fetch 62 = .ok (.aload_n 0, 1) := by decide +kernel
theorem dX11_fetch_63 : decode cX11_fetch 63 = .ok (.getfield 7, 3) := by decide +kernel
theorem dX11_fetch_66 : decode cX11_fetch 66 = .ok (.bipush 16, 2) := by decide +kernel
theorem dX11_fetch_68 : decode cX11_fetch 68 = .ok (.iload_n 1, 1) := by decide +kernel
theorem dX11_fetch_69 : decode cX11_fetch 69 = .ok (.imul, 1) := by decide +kernel
theorem dX11_fetch_70 : decode cX11_fetch 70 = .ok (.iload_n 2, 1) := by decide +kernel
theorem dX11_fetch_71 : decode cX11_fetch 71 = .ok (.iadd, 1) := by decide +kernel
theorem dX11_fetch_72 : decode cX11_fetch 72 = .ok (.iaload, 1) := by decide +kernel
theorem dX11_fetch_73 : decode cX11_fetch 73 = .ok (.iastore, 1) := by decide +kernel
theorem dX11_fetch_74 : decode cX11_fetch 74 = .ok (.iinc 2 1, 3) := by decide +kernel
theorem dX11_fetch_77 : decode cX11_fetch 77 = .ok (.goto (-40), 3) := by decide +kernel
theorem dX11_fetch_80 : decode cX11_fetch 80 = .ok (.return_, 1) := by decide +kernel
theorem dX11_get_0 : decode cX11_get 0 = .ok (.aload_n 0, 1) := by decide +kernel
theorem dX11_get_1 : decode cX11_get 1 = .ok (.iload_n 1, 1) := by decide +kernel
theorem dX11_get_2 : decode cX11_get 2 = .ok (.invokevirtual 326, 3) := by decide +kernel
theorem dX11_get_5 : decode cX11_get 5 = .ok (.aload_n 0, 1) := by decide +kernel
theorem dX11_get_6 : decode cX11_get 6 = .ok (.getfield 21, 3) := by decide +kernel
theorem dX11_get_9 : decode cX11_get 9 = .ok (.bipush 16, 2) := by decide +kernel
theorem dX11_get_11 : decode cX11_get 11 = .ok (.sipush 640, 3) := by decide +kernel
theorem dX11_get_14 : decode cX11_get 14 = .ok (.aload_n 0, 1) := by decide +kernel
theorem dX11_get_15 : decode cX11_get 15 = .ok (.getfield 319, 3) := by decide +kernel
theorem dX11_get_18 : decode cX11_get 18 = .ok (.imul, 1) := by decide +kernel
theorem dX11_get_19 : decode cX11_get 19 = .ok (.iload_n 1, 1) := by decide +kernel
theorem dX11_get_20 : decode cX11_get 20 = .ok (.iadd, 1) := by decide +kernel
theorem dX11_get_21 : decode cX11_get 21 = .ok (.imul, 1) := by decide +kernel
theorem dX11_get_22 : decode cX11_get 22 = .ok (.iload_n 2, 1) := by decide +kernel
theorem dX11_get_23 : decode cX11_get 23 = .ok (.iadd, 1) := by decide +kernel
theorem dX11_get_24 : decode cX11_get 24 = .ok (.iaload, 1) := by decide +kernel
theorem dX11_get_25 : decode cX11_get 25 = .ok (.ireturn, 1) := by decide +kernel
theorem dX11_save_0 : decode cX11_save 0 = .ok (.aload_n 0, 1) := by decide +kernel
theorem dX11_save_1 : decode cX11_save 1 = .ok (.getfield 147, 3) := by decide +kernel
theorem dX11_save_4 : decode cX11_save 4 = .ok (.iload_n 1, 1) := by decide +kernel
theorem dX11_save_5 : decode cX11_save 5 = .ok (.baload, 1) := by decide +kernel
theorem dX11_save_6 : decode cX11_save 6 = .ok (.ifCond .eq 4, 3) := by decide +kernel
theorem dX11_save_9 : decode cX11_save 9 = .ok (.return_, 1) := by decide +kernel
theorem dX11_save_10 : decode cX11_save 10 = .ok (.aload_n 0, 1) := by decide +kernel
theorem dX11_save_11 : decode cX11_save 11 = .ok (.getfield 147, 3) := by decide +kernel
theorem dX11_save_14 : decode cX11_save 14 = .ok (.iload_n 1, 1) := by decide +kernel
theorem dX11_save_15 : decode cX11_save 15 = .ok (.iconst 1, 1) := by decide +kernel
theorem dX11_save_16 : decode cX11_save 16 = .ok (.bastore, 1) := by decide +kernel
theorem dX11_save_17 : decode cX11_save 17 = .ok (.aload_n 0, 1) := by decide +kernel
theorem dX11_save_18 : decode cX11_save 18 = .ok (.getfield 141, 3) := by decide +kernel
theorem dX11_save_21 : decode cX11_save 21 = .ok (.aload_n 0, 1) := by decide +kernel
theorem dX11_save_22 : decode cX11_save 22 = .ok (.getfield 307, 3) := by decide +kernel
theorem dX11_save_25 : decode cX11_save 25 = .ok (.iload_n 1, 1) := by decide +kernel
theorem dX11_save_26 : decode cX11_save 26 = .ok (.iastore, 1) := by decide +kernel
theorem dX11_save_27 : decode cX11_save 27 = .ok (.aload_n 0, 1) := by decide +kernel
theorem dX11_save_28 : decode cX11_save 28 = .ok (.getfield 144, 3) := by decide +kernel
theorem dX11_save_31 : decode cX11_save 31 = .ok (.aload_n 0, 1) := by decide +kernel
theorem dX11_save_32 : decode cX11_save 32 = .ok (.getfield 307, 3) := by decide +kernel
theorem dX11_save_35 : decode cX11_save 35 = .ok (.aload_n 0, 1) := by decide +kernel
theorem dX11_save_36 : decode cX11_save 36 = .ok (.getfield 24, 3) := by decide +kernel
theorem dX11_save_39 : decode cX11_save 39 = .ok (.sipush 640, 3) := by decide +kernel
theorem dX11_save_42 : decode cX11_save 42 = .ok (.aload_n 0, 1) := by decide +kernel
theorem dX11_save_43 : decode cX11_save 43 = .ok (.getfield 319, 3) := by decide +kernel
theorem dX11_save_46 : decode cX11_save 46 = .ok (.imul, 1) := by decide +kernel
theorem dX11_save_47 : decode cX11_save 47 = .ok (.iload_n 1, 1) := by decide +kernel
theorem dX11_save_48 : decode cX11_save 48 = .ok (.iadd, 1) := by decide +kernel
theorem dX11_save_49 : decode cX11_save 49 = .ok (.baload, 1) := by decide +kernel
theorem dX11_save_50 : decode cX11_save 50 = .ok (.bastore, 1) := by decide +kernel
theorem dX11_save_51 : decode cX11_save 51 = .ok (.iconst 0, 1) := by decide +kernel
theorem dX11_save_52 : decode cX11_save 52 = .ok (.istore_n 2, 1) := by decide +kernel
theorem dX11_save_53 : decode cX11_save 53 = .ok (.iload_n 2, 1) := by decide +kernel
theorem dX11_save_54 : decode cX11_save 54 = .ok (.bipush 16, 2) := by decide +kernel
theorem dX11_save_56 : decode cX11_save 56 = .ok (.if_icmp .ge 43, 3) := by decide +kernel
theorem dX11_save_59 : decode cX11_save 59 = .ok (.aload_n 0, 1) := by decide +kernel
theorem dX11_save_60 : decode cX11_save 60 = .ok (.getfield 150, 3) := by decide +kernel
theorem dX11_save_63 : decode cX11_save 63 = .ok (.bipush 16, 2) := by decide +kernel
theorem dX11_save_65 : decode cX11_save 65 = .ok (.aload_n 0, 1) := by decide +kernel
theorem dX11_save_66 : decode cX11_save 66 = .ok (.getfield 307, 3) := by decide +kernel
theorem dX11_save_69 : decode cX11_save 69 = .ok (.imul, 1) := by decide +kernel
theorem dX11_save_70 : decode cX11_save 70 = .ok (.iload_n 2, 1) := by decide +kernel
theorem dX11_save_71 : decode cX11_save 71 = .ok (.iadd, 1) := by decide +kernel
theorem dX11_save_72 : decode cX11_save 72 = .ok (.aload_n 0, 1) := by decide +kernel
theorem dX11_save_73 : decode cX11_save 73 = .ok (.getfield 21, 3) := by decide +kernel
theorem dX11_save_76 : decode cX11_save 76 = .ok (.bipush 16, 2) := by decide +kernel
theorem dX11_save_78 : decode cX11_save 78 = .ok (.sipush 640, 3) := by decide +kernel
theorem dX11_save_81 : decode cX11_save 81 = .ok (.aload_n 0, 1) := by decide +kernel
theorem dX11_save_82 : decode cX11_save 82 = .ok (.getfield 319, 3) := by decide +kernel
theorem dX11_save_85 : decode cX11_save 85 = .ok (.imul, 1) := by decide +kernel
theorem dX11_save_86 : decode cX11_save 86 = .ok (.iload_n 1, 1) := by decide +kernel
theorem dX11_save_87 : decode cX11_save 87 = .ok (.iadd, 1) := by decide +kernel
theorem dX11_save_88 : decode cX11_save 88 = .ok (.imul, 1) := by decide +kernel
theorem dX11_save_89 : decode cX11_save 89 = .ok (.iload_n 2, 1) := by decide +kernel
theorem dX11_save_90 : decode cX11_save 90 = .ok (.iadd, 1) := by decide +kernel
theorem dX11_save_91 : decode cX11_save 91 = .ok (.iaload, 1) := by decide +kernel
theorem dX11_save_92 : decode cX11_save 92 = .ok (.iastore, 1) := by decide +kernel
theorem dX11_save_93 : decode cX11_save 93 = .ok (.iinc 2 1, 3) := by decide +kernel
theorem dX11_save_96 : decode cX11_save 96 = .ok (.goto (-43), 3) := by decide +kernel
theorem dX11_save_99 : decode cX11_save 99 = .ok (.aload_n 0, 1) := by decide +kernel
theorem dX11_save_100 : decode cX11_save 100 = .ok (.dup, 1) := by decide +kernel
theorem dX11_save_101 : decode cX11_save 101 = .ok (.getfield 307, 3) := by decide +kernel
theorem dX11_save_104 : decode cX11_save 104 = .ok (.iconst 1, 1) := by decide +kernel
theorem dX11_save_105 : decode cX11_save 105 = .ok (.iadd, 1) := by decide +kernel
theorem dX11_save_106 : decode cX11_save 106 = .ok (.putfield 307, 3) := by decide +kernel
theorem dX11_save_109 : decode cX11_save 109 = .ok (.return_, 1) := by decide +kernel
theorem dX11_set_0 : decode cX11_set 0 = .ok (.aload_n 0, 1) := by decide +kernel
theorem dX11_set_1 : decode cX11_set 1 = .ok (.iload_n 1, 1) := by decide +kernel
theorem dX11_set_2 : decode cX11_set 2 = .ok (.invokevirtual 326, 3) := by decide +kernel
theorem dX11_set_5 : decode cX11_set 5 = .ok (.aload_n 0, 1) := by decide +kernel
theorem dX11_set_6 : decode cX11_set 6 = .ok (.iload_n 1, 1) := by decide +kernel
theorem dX11_set_7 : decode cX11_set 7 = .ok (.invokevirtual 329, 3) := by decide +kernel
theorem dX11_set_10 : decode cX11_set 10 = .ok (.aload_n 0, 1) := by decide +kernel
theorem dX11_set_11 : decode cX11_set 11 = .ok (.getfield 21, 3) := by decide +kernel
theorem dX11_set_14 : decode cX11_set 14 = .ok (.bipush 16, 2) := by decide +kernel
theorem dX11_set_16 : decode cX11_set 16 = .ok (.sipush 640, 3) := by decide +kernel
theorem dX11_set_19 : decode cX11_set 19 = .ok (.aload_n 0, 1) := by decide +kernel
theorem dX11_set_20 : decode cX11_set 20 = .ok (.getfield 319, 3) := by decide +kernel
theorem dX11_set_23 : decode cX11_set 23 = .ok (.imul, 1) := by decide +kernel
theorem dX11_set_24 : decode cX11_set 24 = .ok (.iload_n 1, 1) := by decide +kernel
theorem dX11_set_25 : decode cX11_set 25 = .ok (.iadd, 1) := by decide +kernel
theorem dX11_set_26 : decode cX11_set 26 = .ok (.imul, 1) := by decide +kernel
theorem dX11_set_27 : decode cX11_set 27 = .ok (.iload_n 2, 1) := by decide +kernel
theorem dX11_set_28 : decode cX11_set 28 = .ok (.iadd, 1) := by decide +kernel
theorem dX11_set_29 : decode cX11_set 29 = .ok (.iload_n 3, 1) := by decide +kernel
theorem dX11_set_30 : decode cX11_set 30 = .ok (.iastore, 1) := by decide +kernel
theorem dX11_set_31 : decode cX11_set 31 = .ok (.return_, 1) := by decide +kernel
theorem dX11_clear_0 : decode cX11_clear 0 = .ok (.aload_n 0, 1) := by decide +kernel
theorem dX11_clear_1 : decode cX11_clear 1 = .ok (.iload_n 1, 1) := by decide +kernel
theorem dX11_clear_2 : decode cX11_clear 2 = .ok (.invokevirtual 329, 3) := by decide +kernel
theorem dX11_clear_5 : decode cX11_clear 5 = .ok (.aload_n 0, 1) := by decide +kernel
theorem dX11_clear_6 : decode cX11_clear 6 = .ok (.getfield 24, 3) := by decide +kernel
theorem dX11_clear_9 : decode cX11_clear 9 = .ok (.sipush 640, 3) := by decide +kernel
theorem dX11_clear_12 : decode cX11_clear 12 = .ok (.aload_n 0, 1) := by decide +kernel
theorem dX11_clear_13 : decode cX11_clear 13 = .ok (.getfield 319, 3) := by decide +kernel
theorem dX11_clear_16 : decode cX11_clear 16 = .ok (.imul, 1) := by decide +kernel
theorem dX11_clear_17 : decode cX11_clear 17 = .ok (.iload_n 1, 1) := by decide +kernel
theorem dX11_clear_18 : decode cX11_clear 18 = .ok (.iadd, 1) := by decide +kernel
theorem dX11_clear_19 : decode cX11_clear 19 = .ok (.iconst 1, 1) := by decide +kernel
theorem dX11_clear_20 : decode cX11_clear 20 = .ok (.bastore, 1) := by decide +kernel
theorem dX11_clear_21 : decode cX11_clear 21 = .ok (.iconst 0, 1) := by decide +kernel
theorem dX11_clear_22 : decode cX11_clear 22 = .ok (.istore_n 2, 1) := by decide +kernel
theorem dX11_clear_23 : decode cX11_clear 23 = .ok (.iload_n 2, 1) := by decide +kernel
theorem dX11_clear_24 : decode cX11_clear 24 = .ok (.bipush 16, 2) := by decide +kernel
theorem dX11_clear_26 : decode cX11_clear 26 = .ok (.if_icmp .ge 30, 3) := by decide +kernel
theorem dX11_clear_29 : decode cX11_clear 29 = .ok (.aload_n 0, 1) := by decide +kernel
theorem dX11_clear_30 : decode cX11_clear 30 = .ok (.getfield 21, 3) := by decide +kernel
theorem dX11_clear_33 : decode cX11_clear 33 = .ok (.bipush 16, 2) := by decide +kernel
theorem dX11_clear_35 : decode cX11_clear 35 = .ok (.sipush 640, 3) := by decide +kernel
theorem dX11_clear_38 : decode cX11_clear 38 = .ok (.aload_n 0, 1) := by decide +kernel
theorem dX11_clear_39 : decode cX11_clear 39 = .ok (.getfield 319, 3) := by decide +kernel
theorem dX11_clear_42 : decode cX11_clear 42 = .ok (.imul, 1) := by decide +kernel
theorem dX11_clear_43 : decode cX11_clear 43 = .ok (.iload_n 1, 1) := by decide +kernel
theorem dX11_clear_44 : decode cX11_clear 44 = .ok (.iadd, 1) := by decide +kernel
theorem dX11_clear_45 : decode cX11_clear 45 = .ok (.imul, 1) := by decide +kernel
theorem dX11_clear_46 : decode cX11_clear 46 = .ok (.iload_n 2, 1) := by decide +kernel
theorem dX11_clear_47 : decode cX11_clear 47 = .ok (.iadd, 1) := by decide +kernel
theorem dX11_clear_48 : decode cX11_clear 48 = .ok (.iconst 0, 1) := by decide +kernel
theorem dX11_clear_49 : decode cX11_clear 49 = .ok (.iastore, 1) := by decide +kernel
theorem dX11_clear_50 : decode cX11_clear 50 = .ok (.iinc 2 1, 3) := by decide +kernel
theorem dX11_clear_53 : decode cX11_clear 53 = .ok (.goto (-30), 3) := by decide +kernel
theorem dX11_clear_56 : decode cX11_clear 56 = .ok (.return_, 1) := by decide +kernel
theorem dX11_ofInode_0 : decode cX11_ofInode 0 = .ok (.aload_n 0, 1) := by decide +kernel
theorem dX11_ofInode_1 : decode cX11_ofInode 1 = .ok (.iload_n 1, 1) := by decide +kernel
theorem dX11_ofInode_2 : decode cX11_ofInode 2 = .ok (.invokestatic 185, 3) := by decide +kernel
theorem dX11_ofInode_5 : decode cX11_ofInode 5 = .ok (.iload_n 2, 1) := by decide +kernel
theorem dX11_ofInode_6 : decode cX11_ofInode 6 = .ok (.invokevirtual 332, 3) := by decide +kernel
theorem dX11_ofInode_9 : decode cX11_ofInode 9 = .ok (.ireturn, 1) := by decide +kernel
theorem dX11_setInode_0 : decode cX11_setInode 0 = .ok (.aload_n 0, 1) := by decide +kernel
theorem dX11_setInode_1 : decode cX11_setInode 1 = .ok (.iload_n 1, 1) := by decide +kernel
theorem dX11_setInode_2 : decode cX11_setInode 2 = .ok (.invokestatic 185, 3) := by decide +kernel
theorem dX11_setInode_5 : decode cX11_setInode 5 = .ok (.iload_n 2, 1) := by decide +kernel
theorem dX11_setInode_6 : decode cX11_setInode 6 = .ok (.iload_n 3, 1) := by decide +kernel
theorem dX11_setInode_7 : decode cX11_setInode 7 = .ok (.invokevirtual 335, 3) := by decide +kernel
theorem dX11_setInode_10 : decode cX11_setInode 10 = .ok (.return_, 1) := by decide +kernel
theorem dX11_takeBlock_0 : decode cX11_takeBlock 0 = .ok (.iconst 0, 1) := by decide +kernel
theorem dX11_takeBlock_1 : decode cX11_takeBlock 1 = .ok (.istore_n 2, 1) := by decide +kernel
theorem dX11_takeBlock_2 : decode cX11_takeBlock 2 = .ok (.iload_n 2, 1) := by decide +kernel
theorem dX11_takeBlock_3 : decode cX11_takeBlock 3 = .ok (.bipush 8, 2) := by decide +kernel
theorem dX11_takeBlock_5 : decode cX11_takeBlock 5 = .ok (.if_icmp .ge 129, 3) := by decide +kernel
theorem dX11_takeBlock_8 : decode cX11_takeBlock 8 = .ok (.aload_n 0, 1) := by decide +kernel
theorem dX11_takeBlock_9 : decode cX11_takeBlock 9 = .ok (.invokevirtual 322, 3) := by decide +kernel
theorem dX11_takeBlock_12 : decode cX11_takeBlock 12 = .ok (.ifCond .ne 122, 3) := by decide +kernel
theorem dX11_takeBlock_15 : decode cX11_takeBlock 15 = .ok (.iload_n 1, 1) := by decide +kernel
theorem dX11_takeBlock_16 : decode cX11_takeBlock 16 = .ok (.bipush 16, 2) := by decide +kernel
theorem dX11_takeBlock_18 : decode cX11_takeBlock 18 = .ok (.idiv, 1) := by decide +kernel
theorem dX11_takeBlock_19 : decode cX11_takeBlock 19 = .ok (.iload_n 2, 1) := by decide +kernel
theorem dX11_takeBlock_20 : decode cX11_takeBlock 20 = .ok (.iadd, 1) := by decide +kernel
theorem dX11_takeBlock_21 : decode cX11_takeBlock 21 = .ok (.bipush 8, 2) := by decide +kernel
theorem dX11_takeBlock_23 : decode cX11_takeBlock 23 = .ok (.irem, 1) := by decide +kernel
theorem dX11_takeBlock_24 : decode cX11_takeBlock 24 = .ok (.istore_n 3, 1) := by decide +kernel
theorem dX11_takeBlock_25 : decode cX11_takeBlock 25 = .ok (.aload_n 0, 1) := by decide +kernel
theorem dX11_takeBlock_26 : decode cX11_takeBlock 26 = .ok (.sipush 128, 3) := by decide +kernel
theorem dX11_takeBlock_29 : decode cX11_takeBlock 29 = .ok (.iload_n 3, 1) := by decide +kernel
theorem dX11_takeBlock_30 : decode cX11_takeBlock 30 = .ok (.iadd, 1) := by decide +kernel
theorem dX11_takeBlock_31 : decode cX11_takeBlock 31 = .ok (.iconst 2, 1) := by decide +kernel
theorem dX11_takeBlock_32 : decode cX11_takeBlock 32 = .ok (.invokevirtual 338, 3) := by decide +kernel
theorem dX11_takeBlock_35 : decode cX11_takeBlock 35 = .ok (.ifCond .ne 5, 3) := by decide +kernel
theorem dX11_takeBlock_38 : decode cX11_takeBlock 38 = .ok (.iconst 0, 1) := by decide +kernel
theorem dX11_takeBlock_39 : decode cX11_takeBlock 39 = .ok (.ireturn, 1) := by decide +kernel
theorem dX11_takeBlock_40 : decode cX11_takeBlock 40 = .ok (.iconst 0, 1) := by decide +kernel
theorem dX11_takeBlock_41 : decode cX11_takeBlock 41 = .ok (.istore 4, 2) := by decide +kernel
theorem dX11_takeBlock_43 : decode cX11_takeBlock 43 = .ok (.iload 4, 2) := by decide +kernel
theorem dX11_takeBlock_45 : decode cX11_takeBlock 45 = .ok (.bipush 47, 2) := by decide +kernel
theorem dX11_takeBlock_47 : decode cX11_takeBlock 47 = .ok (.if_icmp .ge 81, 3) := by decide +kernel
theorem dX11_takeBlock_50 : decode cX11_takeBlock 50 = .ok (.aload_n 0, 1) := by decide +kernel
theorem dX11_takeBlock_51 : decode cX11_takeBlock 51 = .ok (.iload_n 3, 1) := by decide +kernel
theorem dX11_takeBlock_52 : decode cX11_takeBlock 52 = .ok (.invokestatic 181, 3) := by decide +kernel
theorem dX11_takeBlock_55 : decode cX11_takeBlock 55 = .ok (.iconst 1, 1) := by decide +kernel
theorem dX11_takeBlock_56 : decode cX11_takeBlock 56 = .ok (.iload 4, 2) := by decide +kernel
theorem dX11_takeBlock_58 : decode cX11_takeBlock 58 = .ok (.bipush 32, 2) := by decide +kernel
theorem dX11_takeBlock_60 : decode cX11_takeBlock 60 = .ok (.idiv, 1) := by decide +kernel
theorem dX11_takeBlock_61 : decode cX11_takeBlock 61 = .ok (.iadd, 1) := by decide +kernel
theorem dX11_takeBlock_62 : decode cX11_takeBlock 62 = .ok (.invokevirtual 332, 3) := by decide +kernel
theorem dX11_takeBlock_65 : decode cX11_takeBlock 65 = .ok (.istore 5, 2) := by decide +kernel
theorem dX11_takeBlock_67 : decode cX11_takeBlock 67 = .ok (.iload 5, 2) := by decide +kernel
theorem dX11_takeBlock_69 : decode cX11_takeBlock 69 = .ok (.iload 4, 2) := by decide +kernel
theorem dX11_takeBlock_71 : decode cX11_takeBlock 71 = .ok (.bipush 32, 2) := by decide +kernel
theorem dX11_takeBlock_73 : decode cX11_takeBlock 73 = .ok (.irem, 1) := by decide +kernel
theorem dX11_takeBlock_74 : decode cX11_takeBlock 74 = .ok (.ishr, 1) := by decide +kernel
theorem dX11_takeBlock_75 : decode cX11_takeBlock 75 = .ok (.iconst 1, 1) := by decide +kernel
theorem dX11_takeBlock_76 : decode cX11_takeBlock 76 = .ok (.iand, 1) := by decide +kernel
theorem dX11_takeBlock_77 : decode cX11_takeBlock 77 = .ok (.ifCond .ne 45, 3) := by decide +kernel
theorem dX11_takeBlock_80 : decode cX11_takeBlock 80 = .ok (.aload_n 0, 1) := by decide +kernel
theorem dX11_takeBlock_81 : decode cX11_takeBlock 81 = .ok (.iload_n 3, 1) := by decide +kernel
theorem dX11_takeBlock_82 : decode cX11_takeBlock 82 = .ok (.invokestatic 181, 3) := by decide +kernel
theorem dX11_takeBlock_85 : decode cX11_takeBlock 85 = .ok (.iconst 1, 1) := by decide +kernel
theorem dX11_takeBlock_86 : decode cX11_takeBlock 86 = .ok (.iload 4, 2) := by decide +kernel
theorem dX11_takeBlock_88 : decode cX11_takeBlock 88 = .ok (.bipush 32, 2) := by decide +kernel
theorem dX11_takeBlock_90 : decode cX11_takeBlock 90 = .ok (.idiv, 1) := by decide +kernel
theorem dX11_takeBlock_91 : decode cX11_takeBlock 91 = .ok (.iadd, 1) := by decide +kernel
theorem dX11_takeBlock_92 : decode cX11_takeBlock 92 = .ok (.iload 5, 2) := by decide +kernel
theorem dX11_takeBlock_94 : decode cX11_takeBlock 94 = .ok (.iconst 1, 1) := by decide +kernel
theorem dX11_takeBlock_95 : decode cX11_takeBlock 95 = .ok (.iload 4, 2) := by decide +kernel
theorem dX11_takeBlock_97 : decode cX11_takeBlock 97 = .ok (.bipush 32, 2) := by decide +kernel
theorem dX11_takeBlock_99 : decode cX11_takeBlock 99 = .ok (.irem, 1) := by decide +kernel
theorem dX11_takeBlock_100 : decode cX11_takeBlock 100 = .ok (.ishl, 1) := by decide +kernel
theorem dX11_takeBlock_101 : decode cX11_takeBlock 101 = .ok (.ior, 1) := by decide +kernel
theorem dX11_takeBlock_102 : decode cX11_takeBlock 102 = .ok (.invokevirtual 335, 3) := by decide +kernel
theorem dX11_takeBlock_105 : decode cX11_takeBlock 105 = .ok (.aload_n 0, 1) := by decide +kernel
theorem dX11_takeBlock_106 : decode cX11_takeBlock 106 = .ok (.iload_n 3, 1) := by decide +kernel
theorem dX11_takeBlock_107 : decode cX11_takeBlock 107 = .ok (.iload 4, 2) := by decide +kernel
theorem dX11_takeBlock_109 : decode cX11_takeBlock 109 = .ok (.invokestatic 342, 3) := by decide +kernel
theorem dX11_takeBlock_112 : decode cX11_takeBlock 112 = .ok (.invokevirtual 345, 3) := by decide +kernel
theorem dX11_takeBlock_115 : decode cX11_takeBlock 115 = .ok (.iload_n 3, 1) := by decide +kernel
theorem dX11_takeBlock_116 : decode cX11_takeBlock 116 = .ok (.iload 4, 2) := by decide +kernel
theorem dX11_takeBlock_118 : decode cX11_takeBlock 118 = .ok (.invokestatic 342, 3) := by decide +kernel
theorem dX11_takeBlock_121 : decode cX11_takeBlock 121 = .ok (.ireturn, 1) := by decide +kernel
theorem dX11_takeBlock_122 : decode cX11_takeBlock 122 = .ok (.iinc 4 1, 3) := by decide +kernel
theorem dX11_takeBlock_125 : decode cX11_takeBlock 125 = .ok (.goto (-82), 3) := by decide +kernel
theorem dX11_takeBlock_128 : decode cX11_takeBlock 128 = .ok (.iinc 2 1, 3) := by decide +kernel
theorem dX11_takeBlock_131 : decode cX11_takeBlock 131 = .ok (.goto (-129), 3) := by decide +kernel
theorem dX11_takeBlock_134 : decode cX11_takeBlock 134 = .ok (.aload_n 0, 1) := by decide +kernel
theorem dX11_takeBlock_135 : decode cX11_takeBlock 135 = .ok (.bipush (-7), 2) := by decide +kernel
theorem dX11_takeBlock_137 : decode cX11_takeBlock 137 = .ok (.invokevirtual 348, 3) := by decide +kernel
theorem dX11_takeBlock_140 : decode cX11_takeBlock 140 = .ok (.iconst 0, 1) := by decide +kernel
theorem dX11_takeBlock_141 : decode cX11_takeBlock 141 = .ok (.ireturn, 1) := by decide +kernel
theorem dX11_giveBack_0 : decode cX11_giveBack 0 = .ok (.iload_n 1, 1) := by decide +kernel
theorem dX11_giveBack_1 : decode cX11_giveBack 1 = .ok (.sipush 128, 3) := by decide +kernel
theorem dX11_giveBack_4 : decode cX11_giveBack 4 = .ok (.isub, 1) := by decide +kernel
theorem dX11_giveBack_5 : decode cX11_giveBack 5 = .ok (.bipush 64, 2) := by decide +kernel
theorem dX11_giveBack_7 : decode cX11_giveBack 7 = .ok (.idiv, 1) := by decide +kernel
theorem dX11_giveBack_8 : decode cX11_giveBack 8 = .ok (.istore_n 2, 1) := by decide +kernel
theorem dX11_giveBack_9 : decode cX11_giveBack 9 = .ok (.iload_n 1, 1) := by decide +kernel
theorem dX11_giveBack_10 : decode cX11_giveBack 10 = .ok (.iload_n 2, 1) := by decide +kernel
theorem dX11_giveBack_11 : decode cX11_giveBack 11 = .ok (.iconst 0, 1) := by decide +kernel
theorem dX11_giveBack_12 : decode cX11_giveBack 12 = .ok (.invokestatic 342, 3) := by decide +kernel
theorem dX11_giveBack_15 : decode cX11_giveBack 15 = .ok (.isub, 1) := by decide +kernel
theorem dX11_giveBack_16 : decode cX11_giveBack 16 = .ok (.istore_n 3, 1) := by decide +kernel
theorem dX11_giveBack_17 : decode cX11_giveBack 17 = .ok (.aload_n 0, 1) := by decide +kernel
theorem dX11_giveBack_18 : decode cX11_giveBack 18 = .ok (.sipush 128, 3) := by decide +kernel
theorem dX11_giveBack_21 : decode cX11_giveBack 21 = .ok (.iload_n 2, 1) := by decide +kernel
theorem dX11_giveBack_22 : decode cX11_giveBack 22 = .ok (.iadd, 1) := by decide +kernel
theorem dX11_giveBack_23 : decode cX11_giveBack 23 = .ok (.iconst 2, 1) := by decide +kernel
theorem dX11_giveBack_24 : decode cX11_giveBack 24 = .ok (.invokevirtual 338, 3) := by decide +kernel
theorem dX11_giveBack_27 : decode cX11_giveBack 27 = .ok (.ifCond .eq 60, 3) := by decide +kernel
theorem dX11_giveBack_30 : decode cX11_giveBack 30 = .ok (.aload_n 0, 1) := by decide +kernel
theorem dX11_giveBack_31 : decode cX11_giveBack 31 = .ok (.iload_n 2, 1) := by decide +kernel
theorem dX11_giveBack_32 : decode cX11_giveBack 32 = .ok (.invokestatic 181, 3) := by decide +kernel
theorem dX11_giveBack_35 : decode cX11_giveBack 35 = .ok (.iconst 1, 1) := by decide +kernel
theorem dX11_giveBack_36 : decode cX11_giveBack 36 = .ok (.iload_n 3, 1) := by decide +kernel
theorem dX11_giveBack_37 : decode cX11_giveBack 37 = .ok (.bipush 32, 2) := by decide +kernel
theorem dX11_giveBack_39 : decode cX11_giveBack 39 = .ok (.idiv, 1) := by decide +kernel
theorem dX11_giveBack_40 : decode cX11_giveBack 40 = .ok (.iadd, 1) := by decide +kernel
theorem dX11_giveBack_41 : decode cX11_giveBack 41 = .ok (.aload_n 0, 1) := by decide +kernel
theorem dX11_giveBack_42 : decode cX11_giveBack 42 = .ok (.iload_n 2, 1) := by decide +kernel
theorem dX11_giveBack_43 : decode cX11_giveBack 43 = .ok (.invokestatic 181, 3) := by decide +kernel
theorem dX11_giveBack_46 : decode cX11_giveBack 46 = .ok (.iconst 1, 1) := by decide +kernel
theorem dX11_giveBack_47 : decode cX11_giveBack 47 = .ok (.iload_n 3, 1) := by decide +kernel
theorem dX11_giveBack_48 : decode cX11_giveBack 48 = .ok (.bipush 32, 2) := by decide +kernel
theorem dX11_giveBack_50 : decode cX11_giveBack 50 = .ok (.idiv, 1) := by decide +kernel
theorem dX11_giveBack_51 : decode cX11_giveBack 51 = .ok (.iadd, 1) := by decide +kernel
theorem dX11_giveBack_52 : decode cX11_giveBack 52 = .ok (.invokevirtual 332, 3) := by decide +kernel
theorem dX11_giveBack_55 : decode cX11_giveBack 55 = .ok (.iconst 1, 1) := by decide +kernel
theorem dX11_giveBack_56 : decode cX11_giveBack 56 = .ok (.iload_n 3, 1) := by decide +kernel
theorem dX11_giveBack_57 : decode cX11_giveBack 57 = .ok (.bipush 32, 2) := by decide +kernel
theorem dX11_giveBack_59 : decode cX11_giveBack 59 = .ok (.irem, 1) := by decide +kernel
theorem dX11_giveBack_60 : decode cX11_giveBack 60 = .ok (.ishl, 1) := by decide +kernel
theorem dX11_giveBack_61 : decode cX11_giveBack 61 = .ok (.iconst (-1), 1) := by decide +kernel
theorem dX11_giveBack_62 : decode cX11_giveBack 62 = .ok (.ixor, 1) := by decide +kernel
theorem dX11_giveBack_63 : decode cX11_giveBack 63 = .ok (.iand, 1) := by decide +kernel
theorem dX11_giveBack_64 : decode cX11_giveBack 64 = .ok (.invokevirtual 335, 3) := by decide +kernel
theorem dX11_giveBack_67 : decode cX11_giveBack 67 = .ok (.aload_n 0, 1) := by decide +kernel
theorem dX11_giveBack_68 : decode cX11_giveBack 68 = .ok (.getfield 153, 3) := by decide +kernel
theorem dX11_giveBack_71 : decode cX11_giveBack 71 = .ok (.aload_n 0, 1) := by decide +kernel
theorem dX11_giveBack_72 : decode cX11_giveBack 72 = .ok (.getfield 310, 3) := by decide +kernel
theorem dX11_giveBack_75 : decode cX11_giveBack 75 = .ok (.iload_n 1, 1) := by decide +kernel
theorem dX11_giveBack_76 : decode cX11_giveBack 76 = .ok (.iastore, 1) := by decide +kernel
theorem dX11_giveBack_77 : decode cX11_giveBack 77 = .ok (.aload_n 0, 1) := by decide +kernel
theorem dX11_giveBack_78 : decode cX11_giveBack 78 = .ok (.dup, 1) := by decide +kernel
theorem dX11_giveBack_79 : decode cX11_giveBack 79 = .ok (.getfield 310, 3) := by decide +kernel
theorem dX11_giveBack_82 : decode cX11_giveBack 82 = .ok (.iconst 1, 1) := by decide +kernel
theorem dX11_giveBack_83 : decode cX11_giveBack 83 = .ok (.iadd, 1) := by decide +kernel
theorem dX11_giveBack_84 : decode cX11_giveBack 84 = .ok (.putfield 310, 3) := by decide +kernel
theorem dX11_giveBack_87 : decode cX11_giveBack 87 = .ok (.return_, 1) := by decide +kernel
theorem dX11_blockOf_0 : decode cX11_blockOf 0 = .ok (.iload_n 2, 1) := by decide +kernel
theorem dX11_blockOf_1 : decode cX11_blockOf 1 = .ok (.sipush 128, 3) := by decide +kernel
theorem dX11_blockOf_4 : decode cX11_blockOf 4 = .ok (.if_icmp .ge 15, 3) := by decide +kernel
theorem dX11_blockOf_7 : decode cX11_blockOf 7 = .ok (.aload_n 0, 1) := by decide +kernel
theorem dX11_blockOf_8 : decode cX11_blockOf 8 = .ok (.iload_n 1, 1) := by decide +kernel
theorem dX11_blockOf_9 : decode cX11_blockOf 9 = .ok (.iconst 3, 1) := by decide +kernel
theorem dX11_blockOf_10 : decode cX11_blockOf 10 = .ok (.iload_n 2, 1) := by decide +kernel
theorem dX11_blockOf_11 : decode cX11_blockOf 11 = .ok (.bipush 16, 2) := by decide +kernel
theorem dX11_blockOf_13 : decode cX11_blockOf 13 = .ok (.idiv, 1) := by decide +kernel
theorem dX11_blockOf_14 : decode cX11_blockOf 14 = .ok (.iadd, 1) := by decide +kernel
theorem dX11_blockOf_15 : decode cX11_blockOf 15 = .ok (.invokevirtual 351, 3) := by decide +kernel
theorem dX11_blockOf_18 : decode cX11_blockOf 18 = .ok (.ireturn, 1) := by decide +kernel
theorem dX11_blockOf_19 : decode cX11_blockOf 19 = .ok (.aload_n 0, 1) := by decide +kernel
theorem dX11_blockOf_20 : decode cX11_blockOf 20 = .ok (.iload_n 1, 1) := by decide +kernel
theorem dX11_blockOf_21 : decode cX11_blockOf 21 = .ok (.bipush 11, 2) := by decide +kernel
theorem dX11_blockOf_23 : decode cX11_blockOf 23 = .ok (.invokevirtual 351, 3) := by decide +kernel
theorem dX11_blockOf_26 : decode cX11_blockOf 26 = .ok (.istore_n 3, 1) := by decide +kernel
theorem dX11_blockOf_27 : decode cX11_blockOf 27 = .ok (.iload_n 3, 1) := by decide +kernel
theorem dX11_blockOf_28 : decode cX11_blockOf 28 = .ok (.ifCond .ne 7, 3) := by decide +kernel
theorem dX11_blockOf_31 : decode cX11_blockOf 31 = .ok (.iconst 0, 1) := by decide +kernel
theorem dX11_blockOf_32 : decode cX11_blockOf 32 = .ok (.goto 15, 3) := by decide +kernel
theorem dX11_blockOf_35 : decode cX11_blockOf 35 = .ok (.aload_n 0, 1) := by decide +kernel
theorem dX11_blockOf_36 : decode cX11_blockOf 36 = .ok (.iload_n 3, 1) := by decide +kernel
theorem dX11_blockOf_37 : decode cX11_blockOf 37 = .ok (.iload_n 2, 1) := by decide +kernel
theorem dX11_blockOf_38 : decode cX11_blockOf 38 = .ok (.bipush 16, 2) := by decide +kernel
theorem dX11_blockOf_40 : decode cX11_blockOf 40 = .ok (.idiv, 1) := by decide +kernel
theorem dX11_blockOf_41 : decode cX11_blockOf 41 = .ok (.bipush 8, 2) := by decide +kernel
theorem dX11_blockOf_43 : decode cX11_blockOf 43 = .ok (.isub, 1) := by decide +kernel
theorem dX11_blockOf_44 : decode cX11_blockOf 44 = .ok (.invokevirtual 332, 3) := by decide +kernel
theorem dX11_blockOf_47 : decode cX11_blockOf 47 = .ok (.ireturn, 1) := by decide +kernel
theorem dX11_wordOf_0 : decode cX11_wordOf 0 = .ok (.aload_n 0, 1) := by decide +kernel
theorem dX11_wordOf_1 : decode cX11_wordOf 1 = .ok (.iload_n 1, 1) := by decide +kernel
theorem dX11_wordOf_2 : decode cX11_wordOf 2 = .ok (.iload_n 2, 1) := by decide +kernel
theorem dX11_wordOf_3 : decode cX11_wordOf 3 = .ok (.invokevirtual 354, 3) := by decide +kernel
theorem dX11_wordOf_6 : decode cX11_wordOf 6 = .ok (.istore_n 3, 1) := by decide +kernel
theorem dX11_wordOf_7 : decode cX11_wordOf 7 = .ok (.iload_n 3, 1) := by decide +kernel
theorem dX11_wordOf_8 : decode cX11_wordOf 8 = .ok (.ifCond .ne 7, 3) := by decide +kernel
theorem dX11_wordOf_11 : decode cX11_wordOf 11 = .ok (.iconst 0, 1) := by decide +kernel
theorem dX11_wordOf_12 : decode cX11_wordOf 12 = .ok (.goto 12, 3) := by decide +kernel
theorem dX11_wordOf_15 : decode cX11_wordOf 15 = .ok (.aload_n 0, 1) := by decide +kernel
theorem dX11_wordOf_16 : decode cX11_wordOf 16 = .ok (.iload_n 3, 1) := by decide +kernel
theorem dX11_wordOf_17 : decode cX11_wordOf 17 = .ok (.iload_n 2, 1) := by decide +kernel
theorem dX11_wordOf_18 : decode cX11_wordOf 18 = .ok (.bipush 16, 2) := by decide +kernel
theorem dX11_wordOf_20 : decode cX11_wordOf 20 = .ok (.irem, 1) := by decide +kernel
theorem dX11_wordOf_21 : decode cX11_wordOf 21 = .ok (.invokevirtual 332, 3) := by decide +kernel
theorem dX11_wordOf_24 : decode cX11_wordOf 24 = .ok (.ireturn, 1) := by decide +kernel
theorem dX11_blockFor_0 : decode cX11_blockFor 0 = .ok (.iload_n 2, 1) := by decide +kernel
theorem dX11_blockFor_1 : decode cX11_blockFor 1 = .ok (.sipush 128, 3) := by decide +kernel
theorem dX11_blockFor_4 : decode cX11_blockFor 4 = .ok (.if_icmp .lt 36, 3) := by decide +kernel
theorem dX11_blockFor_7 : decode cX11_blockFor 7 = .ok (.aload_n 0, 1) := by decide +kernel
theorem dX11_blockFor_8 : decode cX11_blockFor 8 = .ok (.iload_n 1, 1) := by decide +kernel
theorem dX11_blockFor_9 : decode cX11_blockFor 9 = .ok (.bipush 11, 2) := by decide +kernel
theorem dX11_blockFor_11 : decode cX11_blockFor 11 = .ok (.invokevirtual 351, 3) := by decide +kernel
theorem dX11_blockFor_14 : decode cX11_blockFor 14 = .ok (.ifCond .ne 26, 3) := by decide +kernel
theorem dX11_blockFor_17 : decode cX11_blockFor 17 = .ok (.aload_n 0, 1) := by decide +kernel
theorem dX11_blockFor_18 : decode cX11_blockFor 18 = .ok (.iload_n 1, 1) := by decide +kernel
theorem dX11_blockFor_19 : decode cX11_blockFor 19 = .ok (.invokevirtual 357, 3) := by decide +kernel
theorem dX11_blockFor_22 : decode cX11_blockFor 22 = .ok (.istore_n 3, 1) := by decide +kernel
theorem dX11_blockFor_23 : decode cX11_blockFor 23 = .ok (.aload_n 0, 1) := by decide +kernel
theorem dX11_blockFor_24 : decode cX11_blockFor 24 = .ok (.invokevirtual 322, 3) := by decide +kernel
theorem dX11_blockFor_27 : decode cX11_blockFor 27 = .ok (.ifCond .eq 5, 3) := by decide +kernel
theorem dX11_blockFor_30 : decode cX11_blockFor 30 = .ok (.iconst 0, 1) := by decide +kernel
theorem dX11_blockFor_31 : decode cX11_blockFor 31 = .ok (.ireturn, 1) := by decide +kernel
theorem dX11_blockFor_32 : decode cX11_blockFor 32 = .ok (.aload_n 0, 1) := by decide +kernel
theorem dX11_blockFor_33 : decode cX11_blockFor 33 = .ok (.iload_n 1, 1) := by decide +kernel
theorem dX11_blockFor_34 : decode cX11_blockFor 34 = .ok (.bipush 11, 2) := by decide +kernel
theorem dX11_blockFor_36 : decode cX11_blockFor 36 = .ok (.iload_n 3, 1) := by decide +kernel
theorem dX11_blockFor_37 : decode cX11_blockFor 37 = .ok (.invokevirtual 360, 3) := by decide +kernel
theorem dX11_blockFor_40 : decode cX11_blockFor 40 = .ok (.aload_n 0, 1) := by decide +kernel
theorem dX11_blockFor_41 : decode cX11_blockFor 41 = .ok (.iload_n 1, 1) := by decide +kernel
theorem dX11_blockFor_42 : decode cX11_blockFor 42 = .ok (.iload_n 2, 1) := by decide +kernel
theorem dX11_blockFor_43 : decode cX11_blockFor 43 = .ok (.invokevirtual 354, 3) := by decide +kernel
theorem dX11_blockFor_46 : decode cX11_blockFor 46 = .ok (.istore_n 3, 1) := by decide +kernel
theorem dX11_blockFor_47 : decode cX11_blockFor 47 = .ok (.iload_n 3, 1) := by decide +kernel
theorem dX11_blockFor_48 : decode cX11_blockFor 48 = .ok (.ifCond .le 5, 3) := by decide +kernel
theorem dX11_blockFor_51 : decode cX11_blockFor 51 = .ok (.iload_n 3, 1) := by decide +kernel
theorem dX11_blockFor_52 : decode cX11_blockFor 52 = .ok (.ireturn, 1) := by decide +kernel
theorem dX11_blockFor_53 : decode cX11_blockFor 53 = .ok (.aload_n 0, 1) := by decide +kernel
theorem dX11_blockFor_54 : decode cX11_blockFor 54 = .ok (.iload_n 1, 1) := by decide +kernel
theorem dX11_blockFor_55 : decode cX11_blockFor 55 = .ok (.invokevirtual 357, 3) := by decide +kernel
theorem dX11_blockFor_58 : decode cX11_blockFor 58 = .ok (.istore_n 3, 1) := by decide +kernel
theorem dX11_blockFor_59 : decode cX11_blockFor 59 = .ok (.aload_n 0, 1) := by decide +kernel
theorem dX11_blockFor_60 : decode cX11_blockFor 60 = .ok (.invokevirtual 322, 3) := by decide +kernel
theorem dX11_blockFor_63 : decode cX11_blockFor 63 = .ok (.ifCond .eq 5, 3) := by decide +kernel
theorem dX11_blockFor_66 : decode cX11_blockFor 66 = .ok (.iconst 0, 1) := by decide +kernel
theorem dX11_blockFor_67 : decode cX11_blockFor 67 = .ok (.ireturn, 1) := by decide +kernel
theorem dX11_blockFor_68 : decode cX11_blockFor 68 = .ok (.iload_n 2, 1) := by decide +kernel
theorem dX11_blockFor_69 : decode cX11_blockFor 69 = .ok (.sipush 128, 3) := by decide +kernel
theorem dX11_blockFor_72 : decode cX11_blockFor 72 = .ok (.if_icmp .ge 18, 3) := by decide +kernel
theorem dX11_blockFor_75 : decode cX11_blockFor 75 = .ok (.aload_n 0, 1) := by decide +kernel
theorem dX11_blockFor_76 : decode cX11_blockFor 76 = .ok (.iload_n 1, 1) := by decide +kernel
theorem dX11_blockFor_77 : decode cX11_blockFor 77 = .ok (.iconst 3, 1) := by decide +kernel
theorem dX11_blockFor_78 : decode cX11_blockFor 78 = .ok (.iload_n 2, 1) := by decide +kernel
theorem dX11_blockFor_79 : decode cX11_blockFor 79 = .ok (.bipush 16, 2) := by decide +kernel
theorem dX11_blockFor_81 : decode cX11_blockFor 81 = .ok (.idiv, 1) := by decide +kernel
theorem dX11_blockFor_82 : decode cX11_blockFor 82 = .ok (.iadd, 1) := by decide +kernel
theorem dX11_blockFor_83 : decode cX11_blockFor 83 = .ok (.iload_n 3, 1) := by decide +kernel
theorem dX11_blockFor_84 : decode cX11_blockFor 84 = .ok (.invokevirtual 360, 3) := by decide +kernel
theorem dX11_blockFor_87 : decode cX11_blockFor 87 = .ok (.goto 22, 3) := by decide +kernel
theorem dX11_blockFor_90 : decode cX11_blockFor 90 = .ok (.aload_n 0, 1) := by decide +kernel
theorem dX11_blockFor_91 : decode cX11_blockFor 91 = .ok (.aload_n 0, 1) := by decide +kernel
theorem dX11_blockFor_92 : decode cX11_blockFor 92 = .ok (.iload_n 1, 1) := by decide +kernel
theorem dX11_blockFor_93 : decode cX11_blockFor 93 = .ok (.bipush 11, 2) := by decide +kernel
theorem dX11_blockFor_95 : decode cX11_blockFor 95 = .ok (.invokevirtual 351, 3) := by decide +kernel
theorem dX11_blockFor_98 : decode cX11_blockFor 98 = .ok (.iload_n 2, 1) := by decide +kernel
theorem dX11_blockFor_99 : decode cX11_blockFor 99 = .ok (.bipush 16, 2) := by decide +kernel
theorem dX11_blockFor_101 : decode cX11_blockFor 101 = .ok (.idiv, 1) := by decide +kernel
theorem dX11_blockFor_102 : decode cX11_blockFor 102 = .ok (.bipush 8, 2) := by decide +kernel
theorem dX11_blockFor_104 : decode cX11_blockFor 104 = .ok (.isub, 1) := by decide +kernel
theorem dX11_blockFor_105 : decode cX11_blockFor 105 = .ok (.iload_n 3, 1) := by decide +kernel
theorem dX11_blockFor_106 : decode cX11_blockFor 106 = .ok (.invokevirtual 335, 3) := by decide +kernel
theorem dX11_blockFor_109 : decode cX11_blockFor 109 = .ok (.iload_n 3, 1) := by decide +kernel
theorem dX11_blockFor_110 : decode cX11_blockFor 110 = .ok (.ireturn, 1) := by decide +kernel
theorem dX11_find_0 : decode cX11_find 0 = .ok (.aload_n 0, 1) := by decide +kernel
theorem dX11_find_1 : decode cX11_find 1 = .ok (.iload_n 1, 1) := by decide +kernel
theorem dX11_find_2 : decode cX11_find 2 = .ok (.iconst 2, 1) := by decide +kernel
theorem dX11_find_3 : decode cX11_find 3 = .ok (.invokevirtual 351, 3) := by decide +kernel
theorem dX11_find_6 : decode cX11_find 6 = .ok (.istore_n 3, 1) := by decide +kernel
theorem dX11_find_7 : decode cX11_find 7 = .ok (.iconst 0, 1) := by decide +kernel
theorem dX11_find_8 : decode cX11_find 8 = .ok (.istore 4, 2) := by decide +kernel
theorem dX11_find_10 : decode cX11_find 10 = .ok (.iload 4, 2) := by decide +kernel
theorem dX11_find_12 : decode cX11_find 12 = .ok (.iload_n 3, 1) := by decide +kernel
theorem dX11_find_13 : decode cX11_find 13 = .ok (.if_icmp .ge 23, 3) := by decide +kernel
theorem dX11_find_16 : decode cX11_find 16 = .ok (.aload_n 0, 1) := by decide +kernel
theorem dX11_find_17 : decode cX11_find 17 = .ok (.iload_n 1, 1) := by decide +kernel
theorem dX11_find_18 : decode cX11_find 18 = .ok (.iload 4, 2) := by decide +kernel
theorem dX11_find_20 : decode cX11_find 20 = .ok (.invokevirtual 363, 3) := by decide +kernel
theorem dX11_find_23 : decode cX11_find 23 = .ok (.iload_n 2, 1) := by decide +kernel
theorem dX11_find_24 : decode cX11_find 24 = .ok (.if_icmp .ne 6, 3) := by decide +kernel
theorem dX11_find_27 : decode cX11_find 27 = .ok (.iload 4, 2) := by decide +kernel
theorem dX11_find_29 : decode cX11_find 29 = .ok (.ireturn, 1) := by decide +kernel
theorem dX11_find_30 : decode cX11_find 30 = .ok (.iinc 4 2, 3) := by decide +kernel
theorem dX11_find_33 : decode cX11_find 33 = .ok (.goto (-23), 3) := by decide +kernel
theorem dX11_find_36 : decode cX11_find 36 = .ok (.iconst (-1), 1) := by decide +kernel
theorem dX11_find_37 : decode cX11_find 37 = .ok (.ireturn, 1) := by decide +kernel
theorem dX11_setEntry_0 : decode cX11_setEntry 0 = .ok (.aload_n 0, 1) := by decide +kernel
theorem dX11_setEntry_1 : decode cX11_setEntry 1 = .ok (.iload_n 1, 1) := by decide +kernel
theorem dX11_setEntry_2 : decode cX11_setEntry 2 = .ok (.iload_n 2, 1) := by decide +kernel
theorem dX11_setEntry_3 : decode cX11_setEntry 3 = .ok (.invokevirtual 366, 3) := by decide +kernel
theorem dX11_setEntry_6 : decode cX11_setEntry 6 = .ok (.istore 5, 2) := by decide +kernel
theorem dX11_setEntry_8 : decode cX11_setEntry 8 = .ok (.aload_n 0, 1) := by decide +kernel
theorem dX11_setEntry_9 : decode cX11_setEntry 9 = .ok (.invokevirtual 322, 3) := by decide +kernel
theorem dX11_setEntry_12 : decode cX11_setEntry 12 = .ok (.ifCond .ne 28, 3) := by decide +kernel
theorem dX11_setEntry_15 : decode cX11_setEntry 15 = .ok (.aload_n 0, 1) := by decide +kernel
theorem dX11_setEntry_16 : decode cX11_setEntry 16 = .ok (.iload 5, 2) := by decide +kernel
theorem dX11_setEntry_18 : decode cX11_setEntry 18 = .ok (.iload_n 2, 1) := by decide +kernel
theorem dX11_setEntry_19 : decode cX11_setEntry 19 = .ok (.bipush 16, 2) := by decide +kernel
theorem dX11_setEntry_21 : decode cX11_setEntry 21 = .ok (.irem, 1) := by decide +kernel
theorem dX11_setEntry_22 : decode cX11_setEntry 22 = .ok (.iload_n 3, 1) := by decide +kernel
theorem dX11_setEntry_23 : decode cX11_setEntry 23 = .ok (.invokevirtual 335, 3) := by decide +kernel
theorem dX11_setEntry_26 : decode cX11_setEntry 26 = .ok (.aload_n 0, 1) := by decide +kernel
theorem dX11_setEntry_27 : decode cX11_setEntry 27 = .ok (.iload 5, 2) := by decide +kernel
theorem dX11_setEntry_29 : decode cX11_setEntry 29 = .ok (.iload_n 2, 1) := by decide +kernel
theorem dX11_setEntry_30 : decode cX11_setEntry 30 = .ok (.bipush 16, 2) := by decide +kernel
theorem dX11_setEntry_32 : decode cX11_setEntry 32 = .ok (.irem, 1) := by decide +kernel
theorem dX11_setEntry_33 : decode cX11_setEntry 33 = .ok (.iconst 1, 1) := by decide +kernel
theorem dX11_setEntry_34 : decode cX11_setEntry 34 = .ok (.iadd, 1) := by decide +kernel
theorem dX11_setEntry_35 : decode cX11_setEntry 35 = .ok (.iload 4, 2) := by decide +kernel
theorem dX11_setEntry_37 : decode cX11_setEntry 37 = .ok (.invokevirtual 335, 3) := by decide +kernel
theorem dX11_setEntry_40 : decode cX11_setEntry 40 = .ok (.return_, 1) := by decide +kernel
theorem dX11_putEntry_0 : decode cX11_putEntry 0 = .ok (.aload_n 0, 1) := by decide +kernel
theorem dX11_putEntry_1 : decode cX11_putEntry 1 = .ok (.invokevirtual 322, 3) := by decide +kernel
theorem dX11_putEntry_4 : decode cX11_putEntry 4 = .ok (.ifCond .eq 4, 3) := by decide +kernel
theorem dX11_putEntry_7 : decode cX11_putEntry 7 = .ok (.return_, 1) := by decide +kernel
theorem dX11_putEntry_8 : decode cX11_putEntry 8 = .ok (.aload_n 0, 1) := by decide +kernel
theorem dX11_putEntry_9 : decode cX11_putEntry 9 = .ok (.iload_n 1, 1) := by decide +kernel
theorem dX11_putEntry_10 : decode cX11_putEntry 10 = .ok (.iconst 0, 1) := by decide +kernel
theorem dX11_putEntry_11 : decode cX11_putEntry 11 = .ok (.invokevirtual 369, 3) := by decide +kernel
theorem dX11_putEntry_14 : decode cX11_putEntry 14 = .ok (.istore 4, 2) := by decide +kernel
theorem dX11_putEntry_16 : decode cX11_putEntry 16 = .ok (.aload_n 0, 1) := by decide +kernel
theorem dX11_putEntry_17 : decode cX11_putEntry 17 = .ok (.iload_n 1, 1) := by decide +kernel
theorem dX11_putEntry_18 : decode cX11_putEntry 18 = .ok (.iconst 2, 1) := by decide +kernel
theorem dX11_putEntry_19 : decode cX11_putEntry 19 = .ok (.invokevirtual 351, 3) := by decide +kernel
theorem dX11_putEntry_22 : decode cX11_putEntry 22 = .ok (.istore 5, 2) := by decide +kernel
theorem dX11_putEntry_24 : decode cX11_putEntry 24 = .ok (.iload 4, 2) := by decide +kernel
theorem dX11_putEntry_26 : decode cX11_putEntry 26 = .ok (.iconst (-1), 1) := by decide +kernel
theorem dX11_putEntry_27 : decode cX11_putEntry 27 = .ok (.if_icmp .ne 18, 3) := by decide +kernel
theorem dX11_putEntry_30 : decode cX11_putEntry 30 = .ok (.iload 5, 2) := by decide +kernel
theorem dX11_putEntry_32 : decode cX11_putEntry 32 = .ok (.sipush 384, 3) := by decide +kernel
theorem dX11_putEntry_35 : decode cX11_putEntry 35 = .ok (.if_icmp .ne 10, 3) := by decide +kernel
theorem dX11_putEntry_38 : decode cX11_putEntry 38 = .ok (.aload_n 0, 1) := by decide +kernel
theorem dX11_putEntry_39 : decode cX11_putEntry 39 = .ok (.bipush (-7), 2) := by decide +kernel
theorem dX11_putEntry_41 : decode cX11_putEntry 41 = .ok (.invokevirtual 348, 3) := by decide +kernel
theorem dX11_putEntry_44 : decode cX11_putEntry 44 = .ok (.return_, 1) := by decide +kernel
theorem dX11_putEntry_45 : decode cX11_putEntry 45 = .ok (.aload_n 0, 1) := by decide +kernel
theorem dX11_putEntry_46 : decode cX11_putEntry 46 = .ok (.iload_n 1, 1) := by decide +kernel
theorem dX11_putEntry_47 : decode cX11_putEntry 47 = .ok (.iload 4, 2) := by decide +kernel
theorem dX11_putEntry_49 : decode cX11_putEntry 49 = .ok (.iconst (-1), 1) := by decide +kernel
theorem dX11_putEntry_50 : decode cX11_putEntry 50 = .ok (.if_icmp .ne 8, 3) := by decide +kernel
theorem dX11_putEntry_53 : decode cX11_putEntry 53 = .ok (.iload 5, 2) := by decide +kernel
theorem dX11_putEntry_55 : decode cX11_putEntry 55 = .ok (.goto 5, 3) := by decide +kernel
theorem dX11_putEntry_58 : decode cX11_putEntry 58 = .ok (.iload 4, 2) := by decide +kernel
theorem dX11_putEntry_60 : decode cX11_putEntry 60 = .ok (.iload_n 2, 1) := by decide +kernel
theorem dX11_putEntry_61 : decode cX11_putEntry 61 = .ok (.iload_n 3, 1) := by decide +kernel
theorem dX11_putEntry_62 : decode cX11_putEntry 62 = .ok (.invokevirtual 372, 3) := by decide +kernel
theorem dX11_putEntry_65 : decode cX11_putEntry 65 = .ok (.iload 4, 2) := by decide +kernel
theorem dX11_putEntry_67 : decode cX11_putEntry 67 = .ok (.iconst (-1), 1) := by decide +kernel
theorem dX11_putEntry_68 : decode cX11_putEntry 68 = .ok (.if_icmp .ne 20, 3) := by decide +kernel
theorem dX11_putEntry_71 : decode cX11_putEntry 71 = .ok (.aload_n 0, 1) := by decide +kernel
theorem dX11_putEntry_72 : decode cX11_putEntry 72 = .ok (.invokevirtual 322, 3) := by decide +kernel
theorem dX11_putEntry_75 : decode cX11_putEntry 75 = .ok (.ifCond .ne 13, 3) := by decide +kernel
theorem dX11_putEntry_78 : decode cX11_putEntry 78 = .ok (.aload_n 0, 1) := by decide +kernel
theorem dX11_putEntry_79 : decode cX11_putEntry 79 = .ok (.iload_n 1, 1) := by decide +kernel
theorem dX11_putEntry_80 : decode cX11_putEntry 80 = .ok (.iconst 2, 1) := by decide +kernel
theorem dX11_putEntry_81 : decode cX11_putEntry 81 = .ok (.iload 5, 2) := by decide +kernel
theorem dX11_putEntry_83 : decode cX11_putEntry 83 = .ok (.iconst 2, 1) := by decide +kernel
theorem dX11_putEntry_84 : decode cX11_putEntry 84 = .ok (.iadd, 1) := by decide +kernel
theorem dX11_putEntry_85 : decode cX11_putEntry 85 = .ok (.invokevirtual 360, 3) := by decide +kernel
theorem dX11_putEntry_88 : decode cX11_putEntry 88 = .ok (.return_, 1) := by decide +kernel
theorem dX11_isOf_0 : decode cX11_isOf 0 = .ok (.aload_n 0, 1) := by decide +kernel
theorem dX11_isOf_1 : decode cX11_isOf 1 = .ok (.iload_n 1, 1) := by decide +kernel
theorem dX11_isOf_2 : decode cX11_isOf 2 = .ok (.iload_n 2, 1) := by decide +kernel
theorem dX11_isOf_3 : decode cX11_isOf 3 = .ok (.invokevirtual 338, 3) := by decide +kernel
theorem dX11_isOf_6 : decode cX11_isOf 6 = .ok (.ifCond .ne 5, 3) := by decide +kernel
theorem dX11_isOf_9 : decode cX11_isOf 9 = .ok (.iconst 0, 1) := by decide +kernel
theorem dX11_isOf_10 : decode cX11_isOf 10 = .ok (.ireturn, 1) := by decide +kernel
theorem dX11_isOf_11 : decode cX11_isOf 11 = .ok (.aload_n 0, 1) := by decide +kernel
theorem dX11_isOf_12 : decode cX11_isOf 12 = .ok (.iload_n 1, 1) := by decide +kernel
theorem dX11_isOf_13 : decode cX11_isOf 13 = .ok (.iconst 0, 1) := by decide +kernel
theorem dX11_isOf_14 : decode cX11_isOf 14 = .ok (.invokevirtual 351, 3) := by decide +kernel
theorem dX11_isOf_17 : decode cX11_isOf 17 = .ok (.iload_n 3, 1) := by decide +kernel
theorem dX11_isOf_18 : decode cX11_isOf 18 = .ok (.if_icmp .eq 9, 3) := by decide +kernel
theorem dX11_isOf_21 : decode cX11_isOf 21 = .ok (.aload_n 0, 1) := by decide +kernel
theorem dX11_isOf_22 : decode cX11_isOf 22 = .ok (.iload 4, 2) := by decide +kernel
theorem dX11_isOf_24 : decode cX11_isOf 24 = .ok (.invokevirtual 348, 3) := by decide +kernel
theorem dX11_isOf_27 : decode cX11_isOf 27 = .ok (.aload_n 0, 1) := by decide +kernel
theorem dX11_isOf_28 : decode cX11_isOf 28 = .ok (.invokevirtual 322, 3) := by decide +kernel
theorem dX11_isOf_31 : decode cX11_isOf 31 = .ok (.ifCond .ne 7, 3) := by decide +kernel
theorem dX11_isOf_34 : decode cX11_isOf 34 = .ok (.iconst 1, 1) := by decide +kernel
theorem dX11_isOf_35 : decode cX11_isOf 35 = .ok (.goto 4, 3) := by decide +kernel
theorem dX11_isOf_38 : decode cX11_isOf 38 = .ok (.iconst 0, 1) := by decide +kernel
theorem dX11_isOf_39 : decode cX11_isOf 39 = .ok (.ireturn, 1) := by decide +kernel
theorem dX11_attempt_0 : decode cX11_attempt 0 = .ok (.aload_n 0, 1) := by decide +kernel
theorem dX11_attempt_1 : decode cX11_attempt 1 = .ok (.iload_n 1, 1) := by decide +kernel
theorem dX11_attempt_2 : decode cX11_attempt 2 = .ok (.putfield 319, 3) := by decide +kernel
theorem dX11_attempt_5 : decode cX11_attempt 5 = .ok (.aload_n 0, 1) := by decide +kernel
theorem dX11_attempt_6 : decode cX11_attempt 6 = .ok (.iconst (-1), 1) := by decide +kernel
theorem dX11_attempt_7 : decode cX11_attempt 7 = .ok (.putfield 295, 3) := by decide +kernel
theorem dX11_attempt_10 : decode cX11_attempt 10 = .ok (.aload_n 0, 1) := by decide +kernel
theorem dX11_attempt_11 : decode cX11_attempt 11 = .ok (.iconst 0, 1) := by decide +kernel
theorem dX11_attempt_12 : decode cX11_attempt 12 = .ok (.putfield 301, 3) := by decide +kernel
theorem dX11_attempt_15 : decode cX11_attempt 15 = .ok (.aload_n 0, 1) := by decide +kernel
theorem dX11_attempt_16 : decode cX11_attempt 16 = .ok (.iconst 0, 1) := by decide +kernel
theorem dX11_attempt_17 : decode cX11_attempt 17 = .ok (.putfield 304, 3) := by decide +kernel
theorem dX11_attempt_20 : decode cX11_attempt 20 = .ok (.aload_n 0, 1) := by decide +kernel
theorem dX11_attempt_21 : decode cX11_attempt 21 = .ok (.iconst 0, 1) := by decide +kernel
theorem dX11_attempt_22 : decode cX11_attempt 22 = .ok (.putfield 316, 3) := by decide +kernel
theorem dX11_attempt_25 : decode cX11_attempt 25 = .ok (.aload_n 0, 1) := by decide +kernel
theorem dX11_attempt_26 : decode cX11_attempt 26 = .ok (.iconst 0, 1) := by decide +kernel
theorem dX11_attempt_27 : decode cX11_attempt 27 = .ok (.putfield 307, 3) := by decide +kernel
theorem dX11_attempt_30 : decode cX11_attempt 30 = .ok (.aload_n 0, 1) := by decide +kernel
theorem dX11_attempt_31 : decode cX11_attempt 31 = .ok (.iconst 0, 1) := by decide +kernel
theorem dX11_attempt_32 : decode cX11_attempt 32 = .ok (.putfield 310, 3) := by decide +kernel
theorem dX11_attempt_35 : decode cX11_attempt 35 = .ok (.aload_n 0, 1) := by decide +kernel
theorem dX11_attempt_36 : decode cX11_attempt 36 = .ok (.getfield 69, 3) := by decide +kernel
theorem dX11_attempt_39 : decode cX11_attempt 39 = .ok (.iload_n 1, 1) := by decide +kernel
theorem dX11_attempt_40 : decode cX11_attempt 40 = .ok (.iaload, 1) := by decide +kernel
theorem dX11_attempt_41 : decode cX11_attempt 41 = .ok (.istore_n 2, 1) := by decide +kernel
theorem dX11_attempt_42 : decode cX11_attempt 42 = .ok (.aload_n 0, 1) := by decide +kernel
theorem dX11_attempt_43 : decode cX11_attempt 43 = .ok (.getfield 72, 3) := by decide +kernel
theorem dX11_attempt_46 : decode cX11_attempt 46 = .ok (.iload_n 1, 1) := by decide +kernel
theorem dX11_attempt_47 : decode cX11_attempt 47 = .ok (.iaload, 1) := by decide +kernel
theorem dX11_attempt_48 : decode cX11_attempt 48 = .ok (.istore_n 3, 1) := by decide +kernel
theorem dX11_attempt_49 : decode cX11_attempt 49 = .ok (.aload_n 0, 1) := by decide +kernel
theorem dX11_attempt_50 : decode cX11_attempt 50 = .ok (.getfield 75, 3) := by decide +kernel
theorem dX11_attempt_53 : decode cX11_attempt 53 = .ok (.iload_n 1, 1) := by decide +kernel
theorem dX11_attempt_54 : decode cX11_attempt 54 = .ok (.iaload, 1) := by decide +kernel
theorem dX11_attempt_55 : decode cX11_attempt 55 = .ok (.istore 4, 2) := by decide +kernel
theorem dX11_attempt_57 : decode cX11_attempt 57 = .ok (.aload_n 0, 1) := by decide +kernel
theorem dX11_attempt_58 : decode cX11_attempt 58 = .ok (.getfield 66, 3) := by decide +kernel
theorem dX11_attempt_61 : decode cX11_attempt 61 = .ok (.iload_n 1, 1) := by decide +kernel
theorem dX11_attempt_62 : decode cX11_attempt 62 = .ok (.iaload, 1) := by decide +kernel
theorem dX11_attempt_63 : decode cX11_attempt 63 = .ok (.tableswitch 243 0 14 #[73, 82, 93, 102, 113, 130, 174, 225, 234, 243, 243, 174, 201, 210, 218], 73) := by decide +kernel
theorem dX11_attempt_136 : decode cX11_attempt 136 = .ok (.aload_n 0, 1) := by decide +kernel
theorem dX11_attempt_137 : decode cX11_attempt 137 = .ok (.iload_n 2, 1) := by decide +kernel
theorem dX11_attempt_138 : decode cX11_attempt 138 = .ok (.iload_n 3, 1) := by decide +kernel
theorem dX11_attempt_139 : decode cX11_attempt 139 = .ok (.invokevirtual 375, 3) := by decide +kernel
theorem dX11_attempt_142 : decode cX11_attempt 142 = .ok (.goto 170, 3) := by decide +kernel
theorem dX11_attempt_145 : decode cX11_attempt 145 = .ok (.aload_n 0, 1) := by decide +kernel
theorem dX11_attempt_146 : decode cX11_attempt 146 = .ok (.iload_n 2, 1) := by decide +kernel
theorem dX11_attempt_147 : decode cX11_attempt 147 = .ok (.iload_n 3, 1) := by decide +kernel
theorem dX11_attempt_148 : decode cX11_attempt 148 = .ok (.iload 4, 2) := by decide +kernel
theorem dX11_attempt_150 : decode cX11_attempt 150 = .ok (.invokevirtual 378, 3) := by decide +kernel
theorem dX11_attempt_153 : decode cX11_attempt 153 = .ok (.goto 159, 3) := by decide +kernel
theorem dX11_attempt_156 : decode cX11_attempt 156 = .ok (.aload_n 0, 1) := by decide +kernel
theorem dX11_attempt_157 : decode cX11_attempt 157 = .ok (.iload_n 2, 1) := by decide +kernel
theorem dX11_attempt_158 : decode cX11_attempt 158 = .ok (.iload_n 3, 1) := by decide +kernel
theorem dX11_attempt_159 : decode cX11_attempt 159 = .ok (.invokevirtual 381, 3) := by decide +kernel
theorem dX11_attempt_162 : decode cX11_attempt 162 = .ok (.goto 150, 3) := by decide +kernel
theorem dX11_attempt_165 : decode cX11_attempt 165 = .ok (.aload_n 0, 1) := by decide +kernel
theorem dX11_attempt_166 : decode cX11_attempt 166 = .ok (.iload_n 2, 1) := by decide +kernel
theorem dX11_attempt_167 : decode cX11_attempt 167 = .ok (.iload_n 3, 1) := by decide +kernel
theorem dX11_attempt_168 : decode cX11_attempt 168 = .ok (.iload 4, 2) := by decide +kernel
theorem dX11_attempt_170 : decode cX11_attempt 170 = .ok (.invokevirtual 384, 3) := by decide +kernel
theorem dX11_attempt_173 : decode cX11_attempt 173 = .ok (.goto 139, 3) := by decide +kernel
theorem dX11_attempt_176 : decode cX11_attempt 176 = .ok (.aload_n 0, 1) := by decide +kernel
theorem dX11_attempt_177 : decode cX11_attempt 177 = .ok (.iload_n 2, 1) := by decide +kernel
theorem dX11_attempt_178 : decode cX11_attempt 178 = .ok (.iload_n 3, 1) := by decide +kernel
theorem dX11_attempt_179 : decode cX11_attempt 179 = .ok (.iload 4, 2) := by decide +kernel
theorem dX11_attempt_181 : decode cX11_attempt 181 = .ok (.aload_n 0, 1) := by decide +kernel
theorem dX11_attempt_182 : decode cX11_attempt 182 = .ok (.getfield 78, 3) := by decide +kernel
theorem dX11_attempt_185 : decode cX11_attempt 185 = .ok (.iload_n 1, 1) := by decide +kernel
theorem dX11_attempt_186 : decode cX11_attempt 186 = .ok (.iaload, 1) := by decide +kernel
theorem dX11_attempt_187 : decode cX11_attempt 187 = .ok (.invokevirtual 387, 3) := by decide +kernel
theorem dX11_attempt_190 : decode cX11_attempt 190 = .ok (.goto 122, 3) := by decide +kernel
theorem dX11_attempt_193 : decode cX11_attempt 193 = .ok (.aload_n 0, 1) := by decide +kernel
theorem dX11_attempt_194 : decode cX11_attempt 194 = .ok (.iload_n 2, 1) := by decide +kernel
theorem dX11_attempt_195 : decode cX11_attempt 195 = .ok (.iconst 1, 1) := by decide +kernel
theorem dX11_attempt_196 : decode cX11_attempt 196 = .ok (.iconst 1, 1) := by decide +kernel
theorem dX11_attempt_197 : decode cX11_attempt 197 = .ok (.bipush (-4), 2) := by decide +kernel
theorem dX11_attempt_199 : decode cX11_attempt 199 = .ok (.invokevirtual 390, 3) := by decide +kernel
theorem dX11_attempt_202 : decode cX11_attempt 202 = .ok (.ifCond .eq 110, 3) := by decide +kernel
theorem dX11_attempt_205 : decode cX11_attempt 205 = .ok (.iload_n 3, 1) := by decide +kernel
theorem dX11_attempt_206 : decode cX11_attempt 206 = .ok (.aload_n 0, 1) := by decide +kernel
theorem dX11_attempt_207 : decode cX11_attempt 207 = .ok (.iload_n 2, 1) := by decide +kernel
theorem dX11_attempt_208 : decode cX11_attempt 208 = .ok (.iconst 2, 1) := by decide +kernel
theorem dX11_attempt_209 : decode cX11_attempt 209 = .ok (.invokevirtual 351, 3) := by decide +kernel
theorem dX11_attempt_212 : decode cX11_attempt 212 = .ok (.if_icmp .lt 12, 3) := by decide +kernel
theorem dX11_attempt_215 : decode cX11_attempt 215 = .ok (.aload_n 0, 1) := by decide +kernel
theorem dX11_attempt_216 : decode cX11_attempt 216 = .ok (.bipush (-10), 2) := by decide +kernel
theorem dX11_attempt_218 : decode cX11_attempt 218 = .ok (.invokevirtual 348, 3) := by decide +kernel
theorem dX11_attempt_221 : decode cX11_attempt 221 = .ok (.goto 91, 3) := by decide +kernel
theorem dX11_attempt_224 : decode cX11_attempt 224 = .ok (.aload_n 0, 1) := by decide +kernel
theorem dX11_attempt_225 : decode cX11_attempt 225 = .ok (.aload_n 0, 1) := by decide +kernel
theorem dX11_attempt_226 : decode cX11_attempt 226 = .ok (.iload_n 2, 1) := by decide +kernel
theorem dX11_attempt_227 : decode cX11_attempt 227 = .ok (.iload_n 3, 1) := by decide +kernel
theorem dX11_attempt_228 : decode cX11_attempt 228 = .ok (.invokevirtual 363, 3) := by decide +kernel
theorem dX11_attempt_231 : decode cX11_attempt 231 = .ok (.putfield 316, 3) := by decide +kernel
theorem dX11_attempt_234 : decode cX11_attempt 234 = .ok (.goto 78, 3) := by decide +kernel
theorem dX11_attempt_237 : decode cX11_attempt 237 = .ok (.aload_n 0, 1) := by decide +kernel
theorem dX11_attempt_238 : decode cX11_attempt 238 = .ok (.iload_n 2, 1) := by decide +kernel
theorem dX11_attempt_239 : decode cX11_attempt 239 = .ok (.iload_n 3, 1) := by decide +kernel
theorem dX11_attempt_240 : decode cX11_attempt 240 = .ok (.iload 4, 2) := by decide +kernel
theorem dX11_attempt_242 : decode cX11_attempt 242 = .ok (.aload_n 0, 1) := by decide +kernel
theorem dX11_attempt_243 : decode cX11_attempt 243 = .ok (.getfield 66, 3) := by decide +kernel
theorem dX11_attempt_246 : decode cX11_attempt 246 = .ok (.iload_n 1, 1) := by decide +kernel
theorem dX11_attempt_247 : decode cX11_attempt 247 = .ok (.iaload, 1) := by decide +kernel
theorem dX11_attempt_248 : decode cX11_attempt 248 = .ok (.bipush 11, 2) := by decide +kernel
theorem dX11_attempt_250 : decode cX11_attempt 250 = .ok (.if_icmp .ne 7, 3) := by decide +kernel
theorem dX11_attempt_253 : decode cX11_attempt 253 = .ok (.iconst 1, 1) := by decide +kernel
theorem dX11_attempt_254 : decode cX11_attempt 254 = .ok (.goto 4, 3) := by decide +kernel
theorem dX11_attempt_257 : decode cX11_attempt 257 = .ok (.iconst 0, 1) := by decide +kernel
theorem dX11_attempt_258 : decode cX11_attempt 258 = .ok (.invokevirtual 394, 3) := by decide +kernel
theorem dX11_attempt_261 : decode cX11_attempt 261 = .ok (.goto 51, 3) := by decide +kernel
theorem dX11_attempt_264 : decode cX11_attempt 264 = .ok (.aload_n 0, 1) := by decide +kernel
theorem dX11_attempt_265 : decode cX11_attempt 265 = .ok (.iload_n 2, 1) := by decide +kernel
theorem dX11_attempt_266 : decode cX11_attempt 266 = .ok (.iload_n 3, 1) := by decide +kernel
theorem dX11_attempt_267 : decode cX11_attempt 267 = .ok (.invokevirtual 398, 3) := by decide +kernel
theorem dX11_attempt_270 : decode cX11_attempt 270 = .ok (.goto 42, 3) := by decide +kernel
theorem dX11_attempt_273 : decode cX11_attempt 273 = .ok (.aload_n 0, 1) := by decide +kernel
theorem dX11_attempt_274 : decode cX11_attempt 274 = .ok (.iload_n 2, 1) := by decide +kernel
theorem dX11_attempt_275 : decode cX11_attempt 275 = .ok (.invokevirtual 401, 3) := by decide +kernel
theorem dX11_attempt_278 : decode cX11_attempt 278 = .ok (.goto 34, 3) := by decide +kernel
theorem dX11_attempt_281 : decode cX11_attempt 281 = .ok (.aload_n 0, 1) := by decide +kernel
theorem dX11_attempt_282 : decode cX11_attempt 282 = .ok (.invokevirtual 404, 3) := by decide +kernel
theorem dX11_attempt_285 : decode cX11_attempt 285 = .ok (.goto 27, 3) := by decide +kernel
theorem dX11_attempt_288 : decode cX11_attempt 288 = .ok (.aload_n 0, 1) := by decide +kernel
theorem dX11_attempt_289 : decode cX11_attempt 289 = .ok (.iload_n 2, 1) := by decide +kernel
theorem dX11_attempt_290 : decode cX11_attempt 290 = .ok (.iload_n 3, 1) := by decide +kernel
theorem dX11_attempt_291 : decode cX11_attempt 291 = .ok (.invokevirtual 407, 3) := by decide +kernel
theorem dX11_attempt_294 : decode cX11_attempt 294 = .ok (.goto 18, 3) := by decide +kernel
theorem dX11_attempt_297 : decode cX11_attempt 297 = .ok (.aload_n 0, 1) := by decide +kernel
theorem dX11_attempt_298 : decode cX11_attempt 298 = .ok (.iload_n 2, 1) := by decide +kernel
theorem dX11_attempt_299 : decode cX11_attempt 299 = .ok (.iload_n 3, 1) := by decide +kernel
theorem dX11_attempt_300 : decode cX11_attempt 300 = .ok (.invokevirtual 410, 3) := by decide +kernel
theorem dX11_attempt_303 : decode cX11_attempt 303 = .ok (.goto 9, 3) := by decide +kernel
theorem dX11_attempt_306 : decode cX11_attempt 306 = .ok (.aload_n 0, 1) := by decide +kernel
theorem dX11_attempt_307 : decode cX11_attempt 307 = .ok (.iload_n 2, 1) := by decide +kernel
theorem dX11_attempt_308 : decode cX11_attempt 308 = .ok (.iload_n 3, 1) := by decide +kernel
theorem dX11_attempt_309 : decode cX11_attempt 309 = .ok (.invokevirtual 413, 3) := by decide +kernel
theorem dX11_attempt_312 : decode cX11_attempt 312 = .ok (.return_, 1) := by decide +kernel
theorem dX11_tryLook_0 : decode cX11_tryLook 0 = .ok (.aload_n 0, 1) := by decide +kernel
theorem dX11_tryLook_1 : decode cX11_tryLook 1 = .ok (.iload_n 1, 1) := by decide +kernel
theorem dX11_tryLook_2 : decode cX11_tryLook 2 = .ok (.iconst 1, 1) := by decide +kernel
theorem dX11_tryLook_3 : decode cX11_tryLook 3 = .ok (.iconst 2, 1) := by decide +kernel
theorem dX11_tryLook_4 : decode cX11_tryLook 4 = .ok (.bipush (-2), 2) := by decide +kernel
theorem dX11_tryLook_6 : decode cX11_tryLook 6 = .ok (.invokevirtual 390, 3) := by decide +kernel
theorem dX11_tryLook_9 : decode cX11_tryLook 9 = .ok (.ifCond .ne 4, 3) := by decide +kernel
theorem dX11_tryLook_12 : decode cX11_tryLook 12 = .ok (.return_, 1) := by decide +kernel
theorem dX11_tryLook_13 : decode cX11_tryLook 13 = .ok (.aload_n 0, 1) := by decide +kernel
theorem dX11_tryLook_14 : decode cX11_tryLook 14 = .ok (.iload_n 1, 1) := by decide +kernel
theorem dX11_tryLook_15 : decode cX11_tryLook 15 = .ok (.iload_n 2, 1) := by decide +kernel
theorem dX11_tryLook_16 : decode cX11_tryLook 16 = .ok (.invokevirtual 369, 3) := by decide +kernel
theorem dX11_tryLook_19 : decode cX11_tryLook 19 = .ok (.istore_n 3, 1) := by decide +kernel
theorem dX11_tryLook_20 : decode cX11_tryLook 20 = .ok (.iload_n 3, 1) := by decide +kernel
theorem dX11_tryLook_21 : decode cX11_tryLook 21 = .ok (.iconst (-1), 1) := by decide +kernel
theorem dX11_tryLook_22 : decode cX11_tryLook 22 = .ok (.if_icmp .ne 12, 3) := by decide +kernel
theorem dX11_tryLook_25 : decode cX11_tryLook 25 = .ok (.aload_n 0, 1) := by decide +kernel
theorem dX11_tryLook_26 : decode cX11_tryLook 26 = .ok (.bipush (-3), 2) := by decide +kernel
theorem dX11_tryLook_28 : decode cX11_tryLook 28 = .ok (.invokevirtual 348, 3) := by decide +kernel
theorem dX11_tryLook_31 : decode cX11_tryLook 31 = .ok (.goto 15, 3) := by decide +kernel
theorem dX11_tryLook_34 : decode cX11_tryLook 34 = .ok (.aload_n 0, 1) := by decide +kernel
theorem dX11_tryLook_35 : decode cX11_tryLook 35 = .ok (.aload_n 0, 1) := by decide +kernel
theorem dX11_tryLook_36 : decode cX11_tryLook 36 = .ok (.iload_n 1, 1) := by decide +kernel
theorem dX11_tryLook_37 : decode cX11_tryLook 37 = .ok (.iload_n 3, 1) := by decide +kernel
theorem dX11_tryLook_38 : decode cX11_tryLook 38 = .ok (.iconst 1, 1) := by decide +kernel
theorem dX11_tryLook_39 : decode cX11_tryLook 39 = .ok (.iadd, 1) := by decide +kernel
theorem dX11_tryLook_40 : decode cX11_tryLook 40 = .ok (.invokevirtual 363, 3) := by decide +kernel
theorem dX11_tryLook_43 : decode cX11_tryLook 43 = .ok (.putfield 316, 3) := by decide +kernel
theorem dX11_tryLook_46 : decode cX11_tryLook 46 = .ok (.return_, 1) := by decide +kernel
theorem dX11_takeInode_0 : decode cX11_takeInode 0 = .ok (.iconst 0, 1) := by decide +kernel
theorem dX11_takeInode_1 : decode cX11_takeInode 1 = .ok (.istore_n 2, 1) := by decide +kernel
theorem dX11_takeInode_2 : decode cX11_takeInode 2 = .ok (.iload_n 2, 1) := by decide +kernel
theorem dX11_takeInode_3 : decode cX11_takeInode 3 = .ok (.bipush 8, 2) := by decide +kernel
theorem dX11_takeInode_5 : decode cX11_takeInode 5 = .ok (.if_icmp .ge 95, 3) := by decide +kernel
theorem dX11_takeInode_8 : decode cX11_takeInode 8 = .ok (.iload_n 1, 1) := by decide +kernel
theorem dX11_takeInode_9 : decode cX11_takeInode 9 = .ok (.bipush 16, 2) := by decide +kernel
theorem dX11_takeInode_11 : decode cX11_takeInode 11 = .ok (.idiv, 1) := by decide +kernel
theorem dX11_takeInode_12 : decode cX11_takeInode 12 = .ok (.iload_n 2, 1) := by decide +kernel
theorem dX11_takeInode_13 : decode cX11_takeInode 13 = .ok (.iadd, 1) := by decide +kernel
theorem dX11_takeInode_14 : decode cX11_takeInode 14 = .ok (.bipush 8, 2) := by decide +kernel
theorem dX11_takeInode_16 : decode cX11_takeInode 16 = .ok (.irem, 1) := by decide +kernel
theorem dX11_takeInode_17 : decode cX11_takeInode 17 = .ok (.istore_n 3, 1) := by decide +kernel
theorem dX11_takeInode_18 : decode cX11_takeInode 18 = .ok (.aload_n 0, 1) := by decide +kernel
theorem dX11_takeInode_19 : decode cX11_takeInode 19 = .ok (.sipush 128, 3) := by decide +kernel
theorem dX11_takeInode_22 : decode cX11_takeInode 22 = .ok (.iload_n 3, 1) := by decide +kernel
theorem dX11_takeInode_23 : decode cX11_takeInode 23 = .ok (.iadd, 1) := by decide +kernel
theorem dX11_takeInode_24 : decode cX11_takeInode 24 = .ok (.iconst 2, 1) := by decide +kernel
theorem dX11_takeInode_25 : decode cX11_takeInode 25 = .ok (.invokevirtual 338, 3) := by decide +kernel
theorem dX11_takeInode_28 : decode cX11_takeInode 28 = .ok (.ifCond .ne 5, 3) := by decide +kernel
theorem dX11_takeInode_31 : decode cX11_takeInode 31 = .ok (.iconst 0, 1) := by decide +kernel
theorem dX11_takeInode_32 : decode cX11_takeInode 32 = .ok (.ireturn, 1) := by decide +kernel
theorem dX11_takeInode_33 : decode cX11_takeInode 33 = .ok (.aload_n 0, 1) := by decide +kernel
theorem dX11_takeInode_34 : decode cX11_takeInode 34 = .ok (.iload_n 3, 1) := by decide +kernel
theorem dX11_takeInode_35 : decode cX11_takeInode 35 = .ok (.invokestatic 181, 3) := by decide +kernel
theorem dX11_takeInode_38 : decode cX11_takeInode 38 = .ok (.iconst 0, 1) := by decide +kernel
theorem dX11_takeInode_39 : decode cX11_takeInode 39 = .ok (.invokevirtual 332, 3) := by decide +kernel
theorem dX11_takeInode_42 : decode cX11_takeInode 42 = .ok (.istore 4, 2) := by decide +kernel
theorem dX11_takeInode_44 : decode cX11_takeInode 44 = .ok (.iconst 0, 1) := by decide +kernel
theorem dX11_takeInode_45 : decode cX11_takeInode 45 = .ok (.istore 5, 2) := by decide +kernel
theorem dX11_takeInode_47 : decode cX11_takeInode 47 = .ok (.iload 5, 2) := by decide +kernel
theorem dX11_takeInode_49 : decode cX11_takeInode 49 = .ok (.bipush 16, 2) := by decide +kernel
theorem dX11_takeInode_51 : decode cX11_takeInode 51 = .ok (.if_icmp .ge 43, 3) := by decide +kernel
theorem dX11_takeInode_54 : decode cX11_takeInode 54 = .ok (.iload 4, 2) := by decide +kernel
theorem dX11_takeInode_56 : decode cX11_takeInode 56 = .ok (.iload 5, 2) := by decide +kernel
theorem dX11_takeInode_58 : decode cX11_takeInode 58 = .ok (.ishr, 1) := by decide +kernel
theorem dX11_takeInode_59 : decode cX11_takeInode 59 = .ok (.iconst 1, 1) := by decide +kernel
theorem dX11_takeInode_60 : decode cX11_takeInode 60 = .ok (.iand, 1) := by decide +kernel
theorem dX11_takeInode_61 : decode cX11_takeInode 61 = .ok (.ifCond .ne 27, 3) := by decide +kernel
theorem dX11_takeInode_64 : decode cX11_takeInode 64 = .ok (.aload_n 0, 1) := by decide +kernel
theorem dX11_takeInode_65 : decode cX11_takeInode 65 = .ok (.iload_n 3, 1) := by decide +kernel
theorem dX11_takeInode_66 : decode cX11_takeInode 66 = .ok (.invokestatic 181, 3) := by decide +kernel
theorem dX11_takeInode_69 : decode cX11_takeInode 69 = .ok (.iconst 0, 1) := by decide +kernel
theorem dX11_takeInode_70 : decode cX11_takeInode 70 = .ok (.iload 4, 2) := by decide +kernel
theorem dX11_takeInode_72 : decode cX11_takeInode 72 = .ok (.iconst 1, 1) := by decide +kernel
theorem dX11_takeInode_73 : decode cX11_takeInode 73 = .ok (.iload 5, 2) := by decide +kernel
theorem dX11_takeInode_75 : decode cX11_takeInode 75 = .ok (.ishl, 1) := by decide +kernel
theorem dX11_takeInode_76 : decode cX11_takeInode 76 = .ok (.ior, 1) := by decide +kernel
theorem dX11_takeInode_77 : decode cX11_takeInode 77 = .ok (.invokevirtual 335, 3) := by decide +kernel
theorem dX11_takeInode_80 : decode cX11_takeInode 80 = .ok (.bipush 16, 2) := by decide +kernel
theorem dX11_takeInode_82 : decode cX11_takeInode 82 = .ok (.iload_n 3, 1) := by decide +kernel
theorem dX11_takeInode_83 : decode cX11_takeInode 83 = .ok (.imul, 1) := by decide +kernel
theorem dX11_takeInode_84 : decode cX11_takeInode 84 = .ok (.iload 5, 2) := by decide +kernel
theorem dX11_takeInode_86 : decode cX11_takeInode 86 = .ok (.iadd, 1) := by decide +kernel
theorem dX11_takeInode_87 : decode cX11_takeInode 87 = .ok (.ireturn, 1) := by decide +kernel
theorem dX11_takeInode_88 : decode cX11_takeInode 88 = .ok (.iinc 5 1, 3) := by decide +kernel
theorem dX11_takeInode_91 : decode cX11_takeInode 91 = .ok (.goto (-44), 3) := by decide +kernel
theorem dX11_takeInode_94 : decode cX11_takeInode 94 = .ok (.iinc 2 1, 3) := by decide +kernel
theorem dX11_takeInode_97 : decode cX11_takeInode 97 = .ok (.goto (-95), 3) := by decide +kernel
theorem dX11_takeInode_100 : decode cX11_takeInode 100 = .ok (.aload_n 0, 1) := by decide +kernel
theorem dX11_takeInode_101 : decode cX11_takeInode 101 = .ok (.bipush (-7), 2) := by decide +kernel
theorem dX11_takeInode_103 : decode cX11_takeInode 103 = .ok (.invokevirtual 348, 3) := by decide +kernel
theorem dX11_takeInode_106 : decode cX11_takeInode 106 = .ok (.iconst 0, 1) := by decide +kernel
theorem dX11_takeInode_107 : decode cX11_takeInode 107 = .ok (.ireturn, 1) := by decide +kernel
theorem dX11_tryMake_0 : decode cX11_tryMake 0 = .ok (.aload_n 0, 1) := by decide +kernel
theorem dX11_tryMake_1 : decode cX11_tryMake 1 = .ok (.iload_n 1, 1) := by decide +kernel
theorem dX11_tryMake_2 : decode cX11_tryMake 2 = .ok (.iconst 2, 1) := by decide +kernel
theorem dX11_tryMake_3 : decode cX11_tryMake 3 = .ok (.iconst 2, 1) := by decide +kernel
theorem dX11_tryMake_4 : decode cX11_tryMake 4 = .ok (.bipush (-2), 2) := by decide +kernel
theorem dX11_tryMake_6 : decode cX11_tryMake 6 = .ok (.invokevirtual 390, 3) := by decide +kernel
theorem dX11_tryMake_9 : decode cX11_tryMake 9 = .ok (.ifCond .ne 4, 3) := by decide +kernel
theorem dX11_tryMake_12 : decode cX11_tryMake 12 = .ok (.return_, 1) := by decide +kernel
theorem dX11_tryMake_13 : decode cX11_tryMake 13 = .ok (.aload_n 0, 1) := by decide +kernel
theorem dX11_tryMake_14 : decode cX11_tryMake 14 = .ok (.iload_n 1, 1) := by decide +kernel
theorem dX11_tryMake_15 : decode cX11_tryMake 15 = .ok (.iload_n 2, 1) := by decide +kernel
theorem dX11_tryMake_16 : decode cX11_tryMake 16 = .ok (.invokevirtual 369, 3) := by decide +kernel
theorem dX11_tryMake_19 : decode cX11_tryMake 19 = .ok (.iconst (-1), 1) := by decide +kernel
theorem dX11_tryMake_20 : decode cX11_tryMake 20 = .ok (.if_icmp .eq 10, 3) := by decide +kernel
theorem dX11_tryMake_23 : decode cX11_tryMake 23 = .ok (.aload_n 0, 1) := by decide +kernel
theorem dX11_tryMake_24 : decode cX11_tryMake 24 = .ok (.bipush (-6), 2) := by decide +kernel
theorem dX11_tryMake_26 : decode cX11_tryMake 26 = .ok (.invokevirtual 348, 3) := by decide +kernel
theorem dX11_tryMake_29 : decode cX11_tryMake 29 = .ok (.return_, 1) := by decide +kernel
theorem dX11_tryMake_30 : decode cX11_tryMake 30 = .ok (.aload_n 0, 1) := by decide +kernel
theorem dX11_tryMake_31 : decode cX11_tryMake 31 = .ok (.iload_n 1, 1) := by decide +kernel
theorem dX11_tryMake_32 : decode cX11_tryMake 32 = .ok (.invokevirtual 416, 3) := by decide +kernel
theorem dX11_tryMake_35 : decode cX11_tryMake 35 = .ok (.istore 4, 2) := by decide +kernel
theorem dX11_tryMake_37 : decode cX11_tryMake 37 = .ok (.aload_n 0, 1) := by decide +kernel
theorem dX11_tryMake_38 : decode cX11_tryMake 38 = .ok (.invokevirtual 322, 3) := by decide +kernel
theorem dX11_tryMake_41 : decode cX11_tryMake 41 = .ok (.ifCond .ne 13, 3) := by decide +kernel
theorem dX11_tryMake_44 : decode cX11_tryMake 44 = .ok (.aload_n 0, 1) := by decide +kernel
theorem dX11_tryMake_45 : decode cX11_tryMake 45 = .ok (.iload 4, 2) := by decide +kernel
theorem dX11_tryMake_47 : decode cX11_tryMake 47 = .ok (.iconst 2, 1) := by decide +kernel
theorem dX11_tryMake_48 : decode cX11_tryMake 48 = .ok (.invokevirtual 338, 3) := by decide +kernel
theorem dX11_tryMake_51 : decode cX11_tryMake 51 = .ok (.ifCond .ne 4, 3) := by decide +kernel
theorem dX11_tryMake_54 : decode cX11_tryMake 54 = .ok (.return_, 1) := by decide +kernel
theorem dX11_tryMake_55 : decode cX11_tryMake 55 = .ok (.aload_n 0, 1) := by decide +kernel
theorem dX11_tryMake_56 : decode cX11_tryMake 56 = .ok (.iload 4, 2) := by decide +kernel
theorem dX11_tryMake_58 : decode cX11_tryMake 58 = .ok (.invokestatic 185, 3) := by decide +kernel
theorem dX11_tryMake_61 : decode cX11_tryMake 61 = .ok (.invokevirtual 345, 3) := by decide +kernel
theorem dX11_tryMake_64 : decode cX11_tryMake 64 = .ok (.aload_n 0, 1) := by decide +kernel
theorem dX11_tryMake_65 : decode cX11_tryMake 65 = .ok (.iload 4, 2) := by decide +kernel
theorem dX11_tryMake_67 : decode cX11_tryMake 67 = .ok (.iconst 0, 1) := by decide +kernel
theorem dX11_tryMake_68 : decode cX11_tryMake 68 = .ok (.iload_n 3, 1) := by decide +kernel
theorem dX11_tryMake_69 : decode cX11_tryMake 69 = .ok (.invokevirtual 360, 3) := by decide +kernel
theorem dX11_tryMake_72 : decode cX11_tryMake 72 = .ok (.aload_n 0, 1) := by decide +kernel
theorem dX11_tryMake_73 : decode cX11_tryMake 73 = .ok (.iload 4, 2) := by decide +kernel
theorem dX11_tryMake_75 : decode cX11_tryMake 75 = .ok (.iconst 1, 1) := by decide +kernel
theorem dX11_tryMake_76 : decode cX11_tryMake 76 = .ok (.iconst 1, 1) := by decide +kernel
theorem dX11_tryMake_77 : decode cX11_tryMake 77 = .ok (.invokevirtual 360, 3) := by decide +kernel
theorem dX11_tryMake_80 : decode cX11_tryMake 80 = .ok (.aload_n 0, 1) := by decide +kernel
theorem dX11_tryMake_81 : decode cX11_tryMake 81 = .ok (.iload_n 1, 1) := by decide +kernel
theorem dX11_tryMake_82 : decode cX11_tryMake 82 = .ok (.iload_n 2, 1) := by decide +kernel
theorem dX11_tryMake_83 : decode cX11_tryMake 83 = .ok (.iload 4, 2) := by decide +kernel
theorem dX11_tryMake_85 : decode cX11_tryMake 85 = .ok (.invokevirtual 419, 3) := by decide +kernel
theorem dX11_tryMake_88 : decode cX11_tryMake 88 = .ok (.aload_n 0, 1) := by decide +kernel
theorem dX11_tryMake_89 : decode cX11_tryMake 89 = .ok (.iload 4, 2) := by decide +kernel
theorem dX11_tryMake_91 : decode cX11_tryMake 91 = .ok (.putfield 316, 3) := by decide +kernel
theorem dX11_tryMake_94 : decode cX11_tryMake 94 = .ok (.return_, 1) := by decide +kernel
theorem dX11_tryRemove_0 : decode cX11_tryRemove 0 = .ok (.aload_n 0, 1) := by decide +kernel
theorem dX11_tryRemove_1 : decode cX11_tryRemove 1 = .ok (.iload_n 1, 1) := by decide +kernel
theorem dX11_tryRemove_2 : decode cX11_tryRemove 2 = .ok (.iconst 2, 1) := by decide +kernel
theorem dX11_tryRemove_3 : decode cX11_tryRemove 3 = .ok (.iconst 2, 1) := by decide +kernel
theorem dX11_tryRemove_4 : decode cX11_tryRemove 4 = .ok (.bipush (-2), 2) := by decide +kernel
theorem dX11_tryRemove_6 : decode cX11_tryRemove 6 = .ok (.invokevirtual 390, 3) := by decide +kernel
theorem dX11_tryRemove_9 : decode cX11_tryRemove 9 = .ok (.ifCond .ne 4, 3) := by decide +kernel
theorem dX11_tryRemove_12 : decode cX11_tryRemove 12 = .ok (.return_, 1) := by decide +kernel
theorem dX11_tryRemove_13 : decode cX11_tryRemove 13 = .ok (.aload_n 0, 1) := by decide +kernel
theorem dX11_tryRemove_14 : decode cX11_tryRemove 14 = .ok (.iload_n 1, 1) := by decide +kernel
theorem dX11_tryRemove_15 : decode cX11_tryRemove 15 = .ok (.iload_n 2, 1) := by decide +kernel
theorem dX11_tryRemove_16 : decode cX11_tryRemove 16 = .ok (.invokevirtual 369, 3) := by decide +kernel
theorem dX11_tryRemove_19 : decode cX11_tryRemove 19 = .ok (.istore_n 3, 1) := by decide +kernel
theorem dX11_tryRemove_20 : decode cX11_tryRemove 20 = .ok (.iload_n 3, 1) := by decide +kernel
theorem dX11_tryRemove_21 : decode cX11_tryRemove 21 = .ok (.iconst (-1), 1) := by decide +kernel
theorem dX11_tryRemove_22 : decode cX11_tryRemove 22 = .ok (.if_icmp .ne 10, 3) := by decide +kernel
theorem dX11_tryRemove_25 : decode cX11_tryRemove 25 = .ok (.aload_n 0, 1) := by decide +kernel
theorem dX11_tryRemove_26 : decode cX11_tryRemove 26 = .ok (.bipush (-3), 2) := by decide +kernel
theorem dX11_tryRemove_28 : decode cX11_tryRemove 28 = .ok (.invokevirtual 348, 3) := by decide +kernel
theorem dX11_tryRemove_31 : decode cX11_tryRemove 31 = .ok (.return_, 1) := by decide +kernel
theorem dX11_tryRemove_32 : decode cX11_tryRemove 32 = .ok (.aload_n 0, 1) := by decide +kernel
theorem dX11_tryRemove_33 : decode cX11_tryRemove 33 = .ok (.iload_n 1, 1) := by decide +kernel
theorem dX11_tryRemove_34 : decode cX11_tryRemove 34 = .ok (.iload_n 3, 1) := by decide +kernel
theorem dX11_tryRemove_35 : decode cX11_tryRemove 35 = .ok (.iconst 1, 1) := by decide +kernel
theorem dX11_tryRemove_36 : decode cX11_tryRemove 36 = .ok (.iadd, 1) := by decide +kernel
theorem dX11_tryRemove_37 : decode cX11_tryRemove 37 = .ok (.invokevirtual 363, 3) := by decide +kernel
theorem dX11_tryRemove_40 : decode cX11_tryRemove 40 = .ok (.istore 4, 2) := by decide +kernel
theorem dX11_tryRemove_42 : decode cX11_tryRemove 42 = .ok (.aload_n 0, 1) := by decide +kernel
theorem dX11_tryRemove_43 : decode cX11_tryRemove 43 = .ok (.iload 4, 2) := by decide +kernel
theorem dX11_tryRemove_45 : decode cX11_tryRemove 45 = .ok (.iconst 2, 1) := by decide +kernel
theorem dX11_tryRemove_46 : decode cX11_tryRemove 46 = .ok (.invokevirtual 338, 3) := by decide +kernel
theorem dX11_tryRemove_49 : decode cX11_tryRemove 49 = .ok (.ifCond .ne 4, 3) := by decide +kernel
theorem dX11_tryRemove_52 : decode cX11_tryRemove 52 = .ok (.return_, 1) := by decide +kernel
theorem dX11_tryRemove_53 : decode cX11_tryRemove 53 = .ok (.aload_n 0, 1) := by decide +kernel
theorem dX11_tryRemove_54 : decode cX11_tryRemove 54 = .ok (.iload 4, 2) := by decide +kernel
theorem dX11_tryRemove_56 : decode cX11_tryRemove 56 = .ok (.iconst 0, 1) := by decide +kernel
theorem dX11_tryRemove_57 : decode cX11_tryRemove 57 = .ok (.invokevirtual 351, 3) := by decide +kernel
theorem dX11_tryRemove_60 : decode cX11_tryRemove 60 = .ok (.iconst 2, 1) := by decide +kernel
theorem dX11_tryRemove_61 : decode cX11_tryRemove 61 = .ok (.if_icmp .ne 19, 3) := by decide +kernel
theorem dX11_tryRemove_64 : decode cX11_tryRemove 64 = .ok (.aload_n 0, 1) := by decide +kernel
theorem dX11_tryRemove_65 : decode cX11_tryRemove 65 = .ok (.iload 4, 2) := by decide +kernel
theorem dX11_tryRemove_67 : decode cX11_tryRemove 67 = .ok (.invokevirtual 422, 3) := by decide +kernel
theorem dX11_tryRemove_70 : decode cX11_tryRemove 70 = .ok (.ifCond .eq 10, 3) := by decide +kernel
theorem dX11_tryRemove_73 : decode cX11_tryRemove 73 = .ok (.aload_n 0, 1) := by decide +kernel
theorem dX11_tryRemove_74 : decode cX11_tryRemove 74 = .ok (.bipush (-8), 2) := by decide +kernel
theorem dX11_tryRemove_76 : decode cX11_tryRemove 76 = .ok (.invokevirtual 348, 3) := by decide +kernel
theorem dX11_tryRemove_79 : decode cX11_tryRemove 79 = .ok (.return_, 1) := by decide +kernel
theorem dX11_tryRemove_80 : decode cX11_tryRemove 80 = .ok (.aload_n 0, 1) := by decide +kernel
theorem dX11_tryRemove_81 : decode cX11_tryRemove 81 = .ok (.iload_n 1, 1) := by decide +kernel
theorem dX11_tryRemove_82 : decode cX11_tryRemove 82 = .ok (.iload_n 3, 1) := by decide +kernel
theorem dX11_tryRemove_83 : decode cX11_tryRemove 83 = .ok (.iconst 0, 1) := by decide +kernel
theorem dX11_tryRemove_84 : decode cX11_tryRemove 84 = .ok (.iconst 0, 1) := by decide +kernel
theorem dX11_tryRemove_85 : decode cX11_tryRemove 85 = .ok (.invokevirtual 372, 3) := by decide +kernel
theorem dX11_tryRemove_88 : decode cX11_tryRemove 88 = .ok (.aload_n 0, 1) := by decide +kernel
theorem dX11_tryRemove_89 : decode cX11_tryRemove 89 = .ok (.iload 4, 2) := by decide +kernel
theorem dX11_tryRemove_91 : decode cX11_tryRemove 91 = .ok (.iconst 1, 1) := by decide +kernel
theorem dX11_tryRemove_92 : decode cX11_tryRemove 92 = .ok (.aload_n 0, 1) := by decide +kernel
theorem dX11_tryRemove_93 : decode cX11_tryRemove 93 = .ok (.iload 4, 2) := by decide +kernel
theorem dX11_tryRemove_95 : decode cX11_tryRemove 95 = .ok (.iconst 1, 1) := by decide +kernel
theorem dX11_tryRemove_96 : decode cX11_tryRemove 96 = .ok (.invokevirtual 351, 3) := by decide +kernel
theorem dX11_tryRemove_99 : decode cX11_tryRemove 99 = .ok (.iconst 1, 1) := by decide +kernel
theorem dX11_tryRemove_100 : decode cX11_tryRemove 100 = .ok (.isub, 1) := by decide +kernel
theorem dX11_tryRemove_101 : decode cX11_tryRemove 101 = .ok (.invokevirtual 360, 3) := by decide +kernel
theorem dX11_tryRemove_104 : decode cX11_tryRemove 104 = .ok (.aload_n 0, 1) := by decide +kernel
theorem dX11_tryRemove_105 : decode cX11_tryRemove 105 = .ok (.iload 4, 2) := by decide +kernel
theorem dX11_tryRemove_107 : decode cX11_tryRemove 107 = .ok (.iconst 1, 1) := by decide +kernel
theorem dX11_tryRemove_108 : decode cX11_tryRemove 108 = .ok (.invokevirtual 351, 3) := by decide +kernel
theorem dX11_tryRemove_111 : decode cX11_tryRemove 111 = .ok (.ifCond .ne 9, 3) := by decide +kernel
theorem dX11_tryRemove_114 : decode cX11_tryRemove 114 = .ok (.aload_n 0, 1) := by decide +kernel
theorem dX11_tryRemove_115 : decode cX11_tryRemove 115 = .ok (.iload 4, 2) := by decide +kernel
theorem dX11_tryRemove_117 : decode cX11_tryRemove 117 = .ok (.invokevirtual 425, 3) := by decide +kernel
theorem dX11_tryRemove_120 : decode cX11_tryRemove 120 = .ok (.return_, 1) := by decide +kernel
theorem dX11_hasEntry_0 : decode cX11_hasEntry 0 = .ok (.aload_n 0, 1) := by decide +kernel
theorem dX11_hasEntry_1 : decode cX11_hasEntry 1 = .ok (.iload_n 1, 1) := by decide +kernel
theorem dX11_hasEntry_2 : decode cX11_hasEntry 2 = .ok (.iconst 2, 1) := by decide +kernel
theorem dX11_hasEntry_3 : decode cX11_hasEntry 3 = .ok (.invokevirtual 351, 3) := by decide +kernel
theorem dX11_hasEntry_6 : decode cX11_hasEntry 6 = .ok (.istore_n 2, 1) := by decide +kernel
theorem dX11_hasEntry_7 : decode cX11_hasEntry 7 = .ok (.iconst 0, 1) := by decide +kernel
theorem dX11_hasEntry_8 : decode cX11_hasEntry 8 = .ok (.istore_n 3, 1) := by decide +kernel
theorem dX11_hasEntry_9 : decode cX11_hasEntry 9 = .ok (.iload_n 3, 1) := by decide +kernel
theorem dX11_hasEntry_10 : decode cX11_hasEntry 10 = .ok (.iload_n 2, 1) := by decide +kernel
theorem dX11_hasEntry_11 : decode cX11_hasEntry 11 = .ok (.if_icmp .ge 20, 3) := by decide +kernel
theorem dX11_hasEntry_14 : decode cX11_hasEntry 14 = .ok (.aload_n 0, 1) := by decide +kernel
theorem dX11_hasEntry_15 : decode cX11_hasEntry 15 = .ok (.iload_n 1, 1) := by decide +kernel
theorem dX11_hasEntry_16 : decode cX11_hasEntry 16 = .ok (.iload_n 3, 1) := by decide +kernel
theorem dX11_hasEntry_17 : decode cX11_hasEntry 17 = .ok (.invokevirtual 363, 3) := by decide +kernel
theorem dX11_hasEntry_20 : decode cX11_hasEntry 20 = .ok (.ifCond .eq 5, 3) := by decide +kernel
theorem dX11_hasEntry_23 : decode cX11_hasEntry 23 = .ok (.iconst 1, 1) := by decide +kernel
theorem dX11_hasEntry_24 : decode cX11_hasEntry 24 = .ok (.ireturn, 1) := by decide +kernel
theorem dX11_hasEntry_25 : decode cX11_hasEntry 25 = .ok (.iinc 3 2, 3) := by decide +kernel
theorem dX11_hasEntry_28 : decode cX11_hasEntry 28 = .ok (.goto (-19), 3) := by decide +kernel
theorem dX11_hasEntry_31 : decode cX11_hasEntry 31 = .ok (.iconst 0, 1) := by decide +kernel
theorem dX11_hasEntry_32 : decode cX11_hasEntry 32 = .ok (.ireturn, 1) := by decide +kernel
theorem dX11_giveAll_0 : decode cX11_giveAll 0 = .ok (.iconst 3, 1) := by decide +kernel
theorem dX11_giveAll_1 : decode cX11_giveAll 1 = .ok (.istore_n 2, 1) := by decide +kernel
theorem dX11_giveAll_2 : decode cX11_giveAll 2 = .ok (.iload_n 2, 1) := by decide +kernel
theorem dX11_giveAll_3 : decode cX11_giveAll 3 = .ok (.bipush 11, 2) := by decide +kernel
theorem dX11_giveAll_5 : decode cX11_giveAll 5 = .ok (.if_icmp .ge 35, 3) := by decide +kernel
theorem dX11_giveAll_8 : decode cX11_giveAll 8 = .ok (.aload_n 0, 1) := by decide +kernel
theorem dX11_giveAll_9 : decode cX11_giveAll 9 = .ok (.invokevirtual 322, 3) := by decide +kernel
theorem dX11_giveAll_12 : decode cX11_giveAll 12 = .ok (.ifCond .ne 28, 3) := by decide +kernel
theorem dX11_giveAll_15 : decode cX11_giveAll 15 = .ok (.aload_n 0, 1) := by decide +kernel
theorem dX11_giveAll_16 : decode cX11_giveAll 16 = .ok (.iload_n 1, 1) := by decide +kernel
theorem dX11_giveAll_17 : decode cX11_giveAll 17 = .ok (.iload_n 2, 1) := by decide +kernel
theorem dX11_giveAll_18 : decode cX11_giveAll 18 = .ok (.invokevirtual 351, 3) := by decide +kernel
theorem dX11_giveAll_21 : decode cX11_giveAll 21 = .ok (.ifCond .eq 13, 3) := by decide +kernel
theorem dX11_giveAll_24 : decode cX11_giveAll 24 = .ok (.aload_n 0, 1) := by decide +kernel
theorem dX11_giveAll_25 : decode cX11_giveAll 25 = .ok (.aload_n 0, 1) := by decide +kernel
theorem dX11_giveAll_26 : decode cX11_giveAll 26 = .ok (.iload_n 1, 1) := by decide +kernel
theorem dX11_giveAll_27 : decode cX11_giveAll 27 = .ok (.iload_n 2, 1) := by decide +kernel
theorem dX11_giveAll_28 : decode cX11_giveAll 28 = .ok (.invokevirtual 351, 3) := by decide +kernel
theorem dX11_giveAll_31 : decode cX11_giveAll 31 = .ok (.invokevirtual 428, 3) := by decide +kernel
theorem dX11_giveAll_34 : decode cX11_giveAll 34 = .ok (.iinc 2 1, 3) := by decide +kernel
theorem dX11_giveAll_37 : decode cX11_giveAll 37 = .ok (.goto (-35), 3) := by decide +kernel
theorem dX11_giveAll_40 : decode cX11_giveAll 40 = .ok (.aload_n 0, 1) := by decide +kernel
theorem dX11_giveAll_41 : decode cX11_giveAll 41 = .ok (.iload_n 1, 1) := by decide +kernel
theorem dX11_giveAll_42 : decode cX11_giveAll 42 = .ok (.bipush 11, 2) := by decide +kernel
theorem dX11_giveAll_44 : decode cX11_giveAll 44 = .ok (.invokevirtual 351, 3) := by decide +kernel
theorem dX11_giveAll_47 : decode cX11_giveAll 47 = .ok (.istore_n 2, 1) := by decide +kernel
theorem dX11_giveAll_48 : decode cX11_giveAll 48 = .ok (.iconst 0, 1) := by decide +kernel
theorem dX11_giveAll_49 : decode cX11_giveAll 49 = .ok (.istore_n 3, 1) := by decide +kernel
theorem dX11_giveAll_50 : decode cX11_giveAll 50 = .ok (.iload_n 3, 1) := by decide +kernel
theorem dX11_giveAll_51 : decode cX11_giveAll 51 = .ok (.bipush 16, 2) := by decide +kernel
theorem dX11_giveAll_53 : decode cX11_giveAll 53 = .ok (.if_icmp .ge 39, 3) := by decide +kernel
theorem dX11_giveAll_56 : decode cX11_giveAll 56 = .ok (.iload_n 2, 1) := by decide +kernel
theorem dX11_giveAll_57 : decode cX11_giveAll 57 = .ok (.ifCond .eq 35, 3) := by decide +kernel
theorem dX11_giveAll_60 : decode cX11_giveAll 60 = .ok (.aload_n 0, 1) := by decide +kernel
theorem dX11_giveAll_61 : decode cX11_giveAll 61 = .ok (.invokevirtual 322, 3) := by decide +kernel
theorem dX11_giveAll_64 : decode cX11_giveAll 64 = .ok (.ifCond .ne 28, 3) := by decide +kernel
theorem dX11_giveAll_67 : decode cX11_giveAll 67 = .ok (.aload_n 0, 1) := by decide +kernel
theorem dX11_giveAll_68 : decode cX11_giveAll 68 = .ok (.iload_n 2, 1) := by decide +kernel
theorem dX11_giveAll_69 : decode cX11_giveAll 69 = .ok (.iload_n 3, 1) := by decide +kernel
theorem dX11_giveAll_70 : decode cX11_giveAll 70 = .ok (.invokevirtual 332, 3) := by decide +kernel
theorem dX11_giveAll_73 : decode cX11_giveAll 73 = .ok (.ifCond .eq 13, 3) := by decide +kernel
theorem dX11_giveAll_76 : decode cX11_giveAll 76 = .ok (.aload_n 0, 1) := by decide +kernel
theorem dX11_giveAll_77 : decode cX11_giveAll 77 = .ok (.aload_n 0, 1) := by decide +kernel
theorem dX11_giveAll_78 : decode cX11_giveAll 78 = .ok (.iload_n 2, 1) := by decide +kernel
theorem dX11_giveAll_79 : decode cX11_giveAll 79 = .ok (.iload_n 3, 1) := by decide +kernel
theorem dX11_giveAll_80 : decode cX11_giveAll 80 = .ok (.invokevirtual 332, 3) := by decide +kernel
theorem dX11_giveAll_83 : decode cX11_giveAll 83 = .ok (.invokevirtual 428, 3) := by decide +kernel
theorem dX11_giveAll_86 : decode cX11_giveAll 86 = .ok (.iinc 3 1, 3) := by decide +kernel
theorem dX11_giveAll_89 : decode cX11_giveAll 89 = .ok (.goto (-39), 3) := by decide +kernel
theorem dX11_giveAll_92 : decode cX11_giveAll 92 = .ok (.iload_n 2, 1) := by decide +kernel
theorem dX11_giveAll_93 : decode cX11_giveAll 93 = .ok (.ifCond .eq 15, 3) := by decide +kernel
theorem dX11_giveAll_96 : decode cX11_giveAll 96 = .ok (.aload_n 0, 1) := by decide +kernel
theorem dX11_giveAll_97 : decode cX11_giveAll 97 = .ok (.invokevirtual 322, 3) := by decide +kernel
theorem dX11_giveAll_100 : decode cX11_giveAll 100 = .ok (.ifCond .ne 8, 3) := by decide +kernel
theorem dX11_giveAll_103 : decode cX11_giveAll 103 = .ok (.aload_n 0, 1) := by decide +kernel
theorem dX11_giveAll_104 : decode cX11_giveAll 104 = .ok (.iload_n 2, 1) := by decide +kernel
theorem dX11_giveAll_105 : decode cX11_giveAll 105 = .ok (.invokevirtual 428, 3) := by decide +kernel
theorem dX11_giveAll_108 : decode cX11_giveAll 108 = .ok (.aload_n 0, 1) := by decide +kernel
theorem dX11_giveAll_109 : decode cX11_giveAll 109 = .ok (.sipush 128, 3) := by decide +kernel
theorem dX11_giveAll_112 : decode cX11_giveAll 112 = .ok (.iload_n 1, 1) := by decide +kernel
theorem dX11_giveAll_113 : decode cX11_giveAll 113 = .ok (.bipush 16, 2) := by decide +kernel
theorem dX11_giveAll_115 : decode cX11_giveAll 115 = .ok (.idiv, 1) := by decide +kernel
theorem dX11_giveAll_116 : decode cX11_giveAll 116 = .ok (.iadd, 1) := by decide +kernel
theorem dX11_giveAll_117 : decode cX11_giveAll 117 = .ok (.iconst 2, 1) := by decide +kernel
theorem dX11_giveAll_118 : decode cX11_giveAll 118 = .ok (.invokevirtual 338, 3) := by decide +kernel
theorem dX11_giveAll_121 : decode cX11_giveAll 121 = .ok (.ifCond .ne 4, 3) := by decide +kernel
theorem dX11_giveAll_124 : decode cX11_giveAll 124 = .ok (.return_, 1) := by decide +kernel
theorem dX11_giveAll_125 : decode cX11_giveAll 125 = .ok (.aload_n 0, 1) := by decide +kernel
theorem dX11_giveAll_126 : decode cX11_giveAll 126 = .ok (.iload_n 1, 1) := by decide +kernel
theorem dX11_giveAll_127 : decode cX11_giveAll 127 = .ok (.bipush 16, 2) := by decide +kernel
theorem dX11_giveAll_129 : decode cX11_giveAll 129 = .ok (.idiv, 1) := by decide +kernel
theorem dX11_giveAll_130 : decode cX11_giveAll 130 = .ok (.invokestatic 181, 3) := by decide +kernel
theorem dX11_giveAll_133 : decode cX11_giveAll 133 = .ok (.iconst 0, 1) := by decide +kernel
theorem dX11_giveAll_134 : decode cX11_giveAll 134 = .ok (.aload_n 0, 1) := by decide +kernel
theorem dX11_giveAll_135 : decode cX11_giveAll 135 = .ok (.iload_n 1, 1) := by decide +kernel
theorem dX11_giveAll_136 : decode cX11_giveAll 136 = .ok (.bipush 16, 2) := by decide +kernel
theorem dX11_giveAll_138 : decode cX11_giveAll 138 = .ok (.idiv, 1) := by decide +kernel
theorem dX11_giveAll_139 : decode cX11_giveAll 139 = .ok (.invokestatic 181, 3) := by decide +kernel
theorem dX11_giveAll_142 : decode cX11_giveAll 142 = .ok (.iconst 0, 1) := by decide +kernel
theorem dX11_giveAll_143 : decode cX11_giveAll 143 = .ok (.invokevirtual 332, 3) := by decide +kernel
theorem dX11_giveAll_146 : decode cX11_giveAll 146 = .ok (.iconst 1, 1) := by decide +kernel
theorem dX11_giveAll_147 : decode cX11_giveAll 147 = .ok (.iload_n 1, 1) := by decide +kernel
theorem dX11_giveAll_148 : decode cX11_giveAll 148 = .ok (.bipush 16, 2) := by decide +kernel
theorem dX11_giveAll_150 : decode cX11_giveAll 150 = .ok (.irem, 1) := by decide +kernel
theorem dX11_giveAll_151 : decode cX11_giveAll 151 = .ok (.ishl, 1) := by decide +kernel
theorem dX11_giveAll_152 : decode cX11_giveAll 152 = .ok (.iconst (-1), 1) := by decide +kernel
theorem dX11_giveAll_153 : decode cX11_giveAll 153 = .ok (.ixor, 1) := by decide +kernel
theorem dX11_giveAll_154 : decode cX11_giveAll 154 = .ok (.iand, 1) := by decide +kernel
theorem dX11_giveAll_155 : decode cX11_giveAll 155 = .ok (.invokevirtual 335, 3) := by decide +kernel
theorem dX11_giveAll_158 : decode cX11_giveAll 158 = .ok (.iconst 0, 1) := by decide +kernel
theorem dX11_giveAll_159 : decode cX11_giveAll 159 = .ok (.istore_n 3, 1) := by decide +kernel
theorem dX11_giveAll_160 : decode cX11_giveAll 160 = .ok (.iload_n 3, 1) := by decide +kernel
theorem dX11_giveAll_161 : decode cX11_giveAll 161 = .ok (.bipush 16, 2) := by decide +kernel
theorem dX11_giveAll_163 : decode cX11_giveAll 163 = .ok (.if_icmp .ge 16, 3) := by decide +kernel
theorem dX11_giveAll_166 : decode cX11_giveAll 166 = .ok (.aload_n 0, 1) := by decide +kernel
theorem dX11_giveAll_167 : decode cX11_giveAll 167 = .ok (.iload_n 1, 1) := by decide +kernel
theorem dX11_giveAll_168 : decode cX11_giveAll 168 = .ok (.iload_n 3, 1) := by decide +kernel
theorem dX11_giveAll_169 : decode cX11_giveAll 169 = .ok (.iconst 0, 1) := by decide +kernel
theorem dX11_giveAll_170 : decode cX11_giveAll 170 = .ok (.invokevirtual 360, 3) := by decide +kernel
theorem dX11_giveAll_173 : decode cX11_giveAll 173 = .ok (.iinc 3 1, 3) := by decide +kernel
theorem dX11_giveAll_176 : decode cX11_giveAll 176 = .ok (.goto (-16), 3) := by decide +kernel
theorem dX11_giveAll_179 : decode cX11_giveAll 179 = .ok (.return_, 1) := by decide +kernel
theorem dX11_tryLink_0 : decode cX11_tryLink 0 = .ok (.aload_n 0, 1) := by decide +kernel
theorem dX11_tryLink_1 : decode cX11_tryLink 1 = .ok (.iload_n 1, 1) := by decide +kernel
theorem dX11_tryLink_2 : decode cX11_tryLink 2 = .ok (.iconst 2, 1) := by decide +kernel
theorem dX11_tryLink_3 : decode cX11_tryLink 3 = .ok (.iconst 2, 1) := by decide +kernel
theorem dX11_tryLink_4 : decode cX11_tryLink 4 = .ok (.bipush (-2), 2) := by decide +kernel
theorem dX11_tryLink_6 : decode cX11_tryLink 6 = .ok (.invokevirtual 390, 3) := by decide +kernel
theorem dX11_tryLink_9 : decode cX11_tryLink 9 = .ok (.ifCond .ne 4, 3) := by decide +kernel
theorem dX11_tryLink_12 : decode cX11_tryLink 12 = .ok (.return_, 1) := by decide +kernel
theorem dX11_tryLink_13 : decode cX11_tryLink 13 = .ok (.aload_n 0, 1) := by decide +kernel
theorem dX11_tryLink_14 : decode cX11_tryLink 14 = .ok (.iload_n 1, 1) := by decide +kernel
theorem dX11_tryLink_15 : decode cX11_tryLink 15 = .ok (.iload_n 2, 1) := by decide +kernel
theorem dX11_tryLink_16 : decode cX11_tryLink 16 = .ok (.invokevirtual 369, 3) := by decide +kernel
theorem dX11_tryLink_19 : decode cX11_tryLink 19 = .ok (.iconst (-1), 1) := by decide +kernel
theorem dX11_tryLink_20 : decode cX11_tryLink 20 = .ok (.if_icmp .eq 10, 3) := by decide +kernel
theorem dX11_tryLink_23 : decode cX11_tryLink 23 = .ok (.aload_n 0, 1) := by decide +kernel
theorem dX11_tryLink_24 : decode cX11_tryLink 24 = .ok (.bipush (-6), 2) := by decide +kernel
theorem dX11_tryLink_26 : decode cX11_tryLink 26 = .ok (.invokevirtual 348, 3) := by decide +kernel
theorem dX11_tryLink_29 : decode cX11_tryLink 29 = .ok (.return_, 1) := by decide +kernel
theorem dX11_tryLink_30 : decode cX11_tryLink 30 = .ok (.aload_n 0, 1) := by decide +kernel
theorem dX11_tryLink_31 : decode cX11_tryLink 31 = .ok (.iload_n 3, 1) := by decide +kernel
theorem dX11_tryLink_32 : decode cX11_tryLink 32 = .ok (.iconst 2, 1) := by decide +kernel
theorem dX11_tryLink_33 : decode cX11_tryLink 33 = .ok (.iconst 1, 1) := by decide +kernel
theorem dX11_tryLink_34 : decode cX11_tryLink 34 = .ok (.bipush (-4), 2) := by decide +kernel
theorem dX11_tryLink_36 : decode cX11_tryLink 36 = .ok (.invokevirtual 390, 3) := by decide +kernel
theorem dX11_tryLink_39 : decode cX11_tryLink 39 = .ok (.ifCond .ne 4, 3) := by decide +kernel
theorem dX11_tryLink_42 : decode cX11_tryLink 42 = .ok (.return_, 1) := by decide +kernel
theorem dX11_tryLink_43 : decode cX11_tryLink 43 = .ok (.aload_n 0, 1) := by decide +kernel
theorem dX11_tryLink_44 : decode cX11_tryLink 44 = .ok (.iload_n 3, 1) := by decide +kernel
theorem dX11_tryLink_45 : decode cX11_tryLink 45 = .ok (.iconst 1, 1) := by decide +kernel
theorem dX11_tryLink_46 : decode cX11_tryLink 46 = .ok (.aload_n 0, 1) := by decide +kernel
theorem dX11_tryLink_47 : decode cX11_tryLink 47 = .ok (.iload_n 3, 1) := by decide +kernel
theorem dX11_tryLink_48 : decode cX11_tryLink 48 = .ok (.iconst 1, 1) := by decide +kernel
theorem dX11_tryLink_49 : decode cX11_tryLink 49 = .ok (.invokevirtual 351, 3) := by decide +kernel
theorem dX11_tryLink_52 : decode cX11_tryLink 52 = .ok (.iconst 1, 1) := by decide +kernel
theorem dX11_tryLink_53 : decode cX11_tryLink 53 = .ok (.iadd, 1) := by decide +kernel
theorem dX11_tryLink_54 : decode cX11_tryLink 54 = .ok (.invokevirtual 360, 3) := by decide +kernel
theorem dX11_tryLink_57 : decode cX11_tryLink 57 = .ok (.aload_n 0, 1) := by decide +kernel
theorem dX11_tryLink_58 : decode cX11_tryLink 58 = .ok (.iload_n 1, 1) := by decide +kernel
theorem dX11_tryLink_59 : decode cX11_tryLink 59 = .ok (.iload_n 2, 1) := by decide +kernel
theorem dX11_tryLink_60 : decode cX11_tryLink 60 = .ok (.iload_n 3, 1) := by decide +kernel
theorem dX11_tryLink_61 : decode cX11_tryLink 61 = .ok (.invokevirtual 419, 3) := by decide +kernel
theorem dX11_tryLink_64 : decode cX11_tryLink 64 = .ok (.aload_n 0, 1) := by decide +kernel
theorem dX11_tryLink_65 : decode cX11_tryLink 65 = .ok (.aload_n 0, 1) := by decide +kernel
theorem dX11_tryLink_66 : decode cX11_tryLink 66 = .ok (.iload_n 3, 1) := by decide +kernel
theorem dX11_tryLink_67 : decode cX11_tryLink 67 = .ok (.iconst 1, 1) := by decide +kernel
theorem dX11_tryLink_68 : decode cX11_tryLink 68 = .ok (.invokevirtual 351, 3) := by decide +kernel
theorem dX11_tryLink_71 : decode cX11_tryLink 71 = .ok (.putfield 316, 3) := by decide +kernel
theorem dX11_tryLink_74 : decode cX11_tryLink 74 = .ok (.return_, 1) := by decide +kernel
theorem dX11_tryRename_0 : decode cX11_tryRename 0 = .ok (.aload_n 0, 1) := by decide +kernel
theorem dX11_tryRename_1 : decode cX11_tryRename 1 = .ok (.iload_n 1, 1) := by decide +kernel
theorem dX11_tryRename_2 : decode cX11_tryRename 2 = .ok (.iconst 2, 1) := by decide +kernel
theorem dX11_tryRename_3 : decode cX11_tryRename 3 = .ok (.iconst 2, 1) := by decide +kernel
theorem dX11_tryRename_4 : decode cX11_tryRename 4 = .ok (.bipush (-2), 2) := by decide +kernel
theorem dX11_tryRename_6 : decode cX11_tryRename 6 = .ok (.invokevirtual 390, 3) := by decide +kernel
theorem dX11_tryRename_9 : decode cX11_tryRename 9 = .ok (.ifCond .eq 15, 3) := by decide +kernel
theorem dX11_tryRename_12 : decode cX11_tryRename 12 = .ok (.aload_n 0, 1) := by decide +kernel
theorem dX11_tryRename_13 : decode cX11_tryRename 13 = .ok (.iload_n 3, 1) := by decide +kernel
theorem dX11_tryRename_14 : decode cX11_tryRename 14 = .ok (.iconst 2, 1) := by decide +kernel
theorem dX11_tryRename_15 : decode cX11_tryRename 15 = .ok (.iconst 2, 1) := by decide +kernel
theorem dX11_tryRename_16 : decode cX11_tryRename 16 = .ok (.bipush (-2), 2) := by decide +kernel
theorem dX11_tryRename_18 : decode cX11_tryRename 18 = .ok (.invokevirtual 390, 3) := by decide +kernel
theorem dX11_tryRename_21 : decode cX11_tryRename 21 = .ok (.ifCond .ne 4, 3) := by decide +kernel
theorem dX11_tryRename_24 : decode cX11_tryRename 24 = .ok (.return_, 1) := by decide +kernel
theorem dX11_tryRename_25 : decode cX11_tryRename 25 = .ok (.aload_n 0, 1) := by decide +kernel
theorem dX11_tryRename_26 : decode cX11_tryRename 26 = .ok (.iload_n 1, 1) := by decide +kernel
theorem dX11_tryRename_27 : decode cX11_tryRename 27 = .ok (.iload_n 2, 1) := by decide +kernel
theorem dX11_tryRename_28 : decode cX11_tryRename 28 = .ok (.invokevirtual 369, 3) := by decide +kernel
theorem dX11_tryRename_31 : decode cX11_tryRename 31 = .ok (.istore 5, 2) := by decide +kernel
theorem dX11_tryRename_33 : decode cX11_tryRename 33 = .ok (.iload 5, 2) := by decide +kernel
theorem dX11_tryRename_35 : decode cX11_tryRename 35 = .ok (.iconst (-1), 1) := by decide +kernel
theorem dX11_tryRename_36 : decode cX11_tryRename 36 = .ok (.if_icmp .ne 10, 3) := by decide +kernel
theorem dX11_tryRename_39 : decode cX11_tryRename 39 = .ok (.aload_n 0, 1) := by decide +kernel
theorem dX11_tryRename_40 : decode cX11_tryRename 40 = .ok (.bipush (-3), 2) := by decide +kernel
theorem dX11_tryRename_42 : decode cX11_tryRename 42 = .ok (.invokevirtual 348, 3) := by decide +kernel
theorem dX11_tryRename_45 : decode cX11_tryRename 45 = .ok (.return_, 1) := by decide +kernel
theorem dX11_tryRename_46 : decode cX11_tryRename 46 = .ok (.aload_n 0, 1) := by decide +kernel
theorem dX11_tryRename_47 : decode cX11_tryRename 47 = .ok (.iload_n 1, 1) := by decide +kernel
theorem dX11_tryRename_48 : decode cX11_tryRename 48 = .ok (.iload 5, 2) := by decide +kernel
theorem dX11_tryRename_50 : decode cX11_tryRename 50 = .ok (.iconst 1, 1) := by decide +kernel
theorem dX11_tryRename_51 : decode cX11_tryRename 51 = .ok (.iadd, 1) := by decide +kernel
theorem dX11_tryRename_52 : decode cX11_tryRename 52 = .ok (.invokevirtual 363, 3) := by decide +kernel
theorem dX11_tryRename_55 : decode cX11_tryRename 55 = .ok (.istore 6, 2) := by decide +kernel
theorem dX11_tryRename_57 : decode cX11_tryRename 57 = .ok (.iload_n 1, 1) := by decide +kernel
theorem dX11_tryRename_58 : decode cX11_tryRename 58 = .ok (.iload_n 3, 1) := by decide +kernel
theorem dX11_tryRename_59 : decode cX11_tryRename 59 = .ok (.if_icmp .eq 32, 3) := by decide +kernel
theorem dX11_tryRename_62 : decode cX11_tryRename 62 = .ok (.aload_n 0, 1) := by decide +kernel
theorem dX11_tryRename_63 : decode cX11_tryRename 63 = .ok (.iload 6, 2) := by decide +kernel
theorem dX11_tryRename_65 : decode cX11_tryRename 65 = .ok (.iconst 1, 1) := by decide +kernel
theorem dX11_tryRename_66 : decode cX11_tryRename 66 = .ok (.invokevirtual 338, 3) := by decide +kernel
theorem dX11_tryRename_69 : decode cX11_tryRename 69 = .ok (.ifCond .ne 4, 3) := by decide +kernel
theorem dX11_tryRename_72 : decode cX11_tryRename 72 = .ok (.return_, 1) := by decide +kernel
theorem dX11_tryRename_73 : decode cX11_tryRename 73 = .ok (.aload_n 0, 1) := by decide +kernel
theorem dX11_tryRename_74 : decode cX11_tryRename 74 = .ok (.iload 6, 2) := by decide +kernel
theorem dX11_tryRename_76 : decode cX11_tryRename 76 = .ok (.iconst 0, 1) := by decide +kernel
theorem dX11_tryRename_77 : decode cX11_tryRename 77 = .ok (.invokevirtual 351, 3) := by decide +kernel
theorem dX11_tryRename_80 : decode cX11_tryRename 80 = .ok (.iconst 2, 1) := by decide +kernel
theorem dX11_tryRename_81 : decode cX11_tryRename 81 = .ok (.if_icmp .ne 17, 3) := by decide +kernel
theorem dX11_tryRename_84 : decode cX11_tryRename 84 = .ok (.aload_n 0, 1) := by decide +kernel
theorem dX11_tryRename_85 : decode cX11_tryRename 85 = .ok (.bipush (-9), 2) := by decide +kernel
theorem dX11_tryRename_87 : decode cX11_tryRename 87 = .ok (.invokevirtual 348, 3) := by decide +kernel
theorem dX11_tryRename_90 : decode cX11_tryRename 90 = .ok (.return_, 1) := by decide +kernel
theorem dX11_tryRename_91 : decode cX11_tryRename 91 = .ok (.iload_n 2, 1) := by decide +kernel
theorem dX11_tryRename_92 : decode cX11_tryRename 92 = .ok (.iload 4, 2) := by decide +kernel
theorem dX11_tryRename_94 : decode cX11_tryRename 94 = .ok (.if_icmp .ne 4, 3) := by decide +kernel
theorem dX11_tryRename_97 : decode cX11_tryRename 97 = .ok (.return_, 1) := by decide +kernel
theorem dX11_tryRename_98 : decode cX11_tryRename 98 = .ok (.aload_n 0, 1) := by decide +kernel
theorem dX11_tryRename_99 : decode cX11_tryRename 99 = .ok (.iload_n 3, 1) := by decide +kernel
theorem dX11_tryRename_100 : decode cX11_tryRename 100 = .ok (.iload 4, 2) := by decide +kernel
theorem dX11_tryRename_102 : decode cX11_tryRename 102 = .ok (.invokevirtual 369, 3) := by decide +kernel
theorem dX11_tryRename_105 : decode cX11_tryRename 105 = .ok (.iconst (-1), 1) := by decide +kernel
theorem dX11_tryRename_106 : decode cX11_tryRename 106 = .ok (.if_icmp .eq 10, 3) := by decide +kernel
theorem dX11_tryRename_109 : decode cX11_tryRename 109 = .ok (.aload_n 0, 1) := by decide +kernel
theorem dX11_tryRename_110 : decode cX11_tryRename 110 = .ok (.bipush (-6), 2) := by decide +kernel
theorem dX11_tryRename_112 : decode cX11_tryRename 112 = .ok (.invokevirtual 348, 3) := by decide +kernel
theorem dX11_tryRename_115 : decode cX11_tryRename 115 = .ok (.return_, 1) := by decide +kernel
theorem dX11_tryRename_116 : decode cX11_tryRename 116 = .ok (.aload_n 0, 1) := by decide +kernel
theorem dX11_tryRename_117 : decode cX11_tryRename 117 = .ok (.iload_n 1, 1) := by decide +kernel
theorem dX11_tryRename_118 : decode cX11_tryRename 118 = .ok (.iload 5, 2) := by decide +kernel
theorem dX11_tryRename_120 : decode cX11_tryRename 120 = .ok (.iconst 0, 1) := by decide +kernel
theorem dX11_tryRename_121 : decode cX11_tryRename 121 = .ok (.iconst 0, 1) := by decide +kernel
theorem dX11_tryRename_122 : decode cX11_tryRename 122 = .ok (.invokevirtual 372, 3) := by decide +kernel
theorem dX11_tryRename_125 : decode cX11_tryRename 125 = .ok (.aload_n 0, 1) := by decide +kernel
theorem dX11_tryRename_126 : decode cX11_tryRename 126 = .ok (.iload_n 3, 1) := by decide +kernel
theorem dX11_tryRename_127 : decode cX11_tryRename 127 = .ok (.iload 4, 2) := by decide +kernel
theorem dX11_tryRename_129 : decode cX11_tryRename 129 = .ok (.iload 6, 2) := by decide +kernel
theorem dX11_tryRename_131 : decode cX11_tryRename 131 = .ok (.invokevirtual 419, 3) := by decide +kernel
theorem dX11_tryRename_134 : decode cX11_tryRename 134 = .ok (.return_, 1) := by decide +kernel
theorem dX11_tryWrite_0 : decode cX11_tryWrite 0 = .ok (.aload_n 0, 1) := by decide +kernel
theorem dX11_tryWrite_1 : decode cX11_tryWrite 1 = .ok (.iload_n 1, 1) := by decide +kernel
theorem dX11_tryWrite_2 : decode cX11_tryWrite 2 = .ok (.iconst 2, 1) := by decide +kernel
theorem dX11_tryWrite_3 : decode cX11_tryWrite 3 = .ok (.iconst 1, 1) := by decide +kernel
theorem dX11_tryWrite_4 : decode cX11_tryWrite 4 = .ok (.bipush (-4), 2) := by decide +kernel
theorem dX11_tryWrite_6 : decode cX11_tryWrite 6 = .ok (.invokevirtual 390, 3) := by decide +kernel
theorem dX11_tryWrite_9 : decode cX11_tryWrite 9 = .ok (.ifCond .ne 4, 3) := by decide +kernel
theorem dX11_tryWrite_12 : decode cX11_tryWrite 12 = .ok (.return_, 1) := by decide +kernel
theorem dX11_tryWrite_13 : decode cX11_tryWrite 13 = .ok (.aload_n 0, 1) := by decide +kernel
theorem dX11_tryWrite_14 : decode cX11_tryWrite 14 = .ok (.iload_n 1, 1) := by decide +kernel
theorem dX11_tryWrite_15 : decode cX11_tryWrite 15 = .ok (.iload_n 2, 1) := by decide +kernel
theorem dX11_tryWrite_16 : decode cX11_tryWrite 16 = .ok (.invokevirtual 366, 3) := by decide +kernel
theorem dX11_tryWrite_19 : decode cX11_tryWrite 19 = .ok (.istore 5, 2) := by decide +kernel
theorem dX11_tryWrite_21 : decode cX11_tryWrite 21 = .ok (.aload_n 0, 1) := by decide +kernel
theorem dX11_tryWrite_22 : decode cX11_tryWrite 22 = .ok (.invokevirtual 322, 3) := by decide +kernel
theorem dX11_tryWrite_25 : decode cX11_tryWrite 25 = .ok (.ifCond .eq 4, 3) := by decide +kernel
theorem dX11_tryWrite_28 : decode cX11_tryWrite 28 = .ok (.return_, 1) := by decide +kernel
theorem dX11_tryWrite_29 : decode cX11_tryWrite 29 = .ok (.iload 4, 2) := by decide +kernel
theorem dX11_tryWrite_31 : decode cX11_tryWrite 31 = .ok (.ifCond .eq 18, 3) := by decide +kernel
theorem dX11_tryWrite_34 : decode cX11_tryWrite 34 = .ok (.aload_n 0, 1) := by decide +kernel
theorem dX11_tryWrite_35 : decode cX11_tryWrite 35 = .ok (.iload 5, 2) := by decide +kernel
theorem dX11_tryWrite_37 : decode cX11_tryWrite 37 = .ok (.iload_n 2, 1) := by decide +kernel
theorem dX11_tryWrite_38 : decode cX11_tryWrite 38 = .ok (.bipush 16, 2) := by decide +kernel
theorem dX11_tryWrite_40 : decode cX11_tryWrite 40 = .ok (.irem, 1) := by decide +kernel
theorem dX11_tryWrite_41 : decode cX11_tryWrite 41 = .ok (.invokevirtual 332, 3) := by decide +kernel
theorem dX11_tryWrite_44 : decode cX11_tryWrite 44 = .ok (.iload_n 3, 1) := by decide +kernel
theorem dX11_tryWrite_45 : decode cX11_tryWrite 45 = .ok (.iadd, 1) := by decide +kernel
theorem dX11_tryWrite_46 : decode cX11_tryWrite 46 = .ok (.goto 4, 3) := by decide +kernel
theorem dX11_tryWrite_49 : decode cX11_tryWrite 49 = .ok (.iload_n 3, 1) := by decide +kernel
theorem dX11_tryWrite_50 : decode cX11_tryWrite 50 = .ok (.istore 6, 2) := by decide +kernel
theorem dX11_tryWrite_52 : decode cX11_tryWrite 52 = .ok (.aload_n 0, 1) := by decide +kernel
theorem dX11_tryWrite_53 : decode cX11_tryWrite 53 = .ok (.iload 5, 2) := by decide +kernel
theorem dX11_tryWrite_55 : decode cX11_tryWrite 55 = .ok (.iload_n 2, 1) := by decide +kernel
theorem dX11_tryWrite_56 : decode cX11_tryWrite 56 = .ok (.bipush 16, 2) := by decide +kernel
theorem dX11_tryWrite_58 : decode cX11_tryWrite 58 = .ok (.irem, 1) := by decide +kernel
theorem dX11_tryWrite_59 : decode cX11_tryWrite 59 = .ok (.iload 6, 2) := by decide +kernel
theorem dX11_tryWrite_61 : decode cX11_tryWrite 61 = .ok (.invokevirtual 335, 3) := by decide +kernel
theorem dX11_tryWrite_64 : decode cX11_tryWrite 64 = .ok (.aload_n 0, 1) := by decide +kernel
theorem dX11_tryWrite_65 : decode cX11_tryWrite 65 = .ok (.iload_n 1, 1) := by decide +kernel
theorem dX11_tryWrite_66 : decode cX11_tryWrite 66 = .ok (.iconst 2, 1) := by decide +kernel
theorem dX11_tryWrite_67 : decode cX11_tryWrite 67 = .ok (.invokevirtual 351, 3) := by decide +kernel
theorem dX11_tryWrite_70 : decode cX11_tryWrite 70 = .ok (.iload_n 2, 1) := by decide +kernel
theorem dX11_tryWrite_71 : decode cX11_tryWrite 71 = .ok (.if_icmp .gt 12, 3) := by decide +kernel
theorem dX11_tryWrite_74 : decode cX11_tryWrite 74 = .ok (.aload_n 0, 1) := by decide +kernel
theorem dX11_tryWrite_75 : decode cX11_tryWrite 75 = .ok (.iload_n 1, 1) := by decide +kernel
theorem dX11_tryWrite_76 : decode cX11_tryWrite 76 = .ok (.iconst 2, 1) := by decide +kernel
theorem dX11_tryWrite_77 : decode cX11_tryWrite 77 = .ok (.iload_n 2, 1) := by decide +kernel
theorem dX11_tryWrite_78 : decode cX11_tryWrite 78 = .ok (.iconst 1, 1) := by decide +kernel
theorem dX11_tryWrite_79 : decode cX11_tryWrite 79 = .ok (.iadd, 1) := by decide +kernel
theorem dX11_tryWrite_80 : decode cX11_tryWrite 80 = .ok (.invokevirtual 360, 3) := by decide +kernel
theorem dX11_tryWrite_83 : decode cX11_tryWrite 83 = .ok (.aload_n 0, 1) := by decide +kernel
theorem dX11_tryWrite_84 : decode cX11_tryWrite 84 = .ok (.iload 6, 2) := by decide +kernel
theorem dX11_tryWrite_86 : decode cX11_tryWrite 86 = .ok (.putfield 316, 3) := by decide +kernel
theorem dX11_tryWrite_89 : decode cX11_tryWrite 89 = .ok (.return_, 1) := by decide +kernel
theorem dX11_tryAppend_0 : decode cX11_tryAppend 0 = .ok (.aload_n 0, 1) := by decide +kernel
theorem dX11_tryAppend_1 : decode cX11_tryAppend 1 = .ok (.iload_n 1, 1) := by decide +kernel
theorem dX11_tryAppend_2 : decode cX11_tryAppend 2 = .ok (.iconst 2, 1) := by decide +kernel
theorem dX11_tryAppend_3 : decode cX11_tryAppend 3 = .ok (.iconst 1, 1) := by decide +kernel
theorem dX11_tryAppend_4 : decode cX11_tryAppend 4 = .ok (.bipush (-4), 2) := by decide +kernel
theorem dX11_tryAppend_6 : decode cX11_tryAppend 6 = .ok (.invokevirtual 390, 3) := by decide +kernel
theorem dX11_tryAppend_9 : decode cX11_tryAppend 9 = .ok (.ifCond .ne 4, 3) := by decide +kernel
theorem dX11_tryAppend_12 : decode cX11_tryAppend 12 = .ok (.return_, 1) := by decide +kernel
theorem dX11_tryAppend_13 : decode cX11_tryAppend 13 = .ok (.aload_n 0, 1) := by decide +kernel
theorem dX11_tryAppend_14 : decode cX11_tryAppend 14 = .ok (.iload_n 1, 1) := by decide +kernel
theorem dX11_tryAppend_15 : decode cX11_tryAppend 15 = .ok (.iconst 2, 1) := by decide +kernel
theorem dX11_tryAppend_16 : decode cX11_tryAppend 16 = .ok (.invokevirtual 351, 3) := by decide +kernel
theorem dX11_tryAppend_19 : decode cX11_tryAppend 19 = .ok (.istore_n 3, 1) := by decide +kernel
theorem dX11_tryAppend_20 : decode cX11_tryAppend 20 = .ok (.iload_n 3, 1) := by decide +kernel
theorem dX11_tryAppend_21 : decode cX11_tryAppend 21 = .ok (.sipush 384, 3) := by decide +kernel
theorem dX11_tryAppend_24 : decode cX11_tryAppend 24 = .ok (.if_icmp .ne 10, 3) := by decide +kernel
theorem dX11_tryAppend_27 : decode cX11_tryAppend 27 = .ok (.aload_n 0, 1) := by decide +kernel
theorem dX11_tryAppend_28 : decode cX11_tryAppend 28 = .ok (.bipush (-7), 2) := by decide +kernel
theorem dX11_tryAppend_30 : decode cX11_tryAppend 30 = .ok (.invokevirtual 348, 3) := by decide +kernel
theorem dX11_tryAppend_33 : decode cX11_tryAppend 33 = .ok (.return_, 1) := by decide +kernel
theorem dX11_tryAppend_34 : decode cX11_tryAppend 34 = .ok (.aload_n 0, 1) := by decide +kernel
theorem dX11_tryAppend_35 : decode cX11_tryAppend 35 = .ok (.iload_n 1, 1) := by decide +kernel
theorem dX11_tryAppend_36 : decode cX11_tryAppend 36 = .ok (.iload_n 3, 1) := by decide +kernel
theorem dX11_tryAppend_37 : decode cX11_tryAppend 37 = .ok (.iload_n 2, 1) := by decide +kernel
theorem dX11_tryAppend_38 : decode cX11_tryAppend 38 = .ok (.iconst 0, 1) := by decide +kernel
theorem dX11_tryAppend_39 : decode cX11_tryAppend 39 = .ok (.invokevirtual 394, 3) := by decide +kernel
theorem dX11_tryAppend_42 : decode cX11_tryAppend 42 = .ok (.aload_n 0, 1) := by decide +kernel
theorem dX11_tryAppend_43 : decode cX11_tryAppend 43 = .ok (.iload_n 3, 1) := by decide +kernel
theorem dX11_tryAppend_44 : decode cX11_tryAppend 44 = .ok (.putfield 316, 3) := by decide +kernel
theorem dX11_tryAppend_47 : decode cX11_tryAppend 47 = .ok (.return_, 1) := by decide +kernel
theorem dX11_tryCount_0 : decode cX11_tryCount 0 = .ok (.aload_n 0, 1) := by decide +kernel
theorem dX11_tryCount_1 : decode cX11_tryCount 1 = .ok (.iload_n 1, 1) := by decide +kernel
theorem dX11_tryCount_2 : decode cX11_tryCount 2 = .ok (.iconst 1, 1) := by decide +kernel
theorem dX11_tryCount_3 : decode cX11_tryCount 3 = .ok (.iconst 2, 1) := by decide +kernel
theorem dX11_tryCount_4 : decode cX11_tryCount 4 = .ok (.bipush (-2), 2) := by decide +kernel
theorem dX11_tryCount_6 : decode cX11_tryCount 6 = .ok (.invokevirtual 390, 3) := by decide +kernel
theorem dX11_tryCount_9 : decode cX11_tryCount 9 = .ok (.ifCond .ne 4, 3) := by decide +kernel
theorem dX11_tryCount_12 : decode cX11_tryCount 12 = .ok (.return_, 1) := by decide +kernel
theorem dX11_tryCount_13 : decode cX11_tryCount 13 = .ok (.aload_n 0, 1) := by decide +kernel
theorem dX11_tryCount_14 : decode cX11_tryCount 14 = .ok (.iload_n 1, 1) := by decide +kernel
theorem dX11_tryCount_15 : decode cX11_tryCount 15 = .ok (.iconst 2, 1) := by decide +kernel
theorem dX11_tryCount_16 : decode cX11_tryCount 16 = .ok (.invokevirtual 351, 3) := by decide +kernel
theorem dX11_tryCount_19 : decode cX11_tryCount 19 = .ok (.istore_n 2, 1) := by decide +kernel
theorem dX11_tryCount_20 : decode cX11_tryCount 20 = .ok (.iconst 0, 1) := by decide +kernel
theorem dX11_tryCount_21 : decode cX11_tryCount 21 = .ok (.istore_n 3, 1) := by decide +kernel
theorem dX11_tryCount_22 : decode cX11_tryCount 22 = .ok (.iload_n 3, 1) := by decide +kernel
theorem dX11_tryCount_23 : decode cX11_tryCount 23 = .ok (.iload_n 2, 1) := by decide +kernel
theorem dX11_tryCount_24 : decode cX11_tryCount 24 = .ok (.if_icmp .ge 35, 3) := by decide +kernel
theorem dX11_tryCount_27 : decode cX11_tryCount 27 = .ok (.aload_n 0, 1) := by decide +kernel
theorem dX11_tryCount_28 : decode cX11_tryCount 28 = .ok (.aload_n 0, 1) := by decide +kernel
theorem dX11_tryCount_29 : decode cX11_tryCount 29 = .ok (.iload_n 1, 1) := by decide +kernel
theorem dX11_tryCount_30 : decode cX11_tryCount 30 = .ok (.iload_n 3, 1) := by decide +kernel
theorem dX11_tryCount_31 : decode cX11_tryCount 31 = .ok (.invokevirtual 363, 3) := by decide +kernel
theorem dX11_tryCount_34 : decode cX11_tryCount 34 = .ok (.ifCond .eq 12, 3) := by decide +kernel
theorem dX11_tryCount_37 : decode cX11_tryCount 37 = .ok (.aload_n 0, 1) := by decide +kernel
theorem dX11_tryCount_38 : decode cX11_tryCount 38 = .ok (.getfield 316, 3) := by decide +kernel
theorem dX11_tryCount_41 : decode cX11_tryCount 41 = .ok (.iconst 1, 1) := by decide +kernel
theorem dX11_tryCount_42 : decode cX11_tryCount 42 = .ok (.iadd, 1) := by decide +kernel
theorem dX11_tryCount_43 : decode cX11_tryCount 43 = .ok (.goto 7, 3) := by decide +kernel
theorem dX11_tryCount_46 : decode cX11_tryCount 46 = .ok (.aload_n 0, 1) := by decide +kernel
theorem dX11_tryCount_47 : decode cX11_tryCount 47 = .ok (.getfield 316, 3) := by decide +kernel
theorem dX11_tryCount_50 : decode cX11_tryCount 50 = .ok (.putfield 316, 3) := by decide +kernel
theorem dX11_tryCount_53 : decode cX11_tryCount 53 = .ok (.iinc 3 2, 3) := by decide +kernel
theorem dX11_tryCount_56 : decode cX11_tryCount 56 = .ok (.goto (-34), 3) := by decide +kernel
theorem dX11_tryCount_59 : decode cX11_tryCount 59 = .ok (.return_, 1) := by decide +kernel
theorem dX11_tryRoom_0 : decode cX11_tryRoom 0 = .ok (.iconst 0, 1) := by decide +kernel
theorem dX11_tryRoom_1 : decode cX11_tryRoom 1 = .ok (.istore_n 1, 1) := by decide +kernel
theorem dX11_tryRoom_2 : decode cX11_tryRoom 2 = .ok (.iload_n 1, 1) := by decide +kernel
theorem dX11_tryRoom_3 : decode cX11_tryRoom 3 = .ok (.bipush 8, 2) := by decide +kernel
theorem dX11_tryRoom_5 : decode cX11_tryRoom 5 = .ok (.if_icmp .ge 78, 3) := by decide +kernel
theorem dX11_tryRoom_8 : decode cX11_tryRoom 8 = .ok (.aload_n 0, 1) := by decide +kernel
theorem dX11_tryRoom_9 : decode cX11_tryRoom 9 = .ok (.sipush 128, 3) := by decide +kernel
theorem dX11_tryRoom_12 : decode cX11_tryRoom 12 = .ok (.iload_n 1, 1) := by decide +kernel
theorem dX11_tryRoom_13 : decode cX11_tryRoom 13 = .ok (.iadd, 1) := by decide +kernel
theorem dX11_tryRoom_14 : decode cX11_tryRoom 14 = .ok (.iconst 1, 1) := by decide +kernel
theorem dX11_tryRoom_15 : decode cX11_tryRoom 15 = .ok (.invokevirtual 338, 3) := by decide +kernel
theorem dX11_tryRoom_18 : decode cX11_tryRoom 18 = .ok (.ifCond .ne 4, 3) := by decide +kernel
theorem dX11_tryRoom_21 : decode cX11_tryRoom 21 = .ok (.return_, 1) := by decide +kernel
theorem dX11_tryRoom_22 : decode cX11_tryRoom 22 = .ok (.iconst 0, 1) := by decide +kernel
theorem dX11_tryRoom_23 : decode cX11_tryRoom 23 = .ok (.istore_n 2, 1) := by decide +kernel
theorem dX11_tryRoom_24 : decode cX11_tryRoom 24 = .ok (.iload_n 2, 1) := by decide +kernel
theorem dX11_tryRoom_25 : decode cX11_tryRoom 25 = .ok (.bipush 47, 2) := by decide +kernel
theorem dX11_tryRoom_27 : decode cX11_tryRoom 27 = .ok (.if_icmp .ge 50, 3) := by decide +kernel
theorem dX11_tryRoom_30 : decode cX11_tryRoom 30 = .ok (.aload_n 0, 1) := by decide +kernel
theorem dX11_tryRoom_31 : decode cX11_tryRoom 31 = .ok (.aload_n 0, 1) := by decide +kernel
theorem dX11_tryRoom_32 : decode cX11_tryRoom 32 = .ok (.iload_n 1, 1) := by decide +kernel
theorem dX11_tryRoom_33 : decode cX11_tryRoom 33 = .ok (.invokestatic 181, 3) := by decide +kernel
theorem dX11_tryRoom_36 : decode cX11_tryRoom 36 = .ok (.iconst 1, 1) := by decide +kernel
theorem dX11_tryRoom_37 : decode cX11_tryRoom 37 = .ok (.iload_n 2, 1) := by decide +kernel
theorem dX11_tryRoom_38 : decode cX11_tryRoom 38 = .ok (.bipush 32, 2) := by decide +kernel
theorem dX11_tryRoom_40 : decode cX11_tryRoom 40 = .ok (.idiv, 1) := by decide +kernel
theorem dX11_tryRoom_41 : decode cX11_tryRoom 41 = .ok (.iadd, 1) := by decide +kernel
theorem dX11_tryRoom_42 : decode cX11_tryRoom 42 = .ok (.invokevirtual 332, 3) := by decide +kernel
theorem dX11_tryRoom_45 : decode cX11_tryRoom 45 = .ok (.iload_n 2, 1) := by decide +kernel
theorem dX11_tryRoom_46 : decode cX11_tryRoom 46 = .ok (.bipush 32, 2) := by decide +kernel
theorem dX11_tryRoom_48 : decode cX11_tryRoom 48 = .ok (.irem, 1) := by decide +kernel
theorem dX11_tryRoom_49 : decode cX11_tryRoom 49 = .ok (.ishr, 1) := by decide +kernel
theorem dX11_tryRoom_50 : decode cX11_tryRoom 50 = .ok (.iconst 1, 1) := by decide +kernel
theorem dX11_tryRoom_51 : decode cX11_tryRoom 51 = .ok (.iand, 1) := by decide +kernel
theorem dX11_tryRoom_52 : decode cX11_tryRoom 52 = .ok (.ifCond .ne 12, 3) := by decide +kernel
theorem dX11_tryRoom_55 : decode cX11_tryRoom 55 = .ok (.aload_n 0, 1) := by decide +kernel
theorem dX11_tryRoom_56 : decode cX11_tryRoom 56 = .ok (.getfield 316, 3) := by decide +kernel
theorem dX11_tryRoom_59 : decode cX11_tryRoom 59 = .ok (.iconst 1, 1) := by decide +kernel
theorem dX11_tryRoom_60 : decode cX11_tryRoom 60 = .ok (.iadd, 1) := by decide +kernel
theorem dX11_tryRoom_61 : decode cX11_tryRoom 61 = .ok (.goto 7, 3) := by decide +kernel
theorem dX11_tryRoom_64 : decode cX11_tryRoom 64 = .ok (.aload_n 0, 1) := by decide +kernel
theorem dX11_tryRoom_65 : decode cX11_tryRoom 65 = .ok (.getfield 316, 3) := by decide +kernel
theorem dX11_tryRoom_68 : decode cX11_tryRoom 68 = .ok (.putfield 316, 3) := by decide +kernel
theorem dX11_tryRoom_71 : decode cX11_tryRoom 71 = .ok (.iinc 2 1, 3) := by decide +kernel
theorem dX11_tryRoom_74 : decode cX11_tryRoom 74 = .ok (.goto (-50), 3) := by decide +kernel
theorem dX11_tryRoom_77 : decode cX11_tryRoom 77 = .ok (.iinc 1 1, 3) := by decide +kernel
theorem dX11_tryRoom_80 : decode cX11_tryRoom 80 = .ok (.goto (-78), 3) := by decide +kernel
theorem dX11_tryRoom_83 : decode cX11_tryRoom 83 = .ok (.return_, 1) := by decide +kernel
theorem dX11_tryCut_0 : decode cX11_tryCut 0 = .ok (.aload_n 0, 1) := by decide +kernel
theorem dX11_tryCut_1 : decode cX11_tryCut 1 = .ok (.iload_n 1, 1) := by decide +kernel
theorem dX11_tryCut_2 : decode cX11_tryCut 2 = .ok (.iconst 2, 1) := by decide +kernel
theorem dX11_tryCut_3 : decode cX11_tryCut 3 = .ok (.iconst 1, 1) := by decide +kernel
theorem dX11_tryCut_4 : decode cX11_tryCut 4 = .ok (.bipush (-4), 2) := by decide +kernel
theorem dX11_tryCut_6 : decode cX11_tryCut 6 = .ok (.invokevirtual 390, 3) := by decide +kernel
theorem dX11_tryCut_9 : decode cX11_tryCut 9 = .ok (.ifCond .ne 4, 3) := by decide +kernel
theorem dX11_tryCut_12 : decode cX11_tryCut 12 = .ok (.return_, 1) := by decide +kernel
theorem dX11_tryCut_13 : decode cX11_tryCut 13 = .ok (.aload_n 0, 1) := by decide +kernel
theorem dX11_tryCut_14 : decode cX11_tryCut 14 = .ok (.iload_n 1, 1) := by decide +kernel
theorem dX11_tryCut_15 : decode cX11_tryCut 15 = .ok (.iconst 2, 1) := by decide +kernel
theorem dX11_tryCut_16 : decode cX11_tryCut 16 = .ok (.invokevirtual 351, 3) := by decide +kernel
theorem dX11_tryCut_19 : decode cX11_tryCut 19 = .ok (.istore_n 3, 1) := by decide +kernel
theorem dX11_tryCut_20 : decode cX11_tryCut 20 = .ok (.aload_n 0, 1) := by decide +kernel
theorem dX11_tryCut_21 : decode cX11_tryCut 21 = .ok (.iload_n 1, 1) := by decide +kernel
theorem dX11_tryCut_22 : decode cX11_tryCut 22 = .ok (.bipush 11, 2) := by decide +kernel
theorem dX11_tryCut_24 : decode cX11_tryCut 24 = .ok (.invokevirtual 351, 3) := by decide +kernel
theorem dX11_tryCut_27 : decode cX11_tryCut 27 = .ok (.istore 4, 2) := by decide +kernel
theorem dX11_tryCut_29 : decode cX11_tryCut 29 = .ok (.iload_n 2, 1) := by decide +kernel
theorem dX11_tryCut_30 : decode cX11_tryCut 30 = .ok (.bipush 15, 2) := by decide +kernel
theorem dX11_tryCut_32 : decode cX11_tryCut 32 = .ok (.iadd, 1) := by decide +kernel
theorem dX11_tryCut_33 : decode cX11_tryCut 33 = .ok (.bipush 16, 2) := by decide +kernel
theorem dX11_tryCut_35 : decode cX11_tryCut 35 = .ok (.idiv, 1) := by decide +kernel
theorem dX11_tryCut_36 : decode cX11_tryCut 36 = .ok (.istore 5, 2) := by decide +kernel
theorem dX11_tryCut_38 : decode cX11_tryCut 38 = .ok (.iload 5, 2) := by decide +kernel
theorem dX11_tryCut_40 : decode cX11_tryCut 40 = .ok (.bipush 24, 2) := by decide +kernel
theorem dX11_tryCut_42 : decode cX11_tryCut 42 = .ok (.if_icmp .ge 118, 3) := by decide +kernel
theorem dX11_tryCut_45 : decode cX11_tryCut 45 = .ok (.aload_n 0, 1) := by decide +kernel
theorem dX11_tryCut_46 : decode cX11_tryCut 46 = .ok (.invokevirtual 322, 3) := by decide +kernel
theorem dX11_tryCut_49 : decode cX11_tryCut 49 = .ok (.ifCond .ne 111, 3) := by decide +kernel
theorem dX11_tryCut_52 : decode cX11_tryCut 52 = .ok (.iload 5, 2) := by decide +kernel
theorem dX11_tryCut_54 : decode cX11_tryCut 54 = .ok (.bipush 8, 2) := by decide +kernel
theorem dX11_tryCut_56 : decode cX11_tryCut 56 = .ok (.if_icmp .ge 15, 3) := by decide +kernel
theorem dX11_tryCut_59 : decode cX11_tryCut 59 = .ok (.aload_n 0, 1) := by decide +kernel
theorem dX11_tryCut_60 : decode cX11_tryCut 60 = .ok (.iload_n 1, 1) := by decide +kernel
theorem dX11_tryCut_61 : decode cX11_tryCut 61 = .ok (.iconst 3, 1) := by decide +kernel
theorem dX11_tryCut_62 : decode cX11_tryCut 62 = .ok (.iload 5, 2) := by decide +kernel
theorem dX11_tryCut_64 : decode cX11_tryCut 64 = .ok (.iadd, 1) := by decide +kernel
theorem dX11_tryCut_65 : decode cX11_tryCut 65 = .ok (.invokevirtual 351, 3) := by decide +kernel
theorem dX11_tryCut_68 : decode cX11_tryCut 68 = .ok (.goto 23, 3) := by decide +kernel
theorem dX11_tryCut_71 : decode cX11_tryCut 71 = .ok (.iload 4, 2) := by decide +kernel
theorem dX11_tryCut_73 : decode cX11_tryCut 73 = .ok (.ifCond .ne 7, 3) := by decide +kernel
theorem dX11_tryCut_76 : decode cX11_tryCut 76 = .ok (.iconst 0, 1) := by decide +kernel
theorem dX11_tryCut_77 : decode cX11_tryCut 77 = .ok (.goto 14, 3) := by decide +kernel
theorem dX11_tryCut_80 : decode cX11_tryCut 80 = .ok (.aload_n 0, 1) := by decide +kernel
theorem dX11_tryCut_81 : decode cX11_tryCut 81 = .ok (.iload 4, 2) := by decide +kernel
theorem dX11_tryCut_83 : decode cX11_tryCut 83 = .ok (.iload 5, 2) := by decide +kernel
theorem dX11_tryCut_85 : decode cX11_tryCut 85 = .ok (.bipush 8, 2) := by decide +kernel
theorem dX11_tryCut_87 : decode cX11_tryCut 87 = .ok (.isub, 1) := by decide +kernel
theorem dX11_tryCut_88 : decode cX11_tryCut 88 = .ok (.invokevirtual 332, 3) := by decide +kernel
theorem dX11_tryCut_91 : decode cX11_tryCut 91 = .ok (.istore 6, 2) := by decide +kernel
theorem dX11_tryCut_93 : decode cX11_tryCut 93 = .ok (.iload 6, 2) := by decide +kernel
theorem dX11_tryCut_95 : decode cX11_tryCut 95 = .ok (.ifCond .ne 6, 3) := by decide +kernel
theorem dX11_tryCut_98 : decode cX11_tryCut 98 = .ok (.goto 56, 3) := by decide +kernel
theorem dX11_tryCut_101 : decode cX11_tryCut 101 = .ok (.aload_n 0, 1) := by decide +kernel
theorem dX11_tryCut_102 : decode cX11_tryCut 102 = .ok (.iload 6, 2) := by decide +kernel
theorem dX11_tryCut_104 : decode cX11_tryCut 104 = .ok (.invokevirtual 428, 3) := by decide +kernel
theorem dX11_tryCut_107 : decode cX11_tryCut 107 = .ok (.aload_n 0, 1) := by decide +kernel
theorem dX11_tryCut_108 : decode cX11_tryCut 108 = .ok (.invokevirtual 322, 3) := by decide +kernel
theorem dX11_tryCut_111 : decode cX11_tryCut 111 = .ok (.ifCond .eq 4, 3) := by decide +kernel
theorem dX11_tryCut_114 : decode cX11_tryCut 114 = .ok (.return_, 1) := by decide +kernel
theorem dX11_tryCut_115 : decode cX11_tryCut 115 = .ok (.iload 5, 2) := by decide +kernel
theorem dX11_tryCut_117 : decode cX11_tryCut 117 = .ok (.bipush 8, 2) := by decide +kernel
theorem dX11_tryCut_119 : decode cX11_tryCut 119 = .ok (.if_icmp .ge 16, 3) := by decide +kernel
theorem dX11_tryCut_122 : decode cX11_tryCut 122 = .ok (.aload_n 0, 1) := by decide +kernel
theorem dX11_tryCut_123 : decode cX11_tryCut 123 = .ok (.iload_n 1, 1) := by decide +kernel
theorem dX11_tryCut_124 : decode cX11_tryCut 124 = .ok (.iconst 3, 1) := by decide +kernel
theorem dX11_tryCut_125 : decode cX11_tryCut 125 = .ok (.iload 5, 2) := by decide +kernel
theorem dX11_tryCut_127 : decode cX11_tryCut 127 = .ok (.iadd, 1) := by decide +kernel
theorem dX11_tryCut_128 : decode cX11_tryCut 128 = .ok (.iconst 0, 1) := by decide +kernel
theorem dX11_tryCut_129 : decode cX11_tryCut 129 = .ok (.invokevirtual 360, 3) := by decide +kernel
theorem dX11_tryCut_132 : decode cX11_tryCut 132 = .ok (.goto 22, 3) := by decide +kernel
theorem dX11_tryCut_135 : decode cX11_tryCut 135 = .ok (.iload_n 2, 1) := by decide +kernel
theorem dX11_tryCut_136 : decode cX11_tryCut 136 = .ok (.sipush 128, 3) := by decide +kernel
theorem dX11_tryCut_139 : decode cX11_tryCut 139 = .ok (.if_icmp .le 15, 3) := by decide +kernel
theorem dX11_tryCut_142 : decode cX11_tryCut 142 = .ok (.aload_n 0, 1) := by decide +kernel
theorem dX11_tryCut_143 : decode cX11_tryCut 143 = .ok (.iload 4, 2) := by decide +kernel
theorem dX11_tryCut_145 : decode cX11_tryCut 145 = .ok (.iload 5, 2) := by decide +kernel
theorem dX11_tryCut_147 : decode cX11_tryCut 147 = .ok (.bipush 8, 2) := by decide +kernel
theorem dX11_tryCut_149 : decode cX11_tryCut 149 = .ok (.isub, 1) := by decide +kernel
theorem dX11_tryCut_150 : decode cX11_tryCut 150 = .ok (.iconst 0, 1) := by decide +kernel
theorem dX11_tryCut_151 : decode cX11_tryCut 151 = .ok (.invokevirtual 335, 3) := by decide +kernel
theorem dX11_tryCut_154 : decode cX11_tryCut 154 = .ok (.iinc 5 1, 3) := by decide +kernel
theorem dX11_tryCut_157 : decode cX11_tryCut 157 = .ok (.goto (-119), 3) := by decide +kernel
theorem dX11_tryCut_160 : decode cX11_tryCut 160 = .ok (.iload_n 2, 1) := by decide +kernel
theorem dX11_tryCut_161 : decode cX11_tryCut 161 = .ok (.sipush 128, 3) := by decide +kernel
theorem dX11_tryCut_164 : decode cX11_tryCut 164 = .ok (.if_icmp .gt 30, 3) := by decide +kernel
theorem dX11_tryCut_167 : decode cX11_tryCut 167 = .ok (.iload 4, 2) := by decide +kernel
theorem dX11_tryCut_169 : decode cX11_tryCut 169 = .ok (.ifCond .eq 25, 3) := by decide +kernel
theorem dX11_tryCut_172 : decode cX11_tryCut 172 = .ok (.aload_n 0, 1) := by decide +kernel
theorem dX11_tryCut_173 : decode cX11_tryCut 173 = .ok (.iload 4, 2) := by decide +kernel
theorem dX11_tryCut_175 : decode cX11_tryCut 175 = .ok (.invokevirtual 428, 3) := by decide +kernel
theorem dX11_tryCut_178 : decode cX11_tryCut 178 = .ok (.aload_n 0, 1) := by decide +kernel
theorem dX11_tryCut_179 : decode cX11_tryCut 179 = .ok (.invokevirtual 322, 3) := by decide +kernel
theorem dX11_tryCut_182 : decode cX11_tryCut 182 = .ok (.ifCond .eq 4, 3) := by decide +kernel
theorem dX11_tryCut_185 : decode cX11_tryCut 185 = .ok (.return_, 1) := by decide +kernel
theorem dX11_tryCut_186 : decode cX11_tryCut 186 = .ok (.aload_n 0, 1) := by decide +kernel
theorem dX11_tryCut_187 : decode cX11_tryCut 187 = .ok (.iload_n 1, 1) := by decide +kernel
theorem dX11_tryCut_188 : decode cX11_tryCut 188 = .ok (.bipush 11, 2) := by decide +kernel
theorem dX11_tryCut_190 : decode cX11_tryCut 190 = .ok (.iconst 0, 1) := by decide +kernel
theorem dX11_tryCut_191 : decode cX11_tryCut 191 = .ok (.invokevirtual 360, 3) := by decide +kernel
theorem dX11_tryCut_194 : decode cX11_tryCut 194 = .ok (.iload_n 2, 1) := by decide +kernel
theorem dX11_tryCut_195 : decode cX11_tryCut 195 = .ok (.bipush 16, 2) := by decide +kernel
theorem dX11_tryCut_197 : decode cX11_tryCut 197 = .ok (.irem, 1) := by decide +kernel
theorem dX11_tryCut_198 : decode cX11_tryCut 198 = .ok (.ifCond .ne 7, 3) := by decide +kernel
theorem dX11_tryCut_201 : decode cX11_tryCut 201 = .ok (.iconst 0, 1) := by decide +kernel
theorem dX11_tryCut_202 : decode cX11_tryCut 202 = .ok (.goto 9, 3) := by decide +kernel
theorem dX11_tryCut_205 : decode cX11_tryCut 205 = .ok (.aload_n 0, 1) := by decide +kernel
theorem dX11_tryCut_206 : decode cX11_tryCut 206 = .ok (.iload_n 1, 1) := by decide +kernel
theorem dX11_tryCut_207 : decode cX11_tryCut 207 = .ok (.iload_n 2, 1) := by decide +kernel
theorem dX11_tryCut_208 : decode cX11_tryCut 208 = .ok (.invokevirtual 354, 3) := by decide +kernel
theorem dX11_tryCut_211 : decode cX11_tryCut 211 = .ok (.istore 5, 2) := by decide +kernel
theorem dX11_tryCut_213 : decode cX11_tryCut 213 = .ok (.iload_n 2, 1) := by decide +kernel
theorem dX11_tryCut_214 : decode cX11_tryCut 214 = .ok (.bipush 16, 2) := by decide +kernel
theorem dX11_tryCut_216 : decode cX11_tryCut 216 = .ok (.irem, 1) := by decide +kernel
theorem dX11_tryCut_217 : decode cX11_tryCut 217 = .ok (.istore 6, 2) := by decide +kernel
theorem dX11_tryCut_219 : decode cX11_tryCut 219 = .ok (.iload 6, 2) := by decide +kernel
theorem dX11_tryCut_221 : decode cX11_tryCut 221 = .ok (.bipush 16, 2) := by decide +kernel
theorem dX11_tryCut_223 : decode cX11_tryCut 223 = .ok (.if_icmp .ge 23, 3) := by decide +kernel
theorem dX11_tryCut_226 : decode cX11_tryCut 226 = .ok (.iload 5, 2) := by decide +kernel
theorem dX11_tryCut_228 : decode cX11_tryCut 228 = .ok (.ifCond .eq 18, 3) := by decide +kernel
theorem dX11_tryCut_231 : decode cX11_tryCut 231 = .ok (.aload_n 0, 1) := by decide +kernel
theorem dX11_tryCut_232 : decode cX11_tryCut 232 = .ok (.iload 5, 2) := by decide +kernel
theorem dX11_tryCut_234 : decode cX11_tryCut 234 = .ok (.iload 6, 2) := by decide +kernel
theorem dX11_tryCut_236 : decode cX11_tryCut 236 = .ok (.iconst 0, 1) := by decide +kernel
theorem dX11_tryCut_237 : decode cX11_tryCut 237 = .ok (.invokevirtual 335, 3) := by decide +kernel
theorem dX11_tryCut_240 : decode cX11_tryCut 240 = .ok (.iinc 6 1, 3) := by decide +kernel
theorem dX11_tryCut_243 : decode cX11_tryCut 243 = .ok (.goto (-24), 3) := by decide +kernel
theorem dX11_tryCut_246 : decode cX11_tryCut 246 = .ok (.aload_n 0, 1) := by decide +kernel
theorem dX11_tryCut_247 : decode cX11_tryCut 247 = .ok (.iload_n 1, 1) := by decide +kernel
theorem dX11_tryCut_248 : decode cX11_tryCut 248 = .ok (.iconst 2, 1) := by decide +kernel
theorem dX11_tryCut_249 : decode cX11_tryCut 249 = .ok (.iload_n 2, 1) := by decide +kernel
theorem dX11_tryCut_250 : decode cX11_tryCut 250 = .ok (.invokevirtual 360, 3) := by decide +kernel
theorem dX11_tryCut_253 : decode cX11_tryCut 253 = .ok (.aload_n 0, 1) := by decide +kernel
theorem dX11_tryCut_254 : decode cX11_tryCut 254 = .ok (.iload_n 3, 1) := by decide +kernel
theorem dX11_tryCut_255 : decode cX11_tryCut 255 = .ok (.putfield 316, 3) := by decide +kernel
theorem dX11_tryCut_258 : decode cX11_tryCut 258 = .ok (.return_, 1) := by decide +kernel
theorem dX11_tryEntry_0 : decode cX11_tryEntry 0 = .ok (.aload_n 0, 1) := by decide +kernel
theorem dX11_tryEntry_1 : decode cX11_tryEntry 1 = .ok (.iload_n 1, 1) := by decide +kernel
theorem dX11_tryEntry_2 : decode cX11_tryEntry 2 = .ok (.iconst 1, 1) := by decide +kernel
theorem dX11_tryEntry_3 : decode cX11_tryEntry 3 = .ok (.iconst 2, 1) := by decide +kernel
theorem dX11_tryEntry_4 : decode cX11_tryEntry 4 = .ok (.bipush (-2), 2) := by decide +kernel
theorem dX11_tryEntry_6 : decode cX11_tryEntry 6 = .ok (.invokevirtual 390, 3) := by decide +kernel
theorem dX11_tryEntry_9 : decode cX11_tryEntry 9 = .ok (.ifCond .ne 4, 3) := by decide +kernel
theorem dX11_tryEntry_12 : decode cX11_tryEntry 12 = .ok (.return_, 1) := by decide +kernel
theorem dX11_tryEntry_13 : decode cX11_tryEntry 13 = .ok (.aload_n 0, 1) := by decide +kernel
theorem dX11_tryEntry_14 : decode cX11_tryEntry 14 = .ok (.iload_n 1, 1) := by decide +kernel
theorem dX11_tryEntry_15 : decode cX11_tryEntry 15 = .ok (.iconst 2, 1) := by decide +kernel
theorem dX11_tryEntry_16 : decode cX11_tryEntry 16 = .ok (.invokevirtual 351, 3) := by decide +kernel
theorem dX11_tryEntry_19 : decode cX11_tryEntry 19 = .ok (.istore_n 3, 1) := by decide +kernel
theorem dX11_tryEntry_20 : decode cX11_tryEntry 20 = .ok (.iconst 0, 1) := by decide +kernel
theorem dX11_tryEntry_21 : decode cX11_tryEntry 21 = .ok (.istore 4, 2) := by decide +kernel
theorem dX11_tryEntry_23 : decode cX11_tryEntry 23 = .ok (.iconst 0, 1) := by decide +kernel
theorem dX11_tryEntry_24 : decode cX11_tryEntry 24 = .ok (.istore 5, 2) := by decide +kernel
theorem dX11_tryEntry_26 : decode cX11_tryEntry 26 = .ok (.iload 5, 2) := by decide +kernel
theorem dX11_tryEntry_28 : decode cX11_tryEntry 28 = .ok (.iload_n 3, 1) := by decide +kernel
theorem dX11_tryEntry_29 : decode cX11_tryEntry 29 = .ok (.if_icmp .ge 52, 3) := by decide +kernel
theorem dX11_tryEntry_32 : decode cX11_tryEntry 32 = .ok (.aload_n 0, 1) := by decide +kernel
theorem dX11_tryEntry_33 : decode cX11_tryEntry 33 = .ok (.iload_n 1, 1) := by decide +kernel
theorem dX11_tryEntry_34 : decode cX11_tryEntry 34 = .ok (.iload 5, 2) := by decide +kernel
theorem dX11_tryEntry_36 : decode cX11_tryEntry 36 = .ok (.invokevirtual 363, 3) := by decide +kernel
theorem dX11_tryEntry_39 : decode cX11_tryEntry 39 = .ok (.istore 6, 2) := by decide +kernel
theorem dX11_tryEntry_41 : decode cX11_tryEntry 41 = .ok (.iload 6, 2) := by decide +kernel
theorem dX11_tryEntry_43 : decode cX11_tryEntry 43 = .ok (.ifCond .eq 16, 3) := by decide +kernel
theorem dX11_tryEntry_46 : decode cX11_tryEntry 46 = .ok (.iload 4, 2) := by decide +kernel
theorem dX11_tryEntry_48 : decode cX11_tryEntry 48 = .ok (.iload_n 2, 1) := by decide +kernel
theorem dX11_tryEntry_49 : decode cX11_tryEntry 49 = .ok (.if_icmp .ne 10, 3) := by decide +kernel
theorem dX11_tryEntry_52 : decode cX11_tryEntry 52 = .ok (.aload_n 0, 1) := by decide +kernel
theorem dX11_tryEntry_53 : decode cX11_tryEntry 53 = .ok (.iload 6, 2) := by decide +kernel
theorem dX11_tryEntry_55 : decode cX11_tryEntry 55 = .ok (.putfield 316, 3) := by decide +kernel
theorem dX11_tryEntry_58 : decode cX11_tryEntry 58 = .ok (.return_, 1) := by decide +kernel
theorem dX11_tryEntry_59 : decode cX11_tryEntry 59 = .ok (.iload 6, 2) := by decide +kernel
theorem dX11_tryEntry_61 : decode cX11_tryEntry 61 = .ok (.ifCond .eq 10, 3) := by decide +kernel
theorem dX11_tryEntry_64 : decode cX11_tryEntry 64 = .ok (.iload 4, 2) := by decide +kernel
theorem dX11_tryEntry_66 : decode cX11_tryEntry 66 = .ok (.iconst 1, 1) := by decide +kernel
theorem dX11_tryEntry_67 : decode cX11_tryEntry 67 = .ok (.iadd, 1) := by decide +kernel
theorem dX11_tryEntry_68 : decode cX11_tryEntry 68 = .ok (.goto 5, 3) := by decide +kernel
theorem dX11_tryEntry_71 : decode cX11_tryEntry 71 = .ok (.iload 4, 2) := by decide +kernel
theorem dX11_tryEntry_73 : decode cX11_tryEntry 73 = .ok (.istore 4, 2) := by decide +kernel
theorem dX11_tryEntry_75 : decode cX11_tryEntry 75 = .ok (.iinc 5 2, 3) := by decide +kernel
theorem dX11_tryEntry_78 : decode cX11_tryEntry 78 = .ok (.goto (-52), 3) := by decide +kernel
theorem dX11_tryEntry_81 : decode cX11_tryEntry 81 = .ok (.aload_n 0, 1) := by decide +kernel
theorem dX11_tryEntry_82 : decode cX11_tryEntry 82 = .ok (.bipush (-3), 2) := by decide +kernel
theorem dX11_tryEntry_84 : decode cX11_tryEntry 84 = .ok (.invokevirtual 348, 3) := by decide +kernel
theorem dX11_tryEntry_87 : decode cX11_tryEntry 87 = .ok (.return_, 1) := by decide +kernel
theorem dX11_tryStat_0 : decode cX11_tryStat 0 = .ok (.aload_n 0, 1) := by decide +kernel
theorem dX11_tryStat_1 : decode cX11_tryStat 1 = .ok (.iload_n 1, 1) := by decide +kernel
theorem dX11_tryStat_2 : decode cX11_tryStat 2 = .ok (.iconst 1, 1) := by decide +kernel
theorem dX11_tryStat_3 : decode cX11_tryStat 3 = .ok (.invokevirtual 338, 3) := by decide +kernel
theorem dX11_tryStat_6 : decode cX11_tryStat 6 = .ok (.ifCond .ne 4, 3) := by decide +kernel
theorem dX11_tryStat_9 : decode cX11_tryStat 9 = .ok (.return_, 1) := by decide +kernel
theorem dX11_tryStat_10 : decode cX11_tryStat 10 = .ok (.aload_n 0, 1) := by decide +kernel
theorem dX11_tryStat_11 : decode cX11_tryStat 11 = .ok (.iload_n 1, 1) := by decide +kernel
theorem dX11_tryStat_12 : decode cX11_tryStat 12 = .ok (.iconst 0, 1) := by decide +kernel
theorem dX11_tryStat_13 : decode cX11_tryStat 13 = .ok (.invokevirtual 351, 3) := by decide +kernel
theorem dX11_tryStat_16 : decode cX11_tryStat 16 = .ok (.ifCond .ne 10, 3) := by decide +kernel
theorem dX11_tryStat_19 : decode cX11_tryStat 19 = .ok (.aload_n 0, 1) := by decide +kernel
theorem dX11_tryStat_20 : decode cX11_tryStat 20 = .ok (.bipush (-5), 2) := by decide +kernel
theorem dX11_tryStat_22 : decode cX11_tryStat 22 = .ok (.invokevirtual 348, 3) := by decide +kernel
theorem dX11_tryStat_25 : decode cX11_tryStat 25 = .ok (.return_, 1) := by decide +kernel
theorem dX11_tryStat_26 : decode cX11_tryStat 26 = .ok (.iload_n 2, 1) := by decide +kernel
theorem dX11_tryStat_27 : decode cX11_tryStat 27 = .ok (.iconst 3, 1) := by decide +kernel
theorem dX11_tryStat_28 : decode cX11_tryStat 28 = .ok (.if_icmp .ge 14, 3) := by decide +kernel
theorem dX11_tryStat_31 : decode cX11_tryStat 31 = .ok (.aload_n 0, 1) := by decide +kernel
theorem dX11_tryStat_32 : decode cX11_tryStat 32 = .ok (.aload_n 0, 1) := by decide +kernel
theorem dX11_tryStat_33 : decode cX11_tryStat 33 = .ok (.iload_n 1, 1) := by decide +kernel
theorem dX11_tryStat_34 : decode cX11_tryStat 34 = .ok (.iload_n 2, 1) := by decide +kernel
theorem dX11_tryStat_35 : decode cX11_tryStat 35 = .ok (.invokevirtual 351, 3) := by decide +kernel
theorem dX11_tryStat_38 : decode cX11_tryStat 38 = .ok (.putfield 316, 3) := by decide +kernel
theorem dX11_tryStat_41 : decode cX11_tryStat 41 = .ok (.return_, 1) := by decide +kernel
theorem dX11_tryStat_42 : decode cX11_tryStat 42 = .ok (.iconst 0, 1) := by decide +kernel
theorem dX11_tryStat_43 : decode cX11_tryStat 43 = .ok (.istore_n 3, 1) := by decide +kernel
theorem dX11_tryStat_44 : decode cX11_tryStat 44 = .ok (.iconst 3, 1) := by decide +kernel
theorem dX11_tryStat_45 : decode cX11_tryStat 45 = .ok (.istore 4, 2) := by decide +kernel
theorem dX11_tryStat_47 : decode cX11_tryStat 47 = .ok (.iload 4, 2) := by decide +kernel
theorem dX11_tryStat_49 : decode cX11_tryStat 49 = .ok (.bipush 11, 2) := by decide +kernel
theorem dX11_tryStat_51 : decode cX11_tryStat 51 = .ok (.if_icmp .gt 27, 3) := by decide +kernel
theorem dX11_tryStat_54 : decode cX11_tryStat 54 = .ok (.aload_n 0, 1) := by decide +kernel
theorem dX11_tryStat_55 : decode cX11_tryStat 55 = .ok (.iload_n 1, 1) := by decide +kernel
theorem dX11_tryStat_56 : decode cX11_tryStat 56 = .ok (.iload 4, 2) := by decide +kernel
theorem dX11_tryStat_58 : decode cX11_tryStat 58 = .ok (.invokevirtual 351, 3) := by decide +kernel
theorem dX11_tryStat_61 : decode cX11_tryStat 61 = .ok (.ifCond .eq 9, 3) := by decide +kernel
theorem dX11_tryStat_64 : decode cX11_tryStat 64 = .ok (.iload_n 3, 1) := by decide +kernel
theorem dX11_tryStat_65 : decode cX11_tryStat 65 = .ok (.iconst 1, 1) := by decide +kernel
theorem dX11_tryStat_66 : decode cX11_tryStat 66 = .ok (.iadd, 1) := by decide +kernel
theorem dX11_tryStat_67 : decode cX11_tryStat 67 = .ok (.goto 4, 3) := by decide +kernel
theorem dX11_tryStat_70 : decode cX11_tryStat 70 = .ok (.iload_n 3, 1) := by decide +kernel
theorem dX11_tryStat_71 : decode cX11_tryStat 71 = .ok (.istore_n 3, 1) := by decide +kernel
theorem dX11_tryStat_72 : decode cX11_tryStat 72 = .ok (.iinc 4 1, 3) := by decide +kernel
theorem dX11_tryStat_75 : decode cX11_tryStat 75 = .ok (.goto (-28), 3) := by decide +kernel
theorem dX11_tryStat_78 : decode cX11_tryStat 78 = .ok (.aload_n 0, 1) := by decide +kernel
theorem dX11_tryStat_79 : decode cX11_tryStat 79 = .ok (.iload_n 1, 1) := by decide +kernel
theorem dX11_tryStat_80 : decode cX11_tryStat 80 = .ok (.bipush 11, 2) := by decide +kernel
theorem dX11_tryStat_82 : decode cX11_tryStat 82 = .ok (.invokevirtual 351, 3) := by decide +kernel
theorem dX11_tryStat_85 : decode cX11_tryStat 85 = .ok (.istore 4, 2) := by decide +kernel
theorem dX11_tryStat_87 : decode cX11_tryStat 87 = .ok (.iconst 0, 1) := by decide +kernel
theorem dX11_tryStat_88 : decode cX11_tryStat 88 = .ok (.istore 5, 2) := by decide +kernel
theorem dX11_tryStat_90 : decode cX11_tryStat 90 = .ok (.iload 5, 2) := by decide +kernel
theorem dX11_tryStat_92 : decode cX11_tryStat 92 = .ok (.bipush 16, 2) := by decide +kernel
theorem dX11_tryStat_94 : decode cX11_tryStat 94 = .ok (.if_icmp .ge 33, 3) := by decide +kernel
theorem dX11_tryStat_97 : decode cX11_tryStat 97 = .ok (.iload 4, 2) := by decide +kernel
theorem dX11_tryStat_99 : decode cX11_tryStat 99 = .ok (.ifCond .eq 28, 3) := by decide +kernel
theorem dX11_tryStat_102 : decode cX11_tryStat 102 = .ok (.aload_n 0, 1) := by decide +kernel
theorem dX11_tryStat_103 : decode cX11_tryStat 103 = .ok (.iload 4, 2) := by decide +kernel
theorem dX11_tryStat_105 : decode cX11_tryStat 105 = .ok (.iload 5, 2) := by decide +kernel
theorem dX11_tryStat_107 : decode cX11_tryStat 107 = .ok (.invokevirtual 332, 3) := by decide +kernel
theorem dX11_tryStat_110 : decode cX11_tryStat 110 = .ok (.ifCond .eq 9, 3) := by decide +kernel
theorem dX11_tryStat_113 : decode cX11_tryStat 113 = .ok (.iload_n 3, 1) := by decide +kernel
theorem dX11_tryStat_114 : decode cX11_tryStat 114 = .ok (.iconst 1, 1) := by decide +kernel
theorem dX11_tryStat_115 : decode cX11_tryStat 115 = .ok (.iadd, 1) := by decide +kernel
theorem dX11_tryStat_116 : decode cX11_tryStat 116 = .ok (.goto 4, 3) := by decide +kernel
theorem dX11_tryStat_119 : decode cX11_tryStat 119 = .ok (.iload_n 3, 1) := by decide +kernel
theorem dX11_tryStat_120 : decode cX11_tryStat 120 = .ok (.istore_n 3, 1) := by decide +kernel
theorem dX11_tryStat_121 : decode cX11_tryStat 121 = .ok (.iinc 5 1, 3) := by decide +kernel
theorem dX11_tryStat_124 : decode cX11_tryStat 124 = .ok (.goto (-34), 3) := by decide +kernel
theorem dX11_tryStat_127 : decode cX11_tryStat 127 = .ok (.aload_n 0, 1) := by decide +kernel
theorem dX11_tryStat_128 : decode cX11_tryStat 128 = .ok (.iload_n 3, 1) := by decide +kernel
theorem dX11_tryStat_129 : decode cX11_tryStat 129 = .ok (.putfield 316, 3) := by decide +kernel
theorem dX11_tryStat_132 : decode cX11_tryStat 132 = .ok (.return_, 1) := by decide +kernel
theorem dX11_isInode_0 : decode cX11_isInode 0 = .ok (.iload_n 0, 1) := by decide +kernel
theorem dX11_isInode_1 : decode cX11_isInode 1 = .ok (.iconst 0, 1) := by decide +kernel
theorem dX11_isInode_2 : decode cX11_isInode 2 = .ok (.bipush 127, 2) := by decide +kernel
theorem dX11_isInode_4 : decode cX11_isInode 4 = .ok (.invokestatic 243, 3) := by decide +kernel
theorem dX11_isInode_7 : decode cX11_isInode 7 = .ok (.ireturn, 1) := by decide +kernel
theorem dX11_isGiven_0 : decode cX11_isGiven 0 = .ok (.iload_n 0, 1) := by decide +kernel
theorem dX11_isGiven_1 : decode cX11_isGiven 1 = .ok (.tableswitch 272 0 14 #[75, 92, 75, 118, 142, 171, 171, 195, 219, 243, 270, 171, 265, 265, 270], 75) := by decide +kernel
theorem dX11_isGiven_76 : decode cX11_isGiven 76 = .ok (.iload_n 1, 1) := by decide +kernel
theorem dX11_isGiven_77 : decode cX11_isGiven 77 = .ok (.invokestatic 431, 3) := by decide +kernel
theorem dX11_isGiven_80 : decode cX11_isGiven 80 = .ok (.ifCond .eq 11, 3) := by decide +kernel
theorem dX11_isGiven_83 : decode cX11_isGiven 83 = .ok (.iload_n 2, 1) := by decide +kernel
theorem dX11_isGiven_84 : decode cX11_isGiven 84 = .ok (.ifCond .eq 7, 3) := by decide +kernel
theorem dX11_isGiven_87 : decode cX11_isGiven 87 = .ok (.iconst 1, 1) := by decide +kernel
theorem dX11_isGiven_88 : decode cX11_isGiven 88 = .ok (.goto 4, 3) := by decide +kernel
theorem dX11_isGiven_91 : decode cX11_isGiven 91 = .ok (.iconst 0, 1) := by decide +kernel
theorem dX11_isGiven_92 : decode cX11_isGiven 92 = .ok (.ireturn, 1) := by decide +kernel
theorem dX11_isGiven_93 : decode cX11_isGiven 93 = .ok (.iload_n 1, 1) := by decide +kernel
theorem dX11_isGiven_94 : decode cX11_isGiven 94 = .ok (.invokestatic 431, 3) := by decide +kernel
theorem dX11_isGiven_97 : decode cX11_isGiven 97 = .ok (.ifCond .eq 20, 3) := by decide +kernel
theorem dX11_isGiven_100 : decode cX11_isGiven 100 = .ok (.iload_n 2, 1) := by decide +kernel
theorem dX11_isGiven_101 : decode cX11_isGiven 101 = .ok (.ifCond .eq 16, 3) := by decide +kernel
theorem dX11_isGiven_104 : decode cX11_isGiven 104 = .ok (.iload_n 3, 1) := by decide +kernel
theorem dX11_isGiven_105 : decode cX11_isGiven 105 = .ok (.iconst 1, 1) := by decide +kernel
theorem dX11_isGiven_106 : decode cX11_isGiven 106 = .ok (.iconst 2, 1) := by decide +kernel
theorem dX11_isGiven_107 : decode cX11_isGiven 107 = .ok (.invokestatic 243, 3) := by decide +kernel
theorem dX11_isGiven_110 : decode cX11_isGiven 110 = .ok (.ifCond .eq 7, 3) := by decide +kernel
theorem dX11_isGiven_113 : decode cX11_isGiven 113 = .ok (.iconst 1, 1) := by decide +kernel
theorem dX11_isGiven_114 : decode cX11_isGiven 114 = .ok (.goto 4, 3) := by decide +kernel
theorem dX11_isGiven_117 : decode cX11_isGiven 117 = .ok (.iconst 0, 1) := by decide +kernel
theorem dX11_isGiven_118 : decode cX11_isGiven 118 = .ok (.ireturn, 1) := by decide +kernel
theorem dX11_isGiven_119 : decode cX11_isGiven 119 = .ok (.iload_n 1, 1) := by decide +kernel
theorem dX11_isGiven_120 : decode cX11_isGiven 120 = .ok (.invokestatic 431, 3) := by decide +kernel
theorem dX11_isGiven_123 : decode cX11_isGiven 123 = .ok (.ifCond .eq 18, 3) := by decide +kernel
theorem dX11_isGiven_126 : decode cX11_isGiven 126 = .ok (.iload_n 2, 1) := by decide +kernel
theorem dX11_isGiven_127 : decode cX11_isGiven 127 = .ok (.ifCond .eq 14, 3) := by decide +kernel
theorem dX11_isGiven_130 : decode cX11_isGiven 130 = .ok (.iload_n 3, 1) := by decide +kernel
theorem dX11_isGiven_131 : decode cX11_isGiven 131 = .ok (.invokestatic 431, 3) := by decide +kernel
theorem dX11_isGiven_134 : decode cX11_isGiven 134 = .ok (.ifCond .eq 7, 3) := by decide +kernel
theorem dX11_isGiven_137 : decode cX11_isGiven 137 = .ok (.iconst 1, 1) := by decide +kernel
theorem dX11_isGiven_138 : decode cX11_isGiven 138 = .ok (.goto 4, 3) := by decide +kernel
theorem dX11_isGiven_141 : decode cX11_isGiven 141 = .ok (.iconst 0, 1) := by decide +kernel
theorem dX11_isGiven_142 : decode cX11_isGiven 142 = .ok (.ireturn, 1) := by decide +kernel
theorem dX11_isGiven_143 : decode cX11_isGiven 143 = .ok (.iload_n 1, 1) := by decide +kernel
theorem dX11_isGiven_144 : decode cX11_isGiven 144 = .ok (.invokestatic 431, 3) := by decide +kernel
theorem dX11_isGiven_147 : decode cX11_isGiven 147 = .ok (.ifCond .eq 23, 3) := by decide +kernel
theorem dX11_isGiven_150 : decode cX11_isGiven 150 = .ok (.iload_n 2, 1) := by decide +kernel
theorem dX11_isGiven_151 : decode cX11_isGiven 151 = .ok (.ifCond .eq 19, 3) := by decide +kernel
theorem dX11_isGiven_154 : decode cX11_isGiven 154 = .ok (.iload_n 3, 1) := by decide +kernel
theorem dX11_isGiven_155 : decode cX11_isGiven 155 = .ok (.invokestatic 431, 3) := by decide +kernel
theorem dX11_isGiven_158 : decode cX11_isGiven 158 = .ok (.ifCond .eq 12, 3) := by decide +kernel
theorem dX11_isGiven_161 : decode cX11_isGiven 161 = .ok (.iload 4, 2) := by decide +kernel
theorem dX11_isGiven_163 : decode cX11_isGiven 163 = .ok (.ifCond .eq 7, 3) := by decide +kernel
theorem dX11_isGiven_166 : decode cX11_isGiven 166 = .ok (.iconst 1, 1) := by decide +kernel
