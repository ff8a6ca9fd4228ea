/-! every instruction, decoded -/
theorem dX0_init_0 : decode cX0_init 0 = .ok (.aload_n 0, 1) := by decide +kernel
theorem dX0_init_1 : decode cX0_init 1 = .ok (.invokespecial 3, 3) := by decide +kernel
theorem dX0_init_4 : decode cX0_init 4 = .ok (.aload_n 0, 1) := by decide +kernel
theorem dX0_init_5 : decode cX0_init 5 = .ok (.new 9, 3) := by decide +kernel
theorem dX0_init_8 : decode cX0_init 8 = .ok (.dup, 1) := by decide +kernel
theorem dX0_init_9 : decode cX0_init 9 = .ok (.invokespecial 11, 3) := by decide +kernel
theorem dX0_init_12 : decode cX0_init 12 = .ok (.putfield 12, 3) := by decide +kernel
theorem dX0_init_15 : decode cX0_init 15 = .ok (.aload_n 0, 1) := by decide +kernel
theorem dX0_init_16 : decode cX0_init 16 = .ok (.bipush 7, 2) := by decide +kernel
theorem dX0_init_18 : decode cX0_init 18 = .ok (.newarray .int, 2) := by decide +kernel
theorem dX0_init_20 : decode cX0_init 20 = .ok (.putfield 18, 3) := by decide +kernel
theorem dX0_init_23 : decode cX0_init 23 = .ok (.aload_n 0, 1) := by decide +kernel
theorem dX0_init_24 : decode cX0_init 24 = .ok (.bipush 7, 2) := by decide +kernel
theorem dX0_init_26 : decode cX0_init 26 = .ok (.newarray .int, 2) := by decide +kernel
theorem dX0_init_28 : decode cX0_init 28 = .ok (.putfield 22, 3) := by decide +kernel
theorem dX0_init_31 : decode cX0_init 31 = .ok (.aload_n 0, 1) := by decide +kernel
theorem dX0_init_32 : decode cX0_init 32 = .ok (.iconst 0, 1) := by decide +kernel
theorem dX0_init_33 : decode cX0_init 33 = .ok (.putfield 25, 3) := by decide +kernel
theorem dX0_init_36 : decode cX0_init 36 = .ok (.aload_n 0, 1) := by decide +kernel
theorem dX0_init_37 : decode cX0_init 37 = .ok (.iconst 0, 1) := by decide +kernel
theorem dX0_init_38 : decode cX0_init 38 = .ok (.putfield 29, 3) := by decide +kernel
theorem dX0_init_41 : decode cX0_init 41 = .ok (.return_, 1) := by decide +kernel
theorem dX0_find_0 : decode cX0_find 0 = .ok (.aload_n 0, 1) := by decide +kernel
theorem dX0_find_1 : decode cX0_find 1 = .ok (.getfield 12, 3) := by decide +kernel
theorem dX0_find_4 : decode cX0_find 4 = .ok (.aload_n 1, 1) := by decide +kernel
theorem dX0_find_5 : decode cX0_find 5 = .ok (.invokevirtual 32, 3) := by decide +kernel
theorem dX0_find_8 : decode cX0_find 8 = .ok (.aload_n 0, 1) := by decide +kernel
theorem dX0_find_9 : decode cX0_find 9 = .ok (.aload_n 1, 1) := by decide +kernel
theorem dX0_find_10 : decode cX0_find 10 = .ok (.getfield 36, 3) := by decide +kernel
theorem dX0_find_13 : decode cX0_find 13 = .ok (.putfield 25, 3) := by decide +kernel
theorem dX0_find_16 : decode cX0_find 16 = .ok (.aload_n 0, 1) := by decide +kernel
theorem dX0_find_17 : decode cX0_find 17 = .ok (.ldc 39, 2) := by decide +kernel
theorem dX0_find_19 : decode cX0_find 19 = .ok (.putfield 29, 3) := by decide +kernel
theorem dX0_find_22 : decode cX0_find 22 = .ok (.aload_n 0, 1) := by decide +kernel
theorem dX0_find_23 : decode cX0_find 23 = .ok (.iconst 0, 1) := by decide +kernel
theorem dX0_find_24 : decode cX0_find 24 = .ok (.aload_n 1, 1) := by decide +kernel
theorem dX0_find_25 : decode cX0_find 25 = .ok (.getfield 40, 3) := by decide +kernel
theorem dX0_find_28 : decode cX0_find 28 = .ok (.aload_n 1, 1) := by decide +kernel
theorem dX0_find_29 : decode cX0_find 29 = .ok (.invokevirtual 43, 3) := by decide +kernel
theorem dX0_find_32 : decode cX0_find 32 = .ok (.invokestatic 47, 3) := by decide +kernel
theorem dX0_find_35 : decode cX0_find 35 = .ok (.return_, 1) := by decide +kernel
theorem dX0_seek_0 : decode cX0_seek 0 = .ok (.iload_n 3, 1) := by decide +kernel
theorem dX0_seek_1 : decode cX0_seek 1 = .ok (.aload_n 0, 1) := by decide +kernel
theorem dX0_seek_2 : decode cX0_seek 2 = .ok (.getfield 29, 3) := by decide +kernel
theorem dX0_seek_5 : decode cX0_seek 5 = .ok (.if_icmp .ge 9, 3) := by decide +kernel
theorem dX0_seek_8 : decode cX0_seek 8 = .ok (.iload_n 1, 1) := by decide +kernel
theorem dX0_seek_9 : decode cX0_seek 9 = .ok (.bipush 7, 2) := by decide +kernel
theorem dX0_seek_11 : decode cX0_seek 11 = .ok (.if_icmp .le 4, 3) := by decide +kernel
theorem dX0_seek_14 : decode cX0_seek 14 = .ok (.return_, 1) := by decide +kernel
theorem dX0_seek_15 : decode cX0_seek 15 = .ok (.iload_n 1, 1) := by decide +kernel
theorem dX0_seek_16 : decode cX0_seek 16 = .ok (.aload_n 0, 1) := by decide +kernel
theorem dX0_seek_17 : decode cX0_seek 17 = .ok (.getfield 25, 3) := by decide +kernel
theorem dX0_seek_20 : decode cX0_seek 20 = .ok (.if_icmp .lt 26, 3) := by decide +kernel
theorem dX0_seek_23 : decode cX0_seek 23 = .ok (.aload_n 0, 1) := by decide +kernel
theorem dX0_seek_24 : decode cX0_seek 24 = .ok (.iload_n 3, 1) := by decide +kernel
theorem dX0_seek_25 : decode cX0_seek 25 = .ok (.putfield 29, 3) := by decide +kernel
theorem dX0_seek_28 : decode cX0_seek 28 = .ok (.aload_n 0, 1) := by decide +kernel
theorem dX0_seek_29 : decode cX0_seek 29 = .ok (.getfield 18, 3) := by decide +kernel
theorem dX0_seek_32 : decode cX0_seek 32 = .ok (.iconst 0, 1) := by decide +kernel
theorem dX0_seek_33 : decode cX0_seek 33 = .ok (.aload_n 0, 1) := by decide +kernel
theorem dX0_seek_34 : decode cX0_seek 34 = .ok (.getfield 22, 3) := by decide +kernel
theorem dX0_seek_37 : decode cX0_seek 37 = .ok (.iconst 0, 1) := by decide +kernel
theorem dX0_seek_38 : decode cX0_seek 38 = .ok (.aload_n 0, 1) := by decide +kernel
theorem dX0_seek_39 : decode cX0_seek 39 = .ok (.getfield 25, 3) := by decide +kernel
theorem dX0_seek_42 : decode cX0_seek 42 = .ok (.invokestatic 51, 3) := by decide +kernel
theorem dX0_seek_45 : decode cX0_seek 45 = .ok (.return_, 1) := by decide +kernel
theorem dX0_seek_46 : decode cX0_seek 46 = .ok (.aload_n 0, 1) := by decide +kernel
theorem dX0_seek_47 : decode cX0_seek 47 = .ok (.getfield 12, 3) := by decide +kernel
theorem dX0_seek_50 : decode cX0_seek 50 = .ok (.astore 4, 2) := by decide +kernel
theorem dX0_seek_52 : decode cX0_seek 52 = .ok (.aload 4, 2) := by decide +kernel
theorem dX0_seek_54 : decode cX0_seek 54 = .ok (.getfield 57, 3) := by decide +kernel
theorem dX0_seek_57 : decode cX0_seek 57 = .ok (.iconst 0, 1) := by decide +kernel
theorem dX0_seek_58 : decode cX0_seek 58 = .ok (.iaload, 1) := by decide +kernel
theorem dX0_seek_59 : decode cX0_seek 59 = .ok (.istore 5, 2) := by decide +kernel
theorem dX0_seek_61 : decode cX0_seek 61 = .ok (.aload 4, 2) := by decide +kernel
theorem dX0_seek_63 : decode cX0_seek 63 = .ok (.getfield 57, 3) := by decide +kernel
theorem dX0_seek_66 : decode cX0_seek 66 = .ok (.iconst 1, 1) := by decide +kernel
theorem dX0_seek_67 : decode cX0_seek 67 = .ok (.iaload, 1) := by decide +kernel
theorem dX0_seek_68 : decode cX0_seek 68 = .ok (.istore 6, 2) := by decide +kernel
theorem dX0_seek_70 : decode cX0_seek 70 = .ok (.aload 4, 2) := by decide +kernel
theorem dX0_seek_72 : decode cX0_seek 72 = .ok (.getfield 60, 3) := by decide +kernel
theorem dX0_seek_75 : decode cX0_seek 75 = .ok (.istore 7, 2) := by decide +kernel
theorem dX0_seek_77 : decode cX0_seek 77 = .ok (.iconst 0, 1) := by decide +kernel
theorem dX0_seek_78 : decode cX0_seek 78 = .ok (.istore 8, 2) := by decide +kernel
theorem dX0_seek_80 : decode cX0_seek 80 = .ok (.iload 8, 2) := by decide +kernel
theorem dX0_seek_82 : decode cX0_seek 82 = .ok (.aload 4, 2) := by decide +kernel
theorem dX0_seek_84 : decode cX0_seek 84 = .ok (.getfield 63, 3) := by decide +kernel
theorem dX0_seek_87 : decode cX0_seek 87 = .ok (.if_icmp .ge 81, 3) := by decide +kernel
theorem dX0_seek_90 : decode cX0_seek 90 = .ok (.iload_n 2, 1) := by decide +kernel
theorem dX0_seek_91 : decode cX0_seek 91 = .ok (.iload 8, 2) := by decide +kernel
theorem dX0_seek_93 : decode cX0_seek 93 = .ok (.ishr, 1) := by decide +kernel
theorem dX0_seek_94 : decode cX0_seek 94 = .ok (.iconst 1, 1) := by decide +kernel
theorem dX0_seek_95 : decode cX0_seek 95 = .ok (.iand, 1) := by decide +kernel
theorem dX0_seek_96 : decode cX0_seek 96 = .ok (.ifCond .ne 66, 3) := by decide +kernel
theorem dX0_seek_99 : decode cX0_seek 99 = .ok (.aload_n 0, 1) := by decide +kernel
theorem dX0_seek_100 : decode cX0_seek 100 = .ok (.getfield 18, 3) := by decide +kernel
theorem dX0_seek_103 : decode cX0_seek 103 = .ok (.iload_n 1, 1) := by decide +kernel
theorem dX0_seek_104 : decode cX0_seek 104 = .ok (.iload 8, 2) := by decide +kernel
theorem dX0_seek_106 : decode cX0_seek 106 = .ok (.iastore, 1) := by decide +kernel
theorem dX0_seek_107 : decode cX0_seek 107 = .ok (.aload 4, 2) := by decide +kernel
theorem dX0_seek_109 : decode cX0_seek 109 = .ok (.iload 8, 2) := by decide +kernel
theorem dX0_seek_111 : decode cX0_seek 111 = .ok (.iconst 0, 1) := by decide +kernel
theorem dX0_seek_112 : decode cX0_seek 112 = .ok (.invokevirtual 66, 3) := by decide +kernel
theorem dX0_seek_115 : decode cX0_seek 115 = .ok (.aload_n 0, 1) := by decide +kernel
theorem dX0_seek_116 : decode cX0_seek 116 = .ok (.iload_n 1, 1) := by decide +kernel
theorem dX0_seek_117 : decode cX0_seek 117 = .ok (.iconst 1, 1) := by decide +kernel
theorem dX0_seek_118 : decode cX0_seek 118 = .ok (.iadd, 1) := by decide +kernel
theorem dX0_seek_119 : decode cX0_seek 119 = .ok (.iload_n 2, 1) := by decide +kernel
theorem dX0_seek_120 : decode cX0_seek 120 = .ok (.iconst 1, 1) := by decide +kernel
theorem dX0_seek_121 : decode cX0_seek 121 = .ok (.iload 8, 2) := by decide +kernel
theorem dX0_seek_123 : decode cX0_seek 123 = .ok (.ishl, 1) := by decide +kernel
theorem dX0_seek_124 : decode cX0_seek 124 = .ok (.ior, 1) := by decide +kernel
theorem dX0_seek_125 : decode cX0_seek 125 = .ok (.iload_n 3, 1) := by decide +kernel
theorem dX0_seek_126 : decode cX0_seek 126 = .ok (.aload 4, 2) := by decide +kernel
theorem dX0_seek_128 : decode cX0_seek 128 = .ok (.iload 8, 2) := by decide +kernel
theorem dX0_seek_130 : decode cX0_seek 130 = .ok (.invokevirtual 70, 3) := by decide +kernel
theorem dX0_seek_133 : decode cX0_seek 133 = .ok (.iadd, 1) := by decide +kernel
theorem dX0_seek_134 : decode cX0_seek 134 = .ok (.invokestatic 47, 3) := by decide +kernel
theorem dX0_seek_137 : decode cX0_seek 137 = .ok (.aload 4, 2) := by decide +kernel
theorem dX0_seek_139 : decode cX0_seek 139 = .ok (.getfield 57, 3) := by decide +kernel
theorem dX0_seek_142 : decode cX0_seek 142 = .ok (.iconst 0, 1) := by decide +kernel
theorem dX0_seek_143 : decode cX0_seek 143 = .ok (.iload 5, 2) := by decide +kernel
theorem dX0_seek_145 : decode cX0_seek 145 = .ok (.iastore, 1) := by decide +kernel
theorem dX0_seek_146 : decode cX0_seek 146 = .ok (.aload 4, 2) := by decide +kernel
theorem dX0_seek_148 : decode cX0_seek 148 = .ok (.getfield 57, 3) := by decide +kernel
theorem dX0_seek_151 : decode cX0_seek 151 = .ok (.iconst 1, 1) := by decide +kernel
theorem dX0_seek_152 : decode cX0_seek 152 = .ok (.iload 6, 2) := by decide +kernel
theorem dX0_seek_154 : decode cX0_seek 154 = .ok (.iastore, 1) := by decide +kernel
theorem dX0_seek_155 : decode cX0_seek 155 = .ok (.aload 4, 2) := by decide +kernel
theorem dX0_seek_157 : decode cX0_seek 157 = .ok (.iload 7, 2) := by decide +kernel
theorem dX0_seek_159 : decode cX0_seek 159 = .ok (.putfield 60, 3) := by decide +kernel
theorem dX0_seek_162 : decode cX0_seek 162 = .ok (.iinc 8 1, 3) := by decide +kernel
theorem dX0_seek_165 : decode cX0_seek 165 = .ok (.goto (-85), 3) := by decide +kernel
theorem dX0_seek_168 : decode cX0_seek 168 = .ok (.return_, 1) := by decide +kernel
theorem dX1_init_0 : decode cX1_init 0 = .ok (.aload_n 0, 1) := by decide +kernel
theorem dX1_init_1 : decode cX1_init 1 = .ok (.invokespecial 3, 3) := by decide +kernel
theorem dX1_init_4 : decode cX1_init 4 = .ok (.aload_n 0, 1) := by decide +kernel
theorem dX1_init_5 : decode cX1_init 5 = .ok (.bipush 7, 2) := by decide +kernel
theorem dX1_init_7 : decode cX1_init 7 = .ok (.newarray .int, 2) := by decide +kernel
theorem dX1_init_9 : decode cX1_init 9 = .ok (.putfield 11, 3) := by decide +kernel
theorem dX1_init_12 : decode cX1_init 12 = .ok (.aload_n 0, 1) := by decide +kernel
theorem dX1_init_13 : decode cX1_init 13 = .ok (.bipush (-9), 2) := by decide +kernel
theorem dX1_init_15 : decode cX1_init 15 = .ok (.putfield 17, 3) := by decide +kernel
theorem dX1_init_18 : decode cX1_init 18 = .ok (.aload_n 0, 1) := by decide +kernel
theorem dX1_init_19 : decode cX1_init 19 = .ok (.iconst 0, 1) := by decide +kernel
theorem dX1_init_20 : decode cX1_init 20 = .ok (.putfield 21, 3) := by decide +kernel
theorem dX1_init_23 : decode cX1_init 23 = .ok (.return_, 1) := by decide +kernel
theorem dX1_take_0 : decode cX1_take 0 = .ok (.aload_n 0, 1) := by decide +kernel
theorem dX1_take_1 : decode cX1_take 1 = .ok (.bipush (-9), 2) := by decide +kernel
theorem dX1_take_3 : decode cX1_take 3 = .ok (.putfield 17, 3) := by decide +kernel
theorem dX1_take_6 : decode cX1_take 6 = .ok (.aload_n 0, 1) := by decide +kernel
theorem dX1_take_7 : decode cX1_take 7 = .ok (.iconst 0, 1) := by decide +kernel
theorem dX1_take_8 : decode cX1_take 8 = .ok (.putfield 21, 3) := by decide +kernel
theorem dX1_take_11 : decode cX1_take 11 = .ok (.iconst 0, 1) := by decide +kernel
theorem dX1_take_12 : decode cX1_take 12 = .ok (.istore_n 2, 1) := by decide +kernel
theorem dX1_take_13 : decode cX1_take 13 = .ok (.iconst (-1), 1) := by decide +kernel
theorem dX1_take_14 : decode cX1_take 14 = .ok (.istore_n 3, 1) := by decide +kernel
theorem dX1_take_15 : decode cX1_take 15 = .ok (.iconst 0, 1) := by decide +kernel
theorem dX1_take_16 : decode cX1_take 16 = .ok (.istore 4, 2) := by decide +kernel
theorem dX1_take_18 : decode cX1_take 18 = .ok (.iload 4, 2) := by decide +kernel
theorem dX1_take_20 : decode cX1_take 20 = .ok (.aload_n 1, 1) := by decide +kernel
theorem dX1_take_21 : decode cX1_take 21 = .ok (.getfield 24, 3) := by decide +kernel
theorem dX1_take_24 : decode cX1_take 24 = .ok (.if_icmp .ge 127, 3) := by decide +kernel
theorem dX1_take_27 : decode cX1_take 27 = .ok (.aload_n 1, 1) := by decide +kernel
theorem dX1_take_28 : decode cX1_take 28 = .ok (.iload_n 2, 1) := by decide +kernel
theorem dX1_take_29 : decode cX1_take 29 = .ok (.invokestatic 27, 3) := by decide +kernel
theorem dX1_take_32 : decode cX1_take 32 = .ok (.istore 5, 2) := by decide +kernel
theorem dX1_take_34 : decode cX1_take 34 = .ok (.iload 5, 2) := by decide +kernel
theorem dX1_take_36 : decode cX1_take 36 = .ok (.ifCond .ge 4, 3) := by decide +kernel
theorem dX1_take_39 : decode cX1_take 39 = .ok (.return_, 1) := by decide +kernel
theorem dX1_take_40 : decode cX1_take 40 = .ok (.iload_n 2, 1) := by decide +kernel
theorem dX1_take_41 : decode cX1_take 41 = .ok (.iconst 1, 1) := by decide +kernel
theorem dX1_take_42 : decode cX1_take 42 = .ok (.iload 5, 2) := by decide +kernel
theorem dX1_take_44 : decode cX1_take 44 = .ok (.ishl, 1) := by decide +kernel
theorem dX1_take_45 : decode cX1_take 45 = .ok (.ior, 1) := by decide +kernel
theorem dX1_take_46 : decode cX1_take 46 = .ok (.istore_n 2, 1) := by decide +kernel
theorem dX1_take_47 : decode cX1_take 47 = .ok (.aload_n 1, 1) := by decide +kernel
theorem dX1_take_48 : decode cX1_take 48 = .ok (.getfield 31, 3) := by decide +kernel
theorem dX1_take_51 : decode cX1_take 51 = .ok (.iload 5, 2) := by decide +kernel
theorem dX1_take_53 : decode cX1_take 53 = .ok (.iaload, 1) := by decide +kernel
theorem dX1_take_54 : decode cX1_take 54 = .ok (.iconst 2, 1) := by decide +kernel
theorem dX1_take_55 : decode cX1_take 55 = .ok (.iadd, 1) := by decide +kernel
theorem dX1_take_56 : decode cX1_take 56 = .ok (.istore 6, 2) := by decide +kernel
theorem dX1_take_58 : decode cX1_take 58 = .ok (.aload_n 0, 1) := by decide +kernel
theorem dX1_take_59 : decode cX1_take 59 = .ok (.getfield 11, 3) := by decide +kernel
theorem dX1_take_62 : decode cX1_take 62 = .ok (.iload 5, 2) := by decide +kernel
theorem dX1_take_64 : decode cX1_take 64 = .ok (.iload 6, 2) := by decide +kernel
theorem dX1_take_66 : decode cX1_take 66 = .ok (.aload_n 0, 1) := by decide +kernel
theorem dX1_take_67 : decode cX1_take 67 = .ok (.getfield 21, 3) := by decide +kernel
theorem dX1_take_70 : decode cX1_take 70 = .ok (.invokestatic 34, 3) := by decide +kernel
theorem dX1_take_73 : decode cX1_take 73 = .ok (.iastore, 1) := by decide +kernel
theorem dX1_take_74 : decode cX1_take 74 = .ok (.aload_n 0, 1) := by decide +kernel
theorem dX1_take_75 : decode cX1_take 75 = .ok (.aload_n 0, 1) := by decide +kernel
theorem dX1_take_76 : decode cX1_take 76 = .ok (.getfield 11, 3) := by decide +kernel
theorem dX1_take_79 : decode cX1_take 79 = .ok (.iload 5, 2) := by decide +kernel
theorem dX1_take_81 : decode cX1_take 81 = .ok (.iaload, 1) := by decide +kernel
theorem dX1_take_82 : decode cX1_take 82 = .ok (.aload_n 1, 1) := by decide +kernel
theorem dX1_take_83 : decode cX1_take 83 = .ok (.getfield 40, 3) := by decide +kernel
theorem dX1_take_86 : decode cX1_take 86 = .ok (.iload 5, 2) := by decide +kernel
theorem dX1_take_88 : decode cX1_take 88 = .ok (.iaload, 1) := by decide +kernel
theorem dX1_take_89 : decode cX1_take 89 = .ok (.aload_n 1, 1) := by decide +kernel
theorem dX1_take_90 : decode cX1_take 90 = .ok (.getfield 43, 3) := by decide +kernel
theorem dX1_take_93 : decode cX1_take 93 = .ok (.iload 5, 2) := by decide +kernel
theorem dX1_take_95 : decode cX1_take 95 = .ok (.iaload, 1) := by decide +kernel
theorem dX1_take_96 : decode cX1_take 96 = .ok (.invokestatic 46, 3) := by decide +kernel
theorem dX1_take_99 : decode cX1_take 99 = .ok (.iadd, 1) := by decide +kernel
theorem dX1_take_100 : decode cX1_take 100 = .ok (.putfield 21, 3) := by decide +kernel
theorem dX1_take_103 : decode cX1_take 103 = .ok (.aload_n 0, 1) := by decide +kernel
theorem dX1_take_104 : decode cX1_take 104 = .ok (.getfield 11, 3) := by decide +kernel
theorem dX1_take_107 : decode cX1_take 107 = .ok (.iload 5, 2) := by decide +kernel
theorem dX1_take_109 : decode cX1_take 109 = .ok (.iaload, 1) := by decide +kernel
theorem dX1_take_110 : decode cX1_take 110 = .ok (.iload 6, 2) := by decide +kernel
theorem dX1_take_112 : decode cX1_take 112 = .ok (.isub, 1) := by decide +kernel
theorem dX1_take_113 : decode cX1_take 113 = .ok (.istore 7, 2) := by decide +kernel
theorem dX1_take_115 : decode cX1_take 115 = .ok (.iload 7, 2) := by decide +kernel
theorem dX1_take_117 : decode cX1_take 117 = .ok (.iload_n 3, 1) := by decide +kernel
theorem dX1_take_118 : decode cX1_take 118 = .ok (.if_icmp .gt 18, 3) := by decide +kernel
theorem dX1_take_121 : decode cX1_take 121 = .ok (.iload 7, 2) := by decide +kernel
theorem dX1_take_123 : decode cX1_take 123 = .ok (.iload_n 3, 1) := by decide +kernel
theorem dX1_take_124 : decode cX1_take 124 = .ok (.if_icmp .ne 21, 3) := by decide +kernel
theorem dX1_take_127 : decode cX1_take 127 = .ok (.iload 5, 2) := by decide +kernel
theorem dX1_take_129 : decode cX1_take 129 = .ok (.aload_n 0, 1) := by decide +kernel
theorem dX1_take_130 : decode cX1_take 130 = .ok (.getfield 17, 3) := by decide +kernel
theorem dX1_take_133 : decode cX1_take 133 = .ok (.if_icmp .ge 12, 3) := by decide +kernel
theorem dX1_take_136 : decode cX1_take 136 = .ok (.iload 7, 2) := by decide +kernel
theorem dX1_take_138 : decode cX1_take 138 = .ok (.istore_n 3, 1) := by decide +kernel
theorem dX1_take_139 : decode cX1_take 139 = .ok (.aload_n 0, 1) := by decide +kernel
theorem dX1_take_140 : decode cX1_take 140 = .ok (.iload 5, 2) := by decide +kernel
theorem dX1_take_142 : decode cX1_take 142 = .ok (.putfield 17, 3) := by decide +kernel
theorem dX1_take_145 : decode cX1_take 145 = .ok (.iinc 4 1, 3) := by decide +kernel
theorem dX1_take_148 : decode cX1_take 148 = .ok (.goto (-130), 3) := by decide +kernel
theorem dX1_take_151 : decode cX1_take 151 = .ok (.return_, 1) := by decide +kernel
theorem dX1_next_0 : decode cX1_next 0 = .ok (.iconst (-1), 1) := by decide +kernel
theorem dX1_next_1 : decode cX1_next 1 = .ok (.istore_n 2, 1) := by decide +kernel
theorem dX1_next_2 : decode cX1_next 2 = .ok (.iconst 0, 1) := by decide +kernel
theorem dX1_next_3 : decode cX1_next 3 = .ok (.istore_n 3, 1) := by decide +kernel
theorem dX1_next_4 : decode cX1_next 4 = .ok (.iload_n 3, 1) := by decide +kernel
theorem dX1_next_5 : decode cX1_next 5 = .ok (.aload_n 0, 1) := by decide +kernel
theorem dX1_next_6 : decode cX1_next 6 = .ok (.getfield 24, 3) := by decide +kernel
theorem dX1_next_9 : decode cX1_next 9 = .ok (.if_icmp .ge 38, 3) := by decide +kernel
theorem dX1_next_12 : decode cX1_next 12 = .ok (.iload_n 1, 1) := by decide +kernel
theorem dX1_next_13 : decode cX1_next 13 = .ok (.iload_n 3, 1) := by decide +kernel
theorem dX1_next_14 : decode cX1_next 14 = .ok (.ishr, 1) := by decide +kernel
theorem dX1_next_15 : decode cX1_next 15 = .ok (.iconst 1, 1) := by decide +kernel
theorem dX1_next_16 : decode cX1_next 16 = .ok (.iand, 1) := by decide +kernel
theorem dX1_next_17 : decode cX1_next 17 = .ok (.ifCond .ne 24, 3) := by decide +kernel
theorem dX1_next_20 : decode cX1_next 20 = .ok (.iload_n 2, 1) := by decide +kernel
theorem dX1_next_21 : decode cX1_next 21 = .ok (.ifCond .lt 18, 3) := by decide +kernel
theorem dX1_next_24 : decode cX1_next 24 = .ok (.aload_n 0, 1) := by decide +kernel
theorem dX1_next_25 : decode cX1_next 25 = .ok (.getfield 31, 3) := by decide +kernel
theorem dX1_next_28 : decode cX1_next 28 = .ok (.iload_n 3, 1) := by decide +kernel
theorem dX1_next_29 : decode cX1_next 29 = .ok (.iaload, 1) := by decide +kernel
theorem dX1_next_30 : decode cX1_next 30 = .ok (.aload_n 0, 1) := by decide +kernel
theorem dX1_next_31 : decode cX1_next 31 = .ok (.getfield 31, 3) := by decide +kernel
theorem dX1_next_34 : decode cX1_next 34 = .ok (.iload_n 2, 1) := by decide +kernel
theorem dX1_next_35 : decode cX1_next 35 = .ok (.iaload, 1) := by decide +kernel
theorem dX1_next_36 : decode cX1_next 36 = .ok (.if_icmp .ge 5, 3) := by decide +kernel
theorem dX1_next_39 : decode cX1_next 39 = .ok (.iload_n 3, 1) := by decide +kernel
theorem dX1_next_40 : decode cX1_next 40 = .ok (.istore_n 2, 1) := by decide +kernel
theorem dX1_next_41 : decode cX1_next 41 = .ok (.iinc 3 1, 3) := by decide +kernel
theorem dX1_next_44 : decode cX1_next 44 = .ok (.goto (-40), 3) := by decide +kernel
theorem dX1_next_47 : decode cX1_next 47 = .ok (.iload_n 2, 1) := by decide +kernel
theorem dX1_next_48 : decode cX1_next 48 = .ok (.ireturn, 1) := by decide +kernel
theorem dX2_init_0 : decode cX2_init 0 = .ok (.aload_n 0, 1) := by decide +kernel
theorem dX2_init_1 : decode cX2_init 1 = .ok (.invokespecial 3, 3) := by decide +kernel
theorem dX2_init_4 : decode cX2_init 4 = .ok (.aload_n 0, 1) := by decide +kernel
theorem dX2_init_5 : decode cX2_init 5 = .ok (.iconst 0, 1) := by decide +kernel
theorem dX2_init_6 : decode cX2_init 6 = .ok (.putfield 9, 3) := by decide +kernel
theorem dX2_init_9 : decode cX2_init 9 = .ok (.aload_n 0, 1) := by decide +kernel
theorem dX2_init_10 : decode cX2_init 10 = .ok (.bipush 7, 2) := by decide +kernel
theorem dX2_init_12 : decode cX2_init 12 = .ok (.newarray .int, 2) := by decide +kernel
theorem dX2_init_14 : decode cX2_init 14 = .ok (.putfield 15, 3) := by decide +kernel
theorem dX2_init_17 : decode cX2_init 17 = .ok (.aload_n 0, 1) := by decide +kernel
theorem dX2_init_18 : decode cX2_init 18 = .ok (.bipush 7, 2) := by decide +kernel
theorem dX2_init_20 : decode cX2_init 20 = .ok (.newarray .int, 2) := by decide +kernel
theorem dX2_init_22 : decode cX2_init 22 = .ok (.putfield 19, 3) := by decide +kernel
theorem dX2_init_25 : decode cX2_init 25 = .ok (.aload_n 0, 1) := by decide +kernel
theorem dX2_init_26 : decode cX2_init 26 = .ok (.bipush 7, 2) := by decide +kernel
theorem dX2_init_28 : decode cX2_init 28 = .ok (.newarray .int, 2) := by decide +kernel
theorem dX2_init_30 : decode cX2_init 30 = .ok (.putfield 22, 3) := by decide +kernel
theorem dX2_init_33 : decode cX2_init 33 = .ok (.aload_n 0, 1) := by decide +kernel
theorem dX2_init_34 : decode cX2_init 34 = .ok (.iconst 0, 1) := by decide +kernel
theorem dX2_init_35 : decode cX2_init 35 = .ok (.putfield 25, 3) := by decide +kernel
theorem dX2_init_38 : decode cX2_init 38 = .ok (.aload_n 0, 1) := by decide +kernel
theorem dX2_init_39 : decode cX2_init 39 = .ok (.bipush 7, 2) := by decide +kernel
theorem dX2_init_41 : decode cX2_init 41 = .ok (.newarray .int, 2) := by decide +kernel
theorem dX2_init_43 : decode cX2_init 43 = .ok (.putfield 28, 3) := by decide +kernel
theorem dX2_init_46 : decode cX2_init 46 = .ok (.aload_n 0, 1) := by decide +kernel
theorem dX2_init_47 : decode cX2_init 47 = .ok (.bipush 7, 2) := by decide +kernel
theorem dX2_init_49 : decode cX2_init 49 = .ok (.newarray .int, 2) := by decide +kernel
theorem dX2_init_51 : decode cX2_init 51 = .ok (.putfield 31, 3) := by decide +kernel
theorem dX2_init_54 : decode cX2_init 54 = .ok (.aload_n 0, 1) := by decide +kernel
theorem dX2_init_55 : decode cX2_init 55 = .ok (.bipush 7, 2) := by decide +kernel
theorem dX2_init_57 : decode cX2_init 57 = .ok (.newarray .int, 2) := by decide +kernel
theorem dX2_init_59 : decode cX2_init 59 = .ok (.putfield 34, 3) := by decide +kernel
theorem dX2_init_62 : decode cX2_init 62 = .ok (.aload_n 0, 1) := by decide +kernel
theorem dX2_init_63 : decode cX2_init 63 = .ok (.iconst 0, 1) := by decide +kernel
theorem dX2_init_64 : decode cX2_init 64 = .ok (.putfield 37, 3) := by decide +kernel
theorem dX2_init_67 : decode cX2_init 67 = .ok (.aload_n 0, 1) := by decide +kernel
theorem dX2_init_68 : decode cX2_init 68 = .ok (.bipush 7, 2) := by decide +kernel
theorem dX2_init_70 : decode cX2_init 70 = .ok (.newarray .int, 2) := by decide +kernel
theorem dX2_init_72 : decode cX2_init 72 = .ok (.putfield 40, 3) := by decide +kernel
theorem dX2_init_75 : decode cX2_init 75 = .ok (.aload_n 0, 1) := by decide +kernel
theorem dX2_init_76 : decode cX2_init 76 = .ok (.iconst 1, 1) := by decide +kernel
theorem dX2_init_77 : decode cX2_init 77 = .ok (.putfield 43, 3) := by decide +kernel
theorem dX2_init_80 : decode cX2_init 80 = .ok (.aload_n 0, 1) := by decide +kernel
theorem dX2_init_81 : decode cX2_init 81 = .ok (.iconst 2, 1) := by decide +kernel
theorem dX2_init_82 : decode cX2_init 82 = .ok (.newarray .int, 2) := by decide +kernel
theorem dX2_init_84 : decode cX2_init 84 = .ok (.putfield 46, 3) := by decide +kernel
theorem dX2_init_87 : decode cX2_init 87 = .ok (.aload_n 0, 1) := by decide +kernel
theorem dX2_init_88 : decode cX2_init 88 = .ok (.iconst 0, 1) := by decide +kernel
theorem dX2_init_89 : decode cX2_init 89 = .ok (.putfield 49, 3) := by decide +kernel
theorem dX2_init_92 : decode cX2_init 92 = .ok (.aload_n 0, 1) := by decide +kernel
theorem dX2_init_93 : decode cX2_init 93 = .ok (.iconst 0, 1) := by decide +kernel
theorem dX2_init_94 : decode cX2_init 94 = .ok (.putfield 52, 3) := by decide +kernel
theorem dX2_init_97 : decode cX2_init 97 = .ok (.return_, 1) := by decide +kernel
theorem dX2_become_0 : decode cX2_become 0 = .ok (.aload_n 0, 1) := by decide +kernel
theorem dX2_become_1 : decode cX2_become 1 = .ok (.aload_n 1, 1) := by decide +kernel
theorem dX2_become_2 : decode cX2_become 2 = .ok (.getfield 9, 3) := by decide +kernel
theorem dX2_become_5 : decode cX2_become 5 = .ok (.putfield 9, 3) := by decide +kernel
theorem dX2_become_8 : decode cX2_become 8 = .ok (.aload_n 1, 1) := by decide +kernel
theorem dX2_become_9 : decode cX2_become 9 = .ok (.getfield 15, 3) := by decide +kernel
theorem dX2_become_12 : decode cX2_become 12 = .ok (.iconst 0, 1) := by decide +kernel
theorem dX2_become_13 : decode cX2_become 13 = .ok (.aload_n 0, 1) := by decide +kernel
theorem dX2_become_14 : decode cX2_become 14 = .ok (.getfield 15, 3) := by decide +kernel
theorem dX2_become_17 : decode cX2_become 17 = .ok (.iconst 0, 1) := by decide +kernel
theorem dX2_become_18 : decode cX2_become 18 = .ok (.bipush 7, 2) := by decide +kernel
theorem dX2_become_20 : decode cX2_become 20 = .ok (.invokestatic 55, 3) := by decide +kernel
theorem dX2_become_23 : decode cX2_become 23 = .ok (.aload_n 1, 1) := by decide +kernel
theorem dX2_become_24 : decode cX2_become 24 = .ok (.getfield 19, 3) := by decide +kernel
theorem dX2_become_27 : decode cX2_become 27 = .ok (.iconst 0, 1) := by decide +kernel
theorem dX2_become_28 : decode cX2_become 28 = .ok (.aload_n 0, 1) := by decide +kernel
theorem dX2_become_29 : decode cX2_become 29 = .ok (.getfield 19, 3) := by decide +kernel
theorem dX2_become_32 : decode cX2_become 32 = .ok (.iconst 0, 1) := by decide +kernel
theorem dX2_become_33 : decode cX2_become 33 = .ok (.bipush 7, 2) := by decide +kernel
theorem dX2_become_35 : decode cX2_become 35 = .ok (.invokestatic 55, 3) := by decide +kernel
theorem dX2_become_38 : decode cX2_become 38 = .ok (.aload_n 1, 1) := by decide +kernel
theorem dX2_become_39 : decode cX2_become 39 = .ok (.getfield 22, 3) := by decide +kernel
theorem dX2_become_42 : decode cX2_become 42 = .ok (.iconst 0, 1) := by decide +kernel
theorem dX2_become_43 : decode cX2_become 43 = .ok (.aload_n 0, 1) := by decide +kernel
theorem dX2_become_44 : decode cX2_become 44 = .ok (.getfield 22, 3) := by decide +kernel
theorem dX2_become_47 : decode cX2_become 47 = .ok (.iconst 0, 1) := by decide +kernel
theorem dX2_become_48 : decode cX2_become 48 = .ok (.bipush 7, 2) := by decide +kernel
theorem dX2_become_50 : decode cX2_become 50 = .ok (.invokestatic 55, 3) := by decide +kernel
theorem dX2_become_53 : decode cX2_become 53 = .ok (.aload_n 0, 1) := by decide +kernel
theorem dX2_become_54 : decode cX2_become 54 = .ok (.aload_n 1, 1) := by decide +kernel
theorem dX2_become_55 : decode cX2_become 55 = .ok (.getfield 25, 3) := by decide +kernel
theorem dX2_become_58 : decode cX2_become 58 = .ok (.putfield 25, 3) := by decide +kernel
theorem dX2_become_61 : decode cX2_become 61 = .ok (.aload_n 1, 1) := by decide +kernel
theorem dX2_become_62 : decode cX2_become 62 = .ok (.getfield 28, 3) := by decide +kernel
theorem dX2_become_65 : decode cX2_become 65 = .ok (.iconst 0, 1) := by decide +kernel
theorem dX2_become_66 : decode cX2_become 66 = .ok (.aload_n 0, 1) := by decide +kernel
theorem dX2_become_67 : decode cX2_become 67 = .ok (.getfield 28, 3) := by decide +kernel
theorem dX2_become_70 : decode cX2_become 70 = .ok (.iconst 0, 1) := by decide +kernel
theorem dX2_become_71 : decode cX2_become 71 = .ok (.bipush 7, 2) := by decide +kernel
theorem dX2_become_73 : decode cX2_become 73 = .ok (.invokestatic 55, 3) := by decide +kernel
theorem dX2_become_76 : decode cX2_become 76 = .ok (.aload_n 1, 1) := by decide +kernel
theorem dX2_become_77 : decode cX2_become 77 = .ok (.getfield 31, 3) := by decide +kernel
theorem dX2_become_80 : decode cX2_become 80 = .ok (.iconst 0, 1) := by decide +kernel
theorem dX2_become_81 : decode cX2_become 81 = .ok (.aload_n 0, 1) := by decide +kernel
theorem dX2_become_82 : decode cX2_become 82 = .ok (.getfield 31, 3) := by decide +kernel
theorem dX2_become_85 : decode cX2_become 85 = .ok (.iconst 0, 1) := by decide +kernel
theorem dX2_become_86 : decode cX2_become 86 = .ok (.bipush 7, 2) := by decide +kernel
theorem dX2_become_88 : decode cX2_become 88 = .ok (.invokestatic 55, 3) := by decide +kernel
theorem dX2_become_91 : decode cX2_become 91 = .ok (.aload_n 1, 1) := by decide +kernel
theorem dX2_become_92 : decode cX2_become 92 = .ok (.getfield 34, 3) := by decide +kernel
theorem dX2_become_95 : decode cX2_become 95 = .ok (.iconst 0, 1) := by decide +kernel
theorem dX2_become_96 : decode cX2_become 96 = .ok (.aload_n 0, 1) := by decide +kernel
theorem dX2_become_97 : decode cX2_become 97 = .ok (.getfield 34, 3) := by decide +kernel
theorem dX2_become_100 : decode cX2_become 100 = .ok (.iconst 0, 1) := by decide +kernel
theorem dX2_become_101 : decode cX2_become 101 = .ok (.bipush 7, 2) := by decide +kernel
theorem dX2_become_103 : decode cX2_become 103 = .ok (.invokestatic 55, 3) := by decide +kernel
theorem dX2_become_106 : decode cX2_become 106 = .ok (.aload_n 0, 1) := by decide +kernel
theorem dX2_become_107 : decode cX2_become 107 = .ok (.aload_n 1, 1) := by decide +kernel
theorem dX2_become_108 : decode cX2_become 108 = .ok (.getfield 37, 3) := by decide +kernel
theorem dX2_become_111 : decode cX2_become 111 = .ok (.putfield 37, 3) := by decide +kernel
theorem dX2_become_114 : decode cX2_become 114 = .ok (.aload_n 1, 1) := by decide +kernel
theorem dX2_become_115 : decode cX2_become 115 = .ok (.getfield 40, 3) := by decide +kernel
theorem dX2_become_118 : decode cX2_become 118 = .ok (.iconst 0, 1) := by decide +kernel
theorem dX2_become_119 : decode cX2_become 119 = .ok (.aload_n 0, 1) := by decide +kernel
theorem dX2_become_120 : decode cX2_become 120 = .ok (.getfield 40, 3) := by decide +kernel
theorem dX2_become_123 : decode cX2_become 123 = .ok (.iconst 0, 1) := by decide +kernel
theorem dX2_become_124 : decode cX2_become 124 = .ok (.bipush 7, 2) := by decide +kernel
theorem dX2_become_126 : decode cX2_become 126 = .ok (.invokestatic 55, 3) := by decide +kernel
theorem dX2_become_129 : decode cX2_become 129 = .ok (.aload_n 0, 1) := by decide +kernel
theorem dX2_become_130 : decode cX2_become 130 = .ok (.aload_n 1, 1) := by decide +kernel
theorem dX2_become_131 : decode cX2_become 131 = .ok (.getfield 43, 3) := by decide +kernel
theorem dX2_become_134 : decode cX2_become 134 = .ok (.putfield 43, 3) := by decide +kernel
theorem dX2_become_137 : decode cX2_become 137 = .ok (.aload_n 1, 1) := by decide +kernel
theorem dX2_become_138 : decode cX2_become 138 = .ok (.getfield 46, 3) := by decide +kernel
theorem dX2_become_141 : decode cX2_become 141 = .ok (.iconst 0, 1) := by decide +kernel
theorem dX2_become_142 : decode cX2_become 142 = .ok (.aload_n 0, 1) := by decide +kernel
theorem dX2_become_143 : decode cX2_become 143 = .ok (.getfield 46, 3) := by decide +kernel
theorem dX2_become_146 : decode cX2_become 146 = .ok (.iconst 0, 1) := by decide +kernel
theorem dX2_become_147 : decode cX2_become 147 = .ok (.iconst 2, 1) := by decide +kernel
theorem dX2_become_148 : decode cX2_become 148 = .ok (.invokestatic 55, 3) := by decide +kernel
theorem dX2_become_151 : decode cX2_become 151 = .ok (.aload_n 0, 1) := by decide +kernel
theorem dX2_become_152 : decode cX2_become 152 = .ok (.aload_n 1, 1) := by decide +kernel
theorem dX2_become_153 : decode cX2_become 153 = .ok (.getfield 49, 3) := by decide +kernel
theorem dX2_become_156 : decode cX2_become 156 = .ok (.putfield 49, 3) := by decide +kernel
theorem dX2_become_159 : decode cX2_become 159 = .ok (.aload_n 0, 1) := by decide +kernel
theorem dX2_become_160 : decode cX2_become 160 = .ok (.aload_n 1, 1) := by decide +kernel
theorem dX2_become_161 : decode cX2_become 161 = .ok (.getfield 52, 3) := by decide +kernel
theorem dX2_become_164 : decode cX2_become 164 = .ok (.putfield 52, 3) := by decide +kernel
theorem dX2_become_167 : decode cX2_become 167 = .ok (.return_, 1) := by decide +kernel
theorem dX2_has_0 : decode cX2_has 0 = .ok (.iload_n 1, 1) := by decide +kernel
theorem dX2_has_1 : decode cX2_has 1 = .ok (.ifCond .lt 15, 3) := by decide +kernel
theorem dX2_has_4 : decode cX2_has 4 = .ok (.iload_n 1, 1) := by decide +kernel
theorem dX2_has_5 : decode cX2_has 5 = .ok (.aload_n 0, 1) := by decide +kernel
theorem dX2_has_6 : decode cX2_has 6 = .ok (.getfield 9, 3) := by decide +kernel
theorem dX2_has_9 : decode cX2_has 9 = .ok (.if_icmp .ge 7, 3) := by decide +kernel
theorem dX2_has_12 : decode cX2_has 12 = .ok (.iconst 1, 1) := by decide +kernel
theorem dX2_has_13 : decode cX2_has 13 = .ok (.goto 4, 3) := by decide +kernel
theorem dX2_has_16 : decode cX2_has 16 = .ok (.iconst 0, 1) := by decide +kernel
theorem dX2_has_17 : decode cX2_has 17 = .ok (.ireturn, 1) := by decide +kernel
theorem dX2_isFull_0 : decode cX2_isFull 0 = .ok (.aload_n 0, 1) := by decide +kernel
theorem dX2_isFull_1 : decode cX2_isFull 1 = .ok (.getfield 9, 3) := by decide +kernel
theorem dX2_isFull_4 : decode cX2_isFull 4 = .ok (.bipush 7, 2) := by decide +kernel
theorem dX2_isFull_6 : decode cX2_isFull 6 = .ok (.if_icmp .lt 7, 3) := by decide +kernel
theorem dX2_isFull_9 : decode cX2_isFull 9 = .ok (.iconst 1, 1) := by decide +kernel
theorem dX2_isFull_10 : decode cX2_isFull 10 = .ok (.goto 4, 3) := by decide +kernel
theorem dX2_isFull_13 : decode cX2_isFull 13 = .ok (.iconst 0, 1) := by decide +kernel
theorem dX2_isFull_14 : decode cX2_isFull 14 = .ok (.ireturn, 1) := by decide +kernel
theorem dX2_isWed_0 : decode cX2_isWed 0 = .ok (.aload_n 0, 1) := by decide +kernel
theorem dX2_isWed_1 : decode cX2_isWed 1 = .ok (.getfield 25, 3) := by decide +kernel
theorem dX2_isWed_4 : decode cX2_isWed 4 = .ok (.iload_n 1, 1) := by decide +kernel
theorem dX2_isWed_5 : decode cX2_isWed 5 = .ok (.ishr, 1) := by decide +kernel
theorem dX2_isWed_6 : decode cX2_isWed 6 = .ok (.iconst 1, 1) := by decide +kernel
theorem dX2_isWed_7 : decode cX2_isWed 7 = .ok (.iand, 1) := by decide +kernel
theorem dX2_isWed_8 : decode cX2_isWed 8 = .ok (.iconst 1, 1) := by decide +kernel
theorem dX2_isWed_9 : decode cX2_isWed 9 = .ok (.if_icmp .ne 7, 3) := by decide +kernel
theorem dX2_isWed_12 : decode cX2_isWed 12 = .ok (.iconst 1, 1) := by decide +kernel
theorem dX2_isWed_13 : decode cX2_isWed 13 = .ok (.goto 4, 3) := by decide +kernel
theorem dX2_isWed_16 : decode cX2_isWed 16 = .ok (.iconst 0, 1) := by decide +kernel
theorem dX2_isWed_17 : decode cX2_isWed 17 = .ok (.ireturn, 1) := by decide +kernel
theorem dX2_lastsOf_0 : decode cX2_lastsOf 0 = .ok (.aload_n 0, 1) := by decide +kernel
theorem dX2_lastsOf_1 : decode cX2_lastsOf 1 = .ok (.getfield 15, 3) := by decide +kernel
theorem dX2_lastsOf_4 : decode cX2_lastsOf 4 = .ok (.iload_n 1, 1) := by decide +kernel
theorem dX2_lastsOf_5 : decode cX2_lastsOf 5 = .ok (.iaload, 1) := by decide +kernel
theorem dX2_lastsOf_6 : decode cX2_lastsOf 6 = .ok (.aload_n 0, 1) := by decide +kernel
theorem dX2_lastsOf_7 : decode cX2_lastsOf 7 = .ok (.getfield 19, 3) := by decide +kernel
theorem dX2_lastsOf_10 : decode cX2_lastsOf 10 = .ok (.iload_n 1, 1) := by decide +kernel
theorem dX2_lastsOf_11 : decode cX2_lastsOf 11 = .ok (.iaload, 1) := by decide +kernel
theorem dX2_lastsOf_12 : decode cX2_lastsOf 12 = .ok (.invokestatic 61, 3) := by decide +kernel
theorem dX2_lastsOf_15 : decode cX2_lastsOf 15 = .ok (.ireturn, 1) := by decide +kernel
theorem dX2_readyOf_0 : decode cX2_readyOf 0 = .ok (.aload_n 0, 1) := by decide +kernel
theorem dX2_readyOf_1 : decode cX2_readyOf 1 = .ok (.getfield 15, 3) := by decide +kernel
theorem dX2_readyOf_4 : decode cX2_readyOf 4 = .ok (.iload_n 1, 1) := by decide +kernel
theorem dX2_readyOf_5 : decode cX2_readyOf 5 = .ok (.iaload, 1) := by decide +kernel
theorem dX2_readyOf_6 : decode cX2_readyOf 6 = .ok (.aload_n 0, 1) := by decide +kernel
theorem dX2_readyOf_7 : decode cX2_readyOf 7 = .ok (.getfield 19, 3) := by decide +kernel
theorem dX2_readyOf_10 : decode cX2_readyOf 10 = .ok (.iload_n 1, 1) := by decide +kernel
theorem dX2_readyOf_11 : decode cX2_readyOf 11 = .ok (.iaload, 1) := by decide +kernel
theorem dX2_readyOf_12 : decode cX2_readyOf 12 = .ok (.aload_n 0, 1) := by decide +kernel
theorem dX2_readyOf_13 : decode cX2_readyOf 13 = .ok (.getfield 22, 3) := by decide +kernel
theorem dX2_readyOf_16 : decode cX2_readyOf 16 = .ok (.iload_n 1, 1) := by decide +kernel
theorem dX2_readyOf_17 : decode cX2_readyOf 17 = .ok (.iaload, 1) := by decide +kernel
theorem dX2_readyOf_18 : decode cX2_readyOf 18 = .ok (.invokestatic 67, 3) := by decide +kernel
theorem dX2_readyOf_21 : decode cX2_readyOf 21 = .ok (.ireturn, 1) := by decide +kernel
theorem dX2_guestsOf_0 : decode cX2_guestsOf 0 = .ok (.aload_n 0, 1) := by decide +kernel
theorem dX2_guestsOf_1 : decode cX2_guestsOf 1 = .ok (.getfield 15, 3) := by decide +kernel
theorem dX2_guestsOf_4 : decode cX2_guestsOf 4 = .ok (.iload_n 1, 1) := by decide +kernel
theorem dX2_guestsOf_5 : decode cX2_guestsOf 5 = .ok (.iaload, 1) := by decide +kernel
theorem dX2_guestsOf_6 : decode cX2_guestsOf 6 = .ok (.aload_n 0, 1) := by decide +kernel
theorem dX2_guestsOf_7 : decode cX2_guestsOf 7 = .ok (.getfield 19, 3) := by decide +kernel
theorem dX2_guestsOf_10 : decode cX2_guestsOf 10 = .ok (.iload_n 1, 1) := by decide +kernel
theorem dX2_guestsOf_11 : decode cX2_guestsOf 11 = .ok (.iaload, 1) := by decide +kernel
theorem dX2_guestsOf_12 : decode cX2_guestsOf 12 = .ok (.invokestatic 71, 3) := by decide +kernel
theorem dX2_guestsOf_15 : decode cX2_guestsOf 15 = .ok (.ireturn, 1) := by decide +kernel
theorem dX2_add_0 : decode cX2_add 0 = .ok (.aload_n 0, 1) := by decide +kernel
theorem dX2_add_1 : decode cX2_add 1 = .ok (.invokevirtual 74, 3) := by decide +kernel
theorem dX2_add_4 : decode cX2_add 4 = .ok (.ifCond .ne 12, 3) := by decide +kernel
theorem dX2_add_7 : decode cX2_add 7 = .ok (.aload_n 0, 1) := by decide +kernel
theorem dX2_add_8 : decode cX2_add 8 = .ok (.getfield 37, 3) := by decide +kernel
theorem dX2_add_11 : decode cX2_add 11 = .ok (.bipush 7, 2) := by decide +kernel
theorem dX2_add_13 : decode cX2_add 13 = .ok (.if_icmp .lt 4, 3) := by decide +kernel
theorem dX2_add_16 : decode cX2_add 16 = .ok (.return_, 1) := by decide +kernel
theorem dX2_add_17 : decode cX2_add 17 = .ok (.aload_n 0, 1) := by decide +kernel
theorem dX2_add_18 : decode cX2_add 18 = .ok (.getfield 15, 3) := by decide +kernel
theorem dX2_add_21 : decode cX2_add 21 = .ok (.aload_n 0, 1) := by decide +kernel
theorem dX2_add_22 : decode cX2_add 22 = .ok (.getfield 9, 3) := by decide +kernel
theorem dX2_add_25 : decode cX2_add 25 = .ok (.iload_n 1, 1) := by decide +kernel
theorem dX2_add_26 : decode cX2_add 26 = .ok (.iastore, 1) := by decide +kernel
theorem dX2_add_27 : decode cX2_add 27 = .ok (.aload_n 0, 1) := by decide +kernel
theorem dX2_add_28 : decode cX2_add 28 = .ok (.getfield 19, 3) := by decide +kernel
theorem dX2_add_31 : decode cX2_add 31 = .ok (.aload_n 0, 1) := by decide +kernel
theorem dX2_add_32 : decode cX2_add 32 = .ok (.getfield 9, 3) := by decide +kernel
theorem dX2_add_35 : decode cX2_add 35 = .ok (.iload_n 2, 1) := by decide +kernel
theorem dX2_add_36 : decode cX2_add 36 = .ok (.iastore, 1) := by decide +kernel
theorem dX2_add_37 : decode cX2_add 37 = .ok (.aload_n 0, 1) := by decide +kernel
theorem dX2_add_38 : decode cX2_add 38 = .ok (.getfield 22, 3) := by decide +kernel
theorem dX2_add_41 : decode cX2_add 41 = .ok (.aload_n 0, 1) := by decide +kernel
theorem dX2_add_42 : decode cX2_add 42 = .ok (.getfield 9, 3) := by decide +kernel
theorem dX2_add_45 : decode cX2_add 45 = .ok (.iload_n 3, 1) := by decide +kernel
theorem dX2_add_46 : decode cX2_add 46 = .ok (.iastore, 1) := by decide +kernel
theorem dX2_add_47 : decode cX2_add 47 = .ok (.aload_n 0, 1) := by decide +kernel
theorem dX2_add_48 : decode cX2_add 48 = .ok (.getfield 40, 3) := by decide +kernel
theorem dX2_add_51 : decode cX2_add 51 = .ok (.aload_n 0, 1) := by decide +kernel
theorem dX2_add_52 : decode cX2_add 52 = .ok (.getfield 37, 3) := by decide +kernel
theorem dX2_add_55 : decode cX2_add 55 = .ok (.aload_n 0, 1) := by decide +kernel
theorem dX2_add_56 : decode cX2_add 56 = .ok (.getfield 9, 3) := by decide +kernel
theorem dX2_add_59 : decode cX2_add 59 = .ok (.iastore, 1) := by decide +kernel
theorem dX2_add_60 : decode cX2_add 60 = .ok (.aload_n 0, 1) := by decide +kernel
theorem dX2_add_61 : decode cX2_add 61 = .ok (.dup, 1) := by decide +kernel
theorem dX2_add_62 : decode cX2_add 62 = .ok (.getfield 37, 3) := by decide +kernel
theorem dX2_add_65 : decode cX2_add 65 = .ok (.iconst 1, 1) := by decide +kernel
theorem dX2_add_66 : decode cX2_add 66 = .ok (.iadd, 1) := by decide +kernel
theorem dX2_add_67 : decode cX2_add 67 = .ok (.putfield 37, 3) := by decide +kernel
theorem dX2_add_70 : decode cX2_add 70 = .ok (.aload_n 0, 1) := by decide +kernel
theorem dX2_add_71 : decode cX2_add 71 = .ok (.dup, 1) := by decide +kernel
theorem dX2_add_72 : decode cX2_add 72 = .ok (.getfield 9, 3) := by decide +kernel
theorem dX2_add_75 : decode cX2_add 75 = .ok (.iconst 1, 1) := by decide +kernel
theorem dX2_add_76 : decode cX2_add 76 = .ok (.iadd, 1) := by decide +kernel
theorem dX2_add_77 : decode cX2_add 77 = .ok (.putfield 9, 3) := by decide +kernel
theorem dX2_add_80 : decode cX2_add 80 = .ok (.return_, 1) := by decide +kernel
theorem dX2_openRooms_0 : decode cX2_openRooms 0 = .ok (.iload_n 1, 1) := by decide +kernel
theorem dX2_openRooms_1 : decode cX2_openRooms 1 = .ok (.iconst 2, 1) := by decide +kernel
theorem dX2_openRooms_2 : decode cX2_openRooms 2 = .ok (.if_icmp .ne 23, 3) := by decide +kernel
theorem dX2_openRooms_5 : decode cX2_openRooms 5 = .ok (.aload_n 0, 1) := by decide +kernel
theorem dX2_openRooms_6 : decode cX2_openRooms 6 = .ok (.getfield 43, 3) := by decide +kernel
theorem dX2_openRooms_9 : decode cX2_openRooms 9 = .ok (.iconst 2, 1) := by decide +kernel
theorem dX2_openRooms_10 : decode cX2_openRooms 10 = .ok (.if_icmp .ge 15, 3) := by decide +kernel
theorem dX2_openRooms_13 : decode cX2_openRooms 13 = .ok (.aload_n 0, 1) := by decide +kernel
theorem dX2_openRooms_14 : decode cX2_openRooms 14 = .ok (.getfield 46, 3) := by decide +kernel
theorem dX2_openRooms_17 : decode cX2_openRooms 17 = .ok (.iconst 1, 1) := by decide +kernel
theorem dX2_openRooms_18 : decode cX2_openRooms 18 = .ok (.aload_n 0, 1) := by decide +kernel
theorem dX2_openRooms_19 : decode cX2_openRooms 19 = .ok (.getfield 46, 3) := by decide +kernel
theorem dX2_openRooms_22 : decode cX2_openRooms 22 = .ok (.iconst 0, 1) := by decide +kernel
theorem dX2_openRooms_23 : decode cX2_openRooms 23 = .ok (.iaload, 1) := by decide +kernel
theorem dX2_openRooms_24 : decode cX2_openRooms 24 = .ok (.iastore, 1) := by decide +kernel
theorem dX2_openRooms_25 : decode cX2_openRooms 25 = .ok (.aload_n 0, 1) := by decide +kernel
theorem dX2_openRooms_26 : decode cX2_openRooms 26 = .ok (.iload_n 1, 1) := by decide +kernel
theorem dX2_openRooms_27 : decode cX2_openRooms 27 = .ok (.putfield 43, 3) := by decide +kernel
theorem dX2_openRooms_30 : decode cX2_openRooms 30 = .ok (.return_, 1) := by decide +kernel
theorem dX2_placeOf_0 : decode cX2_placeOf 0 = .ok (.iconst 0, 1) := by decide +kernel
theorem dX2_placeOf_1 : decode cX2_placeOf 1 = .ok (.istore_n 2, 1) := by decide +kernel
theorem dX2_placeOf_2 : decode cX2_placeOf 2 = .ok (.iload_n 2, 1) := by decide +kernel
theorem dX2_placeOf_3 : decode cX2_placeOf 3 = .ok (.aload_n 0, 1) := by decide +kernel
theorem dX2_placeOf_4 : decode cX2_placeOf 4 = .ok (.getfield 37, 3) := by decide +kernel
theorem dX2_placeOf_7 : decode cX2_placeOf 7 = .ok (.if_icmp .ge 19, 3) := by decide +kernel
theorem dX2_placeOf_10 : decode cX2_placeOf 10 = .ok (.aload_n 0, 1) := by decide +kernel
theorem dX2_placeOf_11 : decode cX2_placeOf 11 = .ok (.getfield 40, 3) := by decide +kernel
theorem dX2_placeOf_14 : decode cX2_placeOf 14 = .ok (.iload_n 2, 1) := by decide +kernel
theorem dX2_placeOf_15 : decode cX2_placeOf 15 = .ok (.iaload, 1) := by decide +kernel
theorem dX2_placeOf_16 : decode cX2_placeOf 16 = .ok (.iload_n 1, 1) := by decide +kernel
theorem dX2_placeOf_17 : decode cX2_placeOf 17 = .ok (.if_icmp .eq 9, 3) := by decide +kernel
theorem dX2_placeOf_20 : decode cX2_placeOf 20 = .ok (.iinc 2 1, 3) := by decide +kernel
theorem dX2_placeOf_23 : decode cX2_placeOf 23 = .ok (.goto (-21), 3) := by decide +kernel
theorem dX2_placeOf_26 : decode cX2_placeOf 26 = .ok (.iload_n 2, 1) := by decide +kernel
theorem dX2_placeOf_27 : decode cX2_placeOf 27 = .ok (.ireturn, 1) := by decide +kernel
theorem dX2_putFirst_0 : decode cX2_putFirst 0 = .ok (.aload_n 0, 1) := by decide +kernel
theorem dX2_putFirst_1 : decode cX2_putFirst 1 = .ok (.iload_n 1, 1) := by decide +kernel
theorem dX2_putFirst_2 : decode cX2_putFirst 2 = .ok (.invokevirtual 78, 3) := by decide +kernel
theorem dX2_putFirst_5 : decode cX2_putFirst 5 = .ok (.istore_n 2, 1) := by decide +kernel
theorem dX2_putFirst_6 : decode cX2_putFirst 6 = .ok (.iload_n 2, 1) := by decide +kernel
theorem dX2_putFirst_7 : decode cX2_putFirst 7 = .ok (.aload_n 0, 1) := by decide +kernel
theorem dX2_putFirst_8 : decode cX2_putFirst 8 = .ok (.getfield 37, 3) := by decide +kernel
theorem dX2_putFirst_11 : decode cX2_putFirst 11 = .ok (.if_icmp .lt 4, 3) := by decide +kernel
theorem dX2_putFirst_14 : decode cX2_putFirst 14 = .ok (.return_, 1) := by decide +kernel
theorem dX2_putFirst_15 : decode cX2_putFirst 15 = .ok (.iload_n 2, 1) := by decide +kernel
theorem dX2_putFirst_16 : decode cX2_putFirst 16 = .ok (.istore_n 3, 1) := by decide +kernel
theorem dX2_putFirst_17 : decode cX2_putFirst 17 = .ok (.iload_n 3, 1) := by decide +kernel
theorem dX2_putFirst_18 : decode cX2_putFirst 18 = .ok (.ifCond .le 23, 3) := by decide +kernel
theorem dX2_putFirst_21 : decode cX2_putFirst 21 = .ok (.aload_n 0, 1) := by decide +kernel
theorem dX2_putFirst_22 : decode cX2_putFirst 22 = .ok (.getfield 40, 3) := by decide +kernel
theorem dX2_putFirst_25 : decode cX2_putFirst 25 = .ok (.iload_n 3, 1) := by decide +kernel
theorem dX2_putFirst_26 : decode cX2_putFirst 26 = .ok (.aload_n 0, 1) := by decide +kernel
theorem dX2_putFirst_27 : decode cX2_putFirst 27 = .ok (.getfield 40, 3) := by decide +kernel
theorem dX2_putFirst_30 : decode cX2_putFirst 30 = .ok (.iload_n 3, 1) := by decide +kernel
theorem dX2_putFirst_31 : decode cX2_putFirst 31 = .ok (.iconst 1, 1) := by decide +kernel
theorem dX2_putFirst_32 : decode cX2_putFirst 32 = .ok (.isub, 1) := by decide +kernel
theorem dX2_putFirst_33 : decode cX2_putFirst 33 = .ok (.iaload, 1) := by decide +kernel
theorem dX2_putFirst_34 : decode cX2_putFirst 34 = .ok (.iastore, 1) := by decide +kernel
theorem dX2_putFirst_35 : decode cX2_putFirst 35 = .ok (.iinc 3 (-1), 3) := by decide +kernel
theorem dX2_putFirst_38 : decode cX2_putFirst 38 = .ok (.goto (-21), 3) := by decide +kernel
theorem dX2_putFirst_41 : decode cX2_putFirst 41 = .ok (.aload_n 0, 1) := by decide +kernel
theorem dX2_putFirst_42 : decode cX2_putFirst 42 = .ok (.getfield 40, 3) := by decide +kernel
theorem dX2_putFirst_45 : decode cX2_putFirst 45 = .ok (.iconst 0, 1) := by decide +kernel
theorem dX2_putFirst_46 : decode cX2_putFirst 46 = .ok (.iload_n 1, 1) := by decide +kernel
theorem dX2_putFirst_47 : decode cX2_putFirst 47 = .ok (.iastore, 1) := by decide +kernel
theorem dX2_putFirst_48 : decode cX2_putFirst 48 = .ok (.return_, 1) := by decide +kernel
theorem dX2_changePlaces_0 : decode cX2_changePlaces 0 = .ok (.aload_n 0, 1) := by decide +kernel
theorem dX2_changePlaces_1 : decode cX2_changePlaces 1 = .ok (.iload_n 1, 1) := by decide +kernel
theorem dX2_changePlaces_2 : decode cX2_changePlaces 2 = .ok (.invokevirtual 78, 3) := by decide +kernel
theorem dX2_changePlaces_5 : decode cX2_changePlaces 5 = .ok (.istore_n 3, 1) := by decide +kernel
theorem dX2_changePlaces_6 : decode cX2_changePlaces 6 = .ok (.aload_n 0, 1) := by decide +kernel
theorem dX2_changePlaces_7 : decode cX2_changePlaces 7 = .ok (.iload_n 2, 1) := by decide +kernel
theorem dX2_changePlaces_8 : decode cX2_changePlaces 8 = .ok (.invokevirtual 78, 3) := by decide +kernel
theorem dX2_changePlaces_11 : decode cX2_changePlaces 11 = .ok (.istore 4, 2) := by decide +kernel
theorem dX2_changePlaces_13 : decode cX2_changePlaces 13 = .ok (.iload_n 3, 1) := by decide +kernel
theorem dX2_changePlaces_14 : decode cX2_changePlaces 14 = .ok (.aload_n 0, 1) := by decide +kernel
theorem dX2_changePlaces_15 : decode cX2_changePlaces 15 = .ok (.getfield 37, 3) := by decide +kernel
theorem dX2_changePlaces_18 : decode cX2_changePlaces 18 = .ok (.if_icmp .ge 27, 3) := by decide +kernel
theorem dX2_changePlaces_21 : decode cX2_changePlaces 21 = .ok (.iload 4, 2) := by decide +kernel
theorem dX2_changePlaces_23 : decode cX2_changePlaces 23 = .ok (.aload_n 0, 1) := by decide +kernel
theorem dX2_changePlaces_24 : decode cX2_changePlaces 24 = .ok (.getfield 37, 3) := by decide +kernel
theorem dX2_changePlaces_27 : decode cX2_changePlaces 27 = .ok (.if_icmp .ge 18, 3) := by decide +kernel
theorem dX2_changePlaces_30 : decode cX2_changePlaces 30 = .ok (.aload_n 0, 1) := by decide +kernel
theorem dX2_changePlaces_31 : decode cX2_changePlaces 31 = .ok (.getfield 40, 3) := by decide +kernel
theorem dX2_changePlaces_34 : decode cX2_changePlaces 34 = .ok (.iload_n 3, 1) := by decide +kernel
theorem dX2_changePlaces_35 : decode cX2_changePlaces 35 = .ok (.iload_n 2, 1) := by decide +kernel
theorem dX2_changePlaces_36 : decode cX2_changePlaces 36 = .ok (.iastore, 1) := by decide +kernel
theorem dX2_changePlaces_37 : decode cX2_changePlaces 37 = .ok (.aload_n 0, 1) := by decide +kernel
theorem dX2_changePlaces_38 : decode cX2_changePlaces 38 = .ok (.getfield 40, 3) := by decide +kernel
theorem dX2_changePlaces_41 : decode cX2_changePlaces 41 = .ok (.iload 4, 2) := by decide +kernel
theorem dX2_changePlaces_43 : decode cX2_changePlaces 43 = .ok (.iload_n 1, 1) := by decide +kernel
theorem dX2_changePlaces_44 : decode cX2_changePlaces 44 = .ok (.iastore, 1) := by decide +kernel
theorem dX2_changePlaces_45 : decode cX2_changePlaces 45 = .ok (.return_, 1) := by decide +kernel
theorem dX2_restClerk_0 : decode cX2_restClerk 0 = .ok (.aload_n 0, 1) := by decide +kernel
theorem dX2_restClerk_1 : decode cX2_restClerk 1 = .ok (.iconst 0, 1) := by decide +kernel
theorem dX2_restClerk_2 : decode cX2_restClerk 2 = .ok (.putfield 49, 3) := by decide +kernel
theorem dX2_restClerk_5 : decode cX2_restClerk 5 = .ok (.iconst 0, 1) := by decide +kernel
theorem dX2_restClerk_6 : decode cX2_restClerk 6 = .ok (.istore_n 2, 1) := by decide +kernel
theorem dX2_restClerk_7 : decode cX2_restClerk 7 = .ok (.iload_n 2, 1) := by decide +kernel
theorem dX2_restClerk_8 : decode cX2_restClerk 8 = .ok (.aload_n 0, 1) := by decide +kernel
theorem dX2_restClerk_9 : decode cX2_restClerk 9 = .ok (.getfield 43, 3) := by decide +kernel
theorem dX2_restClerk_12 : decode cX2_restClerk 12 = .ok (.if_icmp .ge 29, 3) := by decide +kernel
theorem dX2_restClerk_15 : decode cX2_restClerk 15 = .ok (.aload_n 0, 1) := by decide +kernel
theorem dX2_restClerk_16 : decode cX2_restClerk 16 = .ok (.getfield 46, 3) := by decide +kernel
theorem dX2_restClerk_19 : decode cX2_restClerk 19 = .ok (.iload_n 2, 1) := by decide +kernel
theorem dX2_restClerk_20 : decode cX2_restClerk 20 = .ok (.aload_n 0, 1) := by decide +kernel
theorem dX2_restClerk_21 : decode cX2_restClerk 21 = .ok (.getfield 46, 3) := by decide +kernel
theorem dX2_restClerk_24 : decode cX2_restClerk 24 = .ok (.iload_n 2, 1) := by decide +kernel
theorem dX2_restClerk_25 : decode cX2_restClerk 25 = .ok (.iaload, 1) := by decide +kernel
theorem dX2_restClerk_26 : decode cX2_restClerk 26 = .ok (.iload_n 1, 1) := by decide +kernel
theorem dX2_restClerk_27 : decode cX2_restClerk 27 = .ok (.iadd, 1) := by decide +kernel
theorem dX2_restClerk_28 : decode cX2_restClerk 28 = .ok (.sipush 999, 3) := by decide +kernel
theorem dX2_restClerk_31 : decode cX2_restClerk 31 = .ok (.invokestatic 82, 3) := by decide +kernel
theorem dX2_restClerk_34 : decode cX2_restClerk 34 = .ok (.iastore, 1) := by decide +kernel
theorem dX2_restClerk_35 : decode cX2_restClerk 35 = .ok (.iinc 2 1, 3) := by decide +kernel
theorem dX2_restClerk_38 : decode cX2_restClerk 38 = .ok (.goto (-31), 3) := by decide +kernel
theorem dX2_restClerk_41 : decode cX2_restClerk 41 = .ok (.return_, 1) := by decide +kernel
theorem dX2_wedAll_0 : decode cX2_wedAll 0 = .ok (.aload_n 0, 1) := by decide +kernel
theorem dX2_wedAll_1 : decode cX2_wedAll 1 = .ok (.getfield 37, 3) := by decide +kernel
theorem dX2_wedAll_4 : decode cX2_wedAll 4 = .ok (.istore_n 1, 1) := by decide +kernel
theorem dX2_wedAll_5 : decode cX2_wedAll 5 = .ok (.iload_n 1, 1) := by decide +kernel
theorem dX2_wedAll_6 : decode cX2_wedAll 6 = .ok (.ifCond .le 14, 3) := by decide +kernel
theorem dX2_wedAll_9 : decode cX2_wedAll 9 = .ok (.aload_n 0, 1) := by decide +kernel
theorem dX2_wedAll_10 : decode cX2_wedAll 10 = .ok (.iconst 0, 1) := by decide +kernel
theorem dX2_wedAll_11 : decode cX2_wedAll 11 = .ok (.invokevirtual 87, 3) := by decide +kernel
theorem dX2_wedAll_14 : decode cX2_wedAll 14 = .ok (.iinc 1 (-1), 3) := by decide +kernel
theorem dX2_wedAll_17 : decode cX2_wedAll 17 = .ok (.goto (-12), 3) := by decide +kernel
theorem dX2_wedAll_20 : decode cX2_wedAll 20 = .ok (.return_, 1) := by decide +kernel
theorem dX2_wedSome_0 : decode cX2_wedSome 0 = .ok (.iload_n 1, 1) := by decide +kernel
theorem dX2_wedSome_1 : decode cX2_wedSome 1 = .ok (.aload_n 0, 1) := by decide +kernel
theorem dX2_wedSome_2 : decode cX2_wedSome 2 = .ok (.getfield 37, 3) := by decide +kernel
theorem dX2_wedSome_5 : decode cX2_wedSome 5 = .ok (.invokestatic 82, 3) := by decide +kernel
theorem dX2_wedSome_8 : decode cX2_wedSome 8 = .ok (.istore_n 2, 1) := by decide +kernel
theorem dX2_wedSome_9 : decode cX2_wedSome 9 = .ok (.iconst 0, 1) := by decide +kernel
theorem dX2_wedSome_10 : decode cX2_wedSome 10 = .ok (.istore_n 3, 1) := by decide +kernel
theorem dX2_wedSome_11 : decode cX2_wedSome 11 = .ok (.iload_n 3, 1) := by decide +kernel
theorem dX2_wedSome_12 : decode cX2_wedSome 12 = .ok (.iload_n 2, 1) := by decide +kernel
theorem dX2_wedSome_13 : decode cX2_wedSome 13 = .ok (.if_icmp .ge 14, 3) := by decide +kernel
theorem dX2_wedSome_16 : decode cX2_wedSome 16 = .ok (.aload_n 0, 1) := by decide +kernel
theorem dX2_wedSome_17 : decode cX2_wedSome 17 = .ok (.iconst 0, 1) := by decide +kernel
theorem dX2_wedSome_18 : decode cX2_wedSome 18 = .ok (.invokevirtual 87, 3) := by decide +kernel
theorem dX2_wedSome_21 : decode cX2_wedSome 21 = .ok (.iinc 3 1, 3) := by decide +kernel
theorem dX2_wedSome_24 : decode cX2_wedSome 24 = .ok (.goto (-13), 3) := by decide +kernel
theorem dX2_wedSome_27 : decode cX2_wedSome 27 = .ok (.return_, 1) := by decide +kernel
theorem dX2_wedFirst_0 : decode cX2_wedFirst 0 = .ok (.aload_n 0, 1) := by decide +kernel
theorem dX2_wedFirst_1 : decode cX2_wedFirst 1 = .ok (.getfield 37, 3) := by decide +kernel
theorem dX2_wedFirst_4 : decode cX2_wedFirst 4 = .ok (.iconst 1, 1) := by decide +kernel
theorem dX2_wedFirst_5 : decode cX2_wedFirst 5 = .ok (.if_icmp .ge 4, 3) := by decide +kernel
theorem dX2_wedFirst_8 : decode cX2_wedFirst 8 = .ok (.return_, 1) := by decide +kernel
theorem dX2_wedFirst_9 : decode cX2_wedFirst 9 = .ok (.aload_n 0, 1) := by decide +kernel
theorem dX2_wedFirst_10 : decode cX2_wedFirst 10 = .ok (.getfield 40, 3) := by decide +kernel
theorem dX2_wedFirst_13 : decode cX2_wedFirst 13 = .ok (.iconst 0, 1) := by decide +kernel
theorem dX2_wedFirst_14 : decode cX2_wedFirst 14 = .ok (.iaload, 1) := by decide +kernel
theorem dX2_wedFirst_15 : decode cX2_wedFirst 15 = .ok (.istore_n 2, 1) := by decide +kernel
theorem dX2_wedFirst_16 : decode cX2_wedFirst 16 = .ok (.aload_n 0, 1) := by decide +kernel
theorem dX2_wedFirst_17 : decode cX2_wedFirst 17 = .ok (.dup, 1) := by decide +kernel
theorem dX2_wedFirst_18 : decode cX2_wedFirst 18 = .ok (.getfield 37, 3) := by decide +kernel
theorem dX2_wedFirst_21 : decode cX2_wedFirst 21 = .ok (.iconst 1, 1) := by decide +kernel
theorem dX2_wedFirst_22 : decode cX2_wedFirst 22 = .ok (.isub, 1) := by decide +kernel
theorem dX2_wedFirst_23 : decode cX2_wedFirst 23 = .ok (.putfield 37, 3) := by decide +kernel
theorem dX2_wedFirst_26 : decode cX2_wedFirst 26 = .ok (.iconst 0, 1) := by decide +kernel
theorem dX2_wedFirst_27 : decode cX2_wedFirst 27 = .ok (.istore_n 3, 1) := by decide +kernel
theorem dX2_wedFirst_28 : decode cX2_wedFirst 28 = .ok (.iload_n 3, 1) := by decide +kernel
theorem dX2_wedFirst_29 : decode cX2_wedFirst 29 = .ok (.aload_n 0, 1) := by decide +kernel
theorem dX2_wedFirst_30 : decode cX2_wedFirst 30 = .ok (.getfield 37, 3) := by decide +kernel
theorem dX2_wedFirst_33 : decode cX2_wedFirst 33 = .ok (.if_icmp .ge 23, 3) := by decide +kernel
theorem dX2_wedFirst_36 : decode cX2_wedFirst 36 = .ok (.aload_n 0, 1) := by decide +kernel
theorem dX2_wedFirst_37 : decode cX2_wedFirst 37 = .ok (.getfield 40, 3) := by decide +kernel
theorem dX2_wedFirst_40 : decode cX2_wedFirst 40 = .ok (.iload_n 3, 1) := by decide +kernel
theorem dX2_wedFirst_41 : decode cX2_wedFirst 41 = .ok (.aload_n 0, 1) := by decide +kernel
theorem dX2_wedFirst_42 : decode cX2_wedFirst 42 = .ok (.getfield 40, 3) := by decide +kernel
theorem dX2_wedFirst_45 : decode cX2_wedFirst 45 = .ok (.iload_n 3, 1) := by decide +kernel
theorem dX2_wedFirst_46 : decode cX2_wedFirst 46 = .ok (.iconst 1, 1) := by decide +kernel
theorem dX2_wedFirst_47 : decode cX2_wedFirst 47 = .ok (.iadd, 1) := by decide +kernel
theorem dX2_wedFirst_48 : decode cX2_wedFirst 48 = .ok (.iaload, 1) := by decide +kernel
theorem dX2_wedFirst_49 : decode cX2_wedFirst 49 = .ok (.iastore, 1) := by decide +kernel
theorem dX2_wedFirst_50 : decode cX2_wedFirst 50 = .ok (.iinc 3 1, 3) := by decide +kernel
theorem dX2_wedFirst_53 : decode cX2_wedFirst 53 = .ok (.goto (-25), 3) := by decide +kernel
theorem dX2_wedFirst_56 : decode cX2_wedFirst 56 = .ok (.aload_n 0, 1) := by decide +kernel
theorem dX2_wedFirst_57 : decode cX2_wedFirst 57 = .ok (.dup, 1) := by decide +kernel
theorem dX2_wedFirst_58 : decode cX2_wedFirst 58 = .ok (.getfield 25, 3) := by decide +kernel
theorem dX2_wedFirst_61 : decode cX2_wedFirst 61 = .ok (.iconst 1, 1) := by decide +kernel
theorem dX2_wedFirst_62 : decode cX2_wedFirst 62 = .ok (.iload_n 2, 1) := by decide +kernel
theorem dX2_wedFirst_63 : decode cX2_wedFirst 63 = .ok (.ishl, 1) := by decide +kernel
theorem dX2_wedFirst_64 : decode cX2_wedFirst 64 = .ok (.ior, 1) := by decide +kernel
theorem dX2_wedFirst_65 : decode cX2_wedFirst 65 = .ok (.putfield 25, 3) := by decide +kernel
theorem dX2_wedFirst_68 : decode cX2_wedFirst 68 = .ok (.aload_n 0, 1) := by decide +kernel
theorem dX2_wedFirst_69 : decode cX2_wedFirst 69 = .ok (.iload_n 2, 1) := by decide +kernel
theorem dX2_wedFirst_70 : decode cX2_wedFirst 70 = .ok (.iload_n 1, 1) := by decide +kernel
theorem dX2_wedFirst_71 : decode cX2_wedFirst 71 = .ok (.invokevirtual 91, 3) := by decide +kernel
theorem dX2_wedFirst_74 : decode cX2_wedFirst 74 = .ok (.return_, 1) := by decide +kernel
theorem dX2_hold_0 : decode cX2_hold 0 = .ok (.aload_n 0, 1) := by decide +kernel
theorem dX2_hold_1 : decode cX2_hold 1 = .ok (.getfield 43, 3) := by decide +kernel
theorem dX2_hold_4 : decode cX2_hold 4 = .ok (.iconst 1, 1) := by decide +kernel
theorem dX2_hold_5 : decode cX2_hold 5 = .ok (.if_icmp .le 22, 3) := by decide +kernel
theorem dX2_hold_8 : decode cX2_hold 8 = .ok (.aload_n 0, 1) := by decide +kernel
theorem dX2_hold_9 : decode cX2_hold 9 = .ok (.getfield 46, 3) := by decide +kernel
theorem dX2_hold_12 : decode cX2_hold 12 = .ok (.iconst 1, 1) := by decide +kernel
theorem dX2_hold_13 : decode cX2_hold 13 = .ok (.iaload, 1) := by decide +kernel
theorem dX2_hold_14 : decode cX2_hold 14 = .ok (.aload_n 0, 1) := by decide +kernel
theorem dX2_hold_15 : decode cX2_hold 15 = .ok (.getfield 46, 3) := by decide +kernel
theorem dX2_hold_18 : decode cX2_hold 18 = .ok (.iconst 0, 1) := by decide +kernel
theorem dX2_hold_19 : decode cX2_hold 19 = .ok (.iaload, 1) := by decide +kernel
theorem dX2_hold_20 : decode cX2_hold 20 = .ok (.if_icmp .ge 7, 3) := by decide +kernel
theorem dX2_hold_23 : decode cX2_hold 23 = .ok (.iconst 1, 1) := by decide +kernel
theorem dX2_hold_24 : decode cX2_hold 24 = .ok (.goto 4, 3) := by decide +kernel
theorem dX2_hold_27 : decode cX2_hold 27 = .ok (.iconst 0, 1) := by decide +kernel
theorem dX2_hold_28 : decode cX2_hold 28 = .ok (.istore_n 3, 1) := by decide +kernel
theorem dX2_hold_29 : decode cX2_hold 29 = .ok (.aload_n 0, 1) := by decide +kernel
theorem dX2_hold_30 : decode cX2_hold 30 = .ok (.getfield 46, 3) := by decide +kernel
theorem dX2_hold_33 : decode cX2_hold 33 = .ok (.iload_n 3, 1) := by decide +kernel
theorem dX2_hold_34 : decode cX2_hold 34 = .ok (.iaload, 1) := by decide +kernel
theorem dX2_hold_35 : decode cX2_hold 35 = .ok (.aload_n 0, 1) := by decide +kernel
theorem dX2_hold_36 : decode cX2_hold 36 = .ok (.getfield 15, 3) := by decide +kernel
theorem dX2_hold_39 : decode cX2_hold 39 = .ok (.iload_n 1, 1) := by decide +kernel
theorem dX2_hold_40 : decode cX2_hold 40 = .ok (.iaload, 1) := by decide +kernel
theorem dX2_hold_41 : decode cX2_hold 41 = .ok (.aload_n 0, 1) := by decide +kernel
theorem dX2_hold_42 : decode cX2_hold 42 = .ok (.getfield 19, 3) := by decide +kernel
theorem dX2_hold_45 : decode cX2_hold 45 = .ok (.iload_n 1, 1) := by decide +kernel
theorem dX2_hold_46 : decode cX2_hold 46 = .ok (.iaload, 1) := by decide +kernel
theorem dX2_hold_47 : decode cX2_hold 47 = .ok (.aload_n 0, 1) := by decide +kernel
theorem dX2_hold_48 : decode cX2_hold 48 = .ok (.getfield 22, 3) := by decide +kernel
theorem dX2_hold_51 : decode cX2_hold 51 = .ok (.iload_n 1, 1) := by decide +kernel
theorem dX2_hold_52 : decode cX2_hold 52 = .ok (.iaload, 1) := by decide +kernel
theorem dX2_hold_53 : decode cX2_hold 53 = .ok (.invokestatic 67, 3) := by decide +kernel
theorem dX2_hold_56 : decode cX2_hold 56 = .ok (.invokestatic 95, 3) := by decide +kernel
theorem dX2_hold_59 : decode cX2_hold 59 = .ok (.istore 4, 2) := by decide +kernel
theorem dX2_hold_61 : decode cX2_hold 61 = .ok (.aload_n 0, 1) := by decide +kernel
theorem dX2_hold_62 : decode cX2_hold 62 = .ok (.getfield 15, 3) := by decide +kernel
theorem dX2_hold_65 : decode cX2_hold 65 = .ok (.iload_n 1, 1) := by decide +kernel
theorem dX2_hold_66 : decode cX2_hold 66 = .ok (.iaload, 1) := by decide +kernel
theorem dX2_hold_67 : decode cX2_hold 67 = .ok (.iconst 4, 1) := by decide +kernel
theorem dX2_hold_68 : decode cX2_hold 68 = .ok (.if_icmp .eq 16, 3) := by decide +kernel
theorem dX2_hold_71 : decode cX2_hold 71 = .ok (.iload 4, 2) := by decide +kernel
theorem dX2_hold_73 : decode cX2_hold 73 = .ok (.aload_n 0, 1) := by decide +kernel
theorem dX2_hold_74 : decode cX2_hold 74 = .ok (.getfield 22, 3) := by decide +kernel
theorem dX2_hold_77 : decode cX2_hold 77 = .ok (.iload_n 1, 1) := by decide +kernel
theorem dX2_hold_78 : decode cX2_hold 78 = .ok (.iaload, 1) := by decide +kernel
theorem dX2_hold_79 : decode cX2_hold 79 = .ok (.invokestatic 95, 3) := by decide +kernel
theorem dX2_hold_82 : decode cX2_hold 82 = .ok (.istore 4, 2) := by decide +kernel
theorem dX2_hold_84 : decode cX2_hold 84 = .ok (.aload_n 0, 1) := by decide +kernel
theorem dX2_hold_85 : decode cX2_hold 85 = .ok (.getfield 15, 3) := by decide +kernel
theorem dX2_hold_88 : decode cX2_hold 88 = .ok (.iload_n 1, 1) := by decide +kernel
theorem dX2_hold_89 : decode cX2_hold 89 = .ok (.iaload, 1) := by decide +kernel
theorem dX2_hold_90 : decode cX2_hold 90 = .ok (.aload_n 0, 1) := by decide +kernel
theorem dX2_hold_91 : decode cX2_hold 91 = .ok (.getfield 19, 3) := by decide +kernel
theorem dX2_hold_94 : decode cX2_hold 94 = .ok (.iload_n 1, 1) := by decide +kernel
theorem dX2_hold_95 : decode cX2_hold 95 = .ok (.iaload, 1) := by decide +kernel
theorem dX2_hold_96 : decode cX2_hold 96 = .ok (.invokestatic 61, 3) := by decide +kernel
theorem dX2_hold_99 : decode cX2_hold 99 = .ok (.iload_n 2, 1) := by decide +kernel
theorem dX2_hold_100 : decode cX2_hold 100 = .ok (.iadd, 1) := by decide +kernel
theorem dX2_hold_101 : decode cX2_hold 101 = .ok (.aload_n 0, 1) := by decide +kernel
theorem dX2_hold_102 : decode cX2_hold 102 = .ok (.getfield 49, 3) := by decide +kernel
theorem dX2_hold_105 : decode cX2_hold 105 = .ok (.bipush 30, 2) := by decide +kernel
theorem dX2_hold_107 : decode cX2_hold 107 = .ok (.if_icmp .lt 7, 3) := by decide +kernel
theorem dX2_hold_110 : decode cX2_hold 110 = .ok (.iconst 2, 1) := by decide +kernel
theorem dX2_hold_111 : decode cX2_hold 111 = .ok (.goto 4, 3) := by decide +kernel
theorem dX2_hold_114 : decode cX2_hold 114 = .ok (.iconst 0, 1) := by decide +kernel
theorem dX2_hold_115 : decode cX2_hold 115 = .ok (.iadd, 1) := by decide +kernel
theorem dX2_hold_116 : decode cX2_hold 116 = .ok (.istore 5, 2) := by decide +kernel
theorem dX2_hold_118 : decode cX2_hold 118 = .ok (.aload_n 0, 1) := by decide +kernel
theorem dX2_hold_119 : decode cX2_hold 119 = .ok (.getfield 28, 3) := by decide +kernel
theorem dX2_hold_122 : decode cX2_hold 122 = .ok (.iload_n 1, 1) := by decide +kernel
theorem dX2_hold_123 : decode cX2_hold 123 = .ok (.iload 4, 2) := by decide +kernel
theorem dX2_hold_125 : decode cX2_hold 125 = .ok (.iastore, 1) := by decide +kernel
theorem dX2_hold_126 : decode cX2_hold 126 = .ok (.aload_n 0, 1) := by decide +kernel
theorem dX2_hold_127 : decode cX2_hold 127 = .ok (.getfield 31, 3) := by decide +kernel
theorem dX2_hold_130 : decode cX2_hold 130 = .ok (.iload_n 1, 1) := by decide +kernel
theorem dX2_hold_131 : decode cX2_hold 131 = .ok (.iload 4, 2) := by decide +kernel
theorem dX2_hold_133 : decode cX2_hold 133 = .ok (.iload 5, 2) := by decide +kernel
theorem dX2_hold_135 : decode cX2_hold 135 = .ok (.iadd, 1) := by decide +kernel
theorem dX2_hold_136 : decode cX2_hold 136 = .ok (.sipush 999, 3) := by decide +kernel
theorem dX2_hold_139 : decode cX2_hold 139 = .ok (.invokestatic 82, 3) := by decide +kernel
theorem dX2_hold_142 : decode cX2_hold 142 = .ok (.iastore, 1) := by decide +kernel
theorem dX2_hold_143 : decode cX2_hold 143 = .ok (.aload_n 0, 1) := by decide +kernel
theorem dX2_hold_144 : decode cX2_hold 144 = .ok (.getfield 34, 3) := by decide +kernel
theorem dX2_hold_147 : decode cX2_hold 147 = .ok (.iload_n 1, 1) := by decide +kernel
theorem dX2_hold_148 : decode cX2_hold 148 = .ok (.iload_n 3, 1) := by decide +kernel
theorem dX2_hold_149 : decode cX2_hold 149 = .ok (.iastore, 1) := by decide +kernel
theorem dX2_hold_150 : decode cX2_hold 150 = .ok (.aload_n 0, 1) := by decide +kernel
theorem dX2_hold_151 : decode cX2_hold 151 = .ok (.getfield 46, 3) := by decide +kernel
theorem dX2_hold_154 : decode cX2_hold 154 = .ok (.iload_n 3, 1) := by decide +kernel
theorem dX2_hold_155 : decode cX2_hold 155 = .ok (.aload_n 0, 1) := by decide +kernel
theorem dX2_hold_156 : decode cX2_hold 156 = .ok (.getfield 31, 3) := by decide +kernel
theorem dX2_hold_159 : decode cX2_hold 159 = .ok (.iload_n 1, 1) := by decide +kernel
theorem dX2_hold_160 : decode cX2_hold 160 = .ok (.iaload, 1) := by decide +kernel
theorem dX2_hold_161 : decode cX2_hold 161 = .ok (.aload_n 0, 1) := by decide +kernel
theorem dX2_hold_162 : decode cX2_hold 162 = .ok (.getfield 52, 3) := by decide +kernel
theorem dX2_hold_165 : decode cX2_hold 165 = .ok (.iadd, 1) := by decide +kernel
theorem dX2_hold_166 : decode cX2_hold 166 = .ok (.sipush 999, 3) := by decide +kernel
theorem dX2_hold_169 : decode cX2_hold 169 = .ok (.invokestatic 82, 3) := by decide +kernel
theorem dX2_hold_172 : decode cX2_hold 172 = .ok (.iastore, 1) := by decide +kernel
theorem dX2_hold_173 : decode cX2_hold 173 = .ok (.aload_n 0, 1) := by decide +kernel
theorem dX2_hold_174 : decode cX2_hold 174 = .ok (.aload_n 0, 1) := by decide +kernel
theorem dX2_hold_175 : decode cX2_hold 175 = .ok (.getfield 49, 3) := by decide +kernel
theorem dX2_hold_178 : decode cX2_hold 178 = .ok (.iload 5, 2) := by decide +kernel
theorem dX2_hold_180 : decode cX2_hold 180 = .ok (.iconst 4, 1) := by decide +kernel
theorem dX2_hold_181 : decode cX2_hold 181 = .ok (.idiv, 1) := by decide +kernel
theorem dX2_hold_182 : decode cX2_hold 182 = .ok (.iadd, 1) := by decide +kernel
theorem dX2_hold_183 : decode cX2_hold 183 = .ok (.bipush 99, 2) := by decide +kernel
theorem dX2_hold_185 : decode cX2_hold 185 = .ok (.invokestatic 82, 3) := by decide +kernel
theorem dX2_hold_188 : decode cX2_hold 188 = .ok (.putfield 49, 3) := by decide +kernel
theorem dX2_hold_191 : decode cX2_hold 191 = .ok (.return_, 1) := by decide +kernel
theorem dX2_lateOf_0 : decode cX2_lateOf 0 = .ok (.aload_n 0, 1) := by decide +kernel
theorem dX2_lateOf_1 : decode cX2_lateOf 1 = .ok (.getfield 28, 3) := by decide +kernel
theorem dX2_lateOf_4 : decode cX2_lateOf 4 = .ok (.iload_n 1, 1) := by decide +kernel
theorem dX2_lateOf_5 : decode cX2_lateOf 5 = .ok (.iaload, 1) := by decide +kernel
theorem dX2_lateOf_6 : decode cX2_lateOf 6 = .ok (.aload_n 0, 1) := by decide +kernel
theorem dX2_lateOf_7 : decode cX2_lateOf 7 = .ok (.getfield 22, 3) := by decide +kernel
theorem dX2_lateOf_10 : decode cX2_lateOf 10 = .ok (.iload_n 1, 1) := by decide +kernel
theorem dX2_lateOf_11 : decode cX2_lateOf 11 = .ok (.iaload, 1) := by decide +kernel
theorem dX2_lateOf_12 : decode cX2_lateOf 12 = .ok (.isub, 1) := by decide +kernel
theorem dX2_lateOf_13 : decode cX2_lateOf 13 = .ok (.iconst 0, 1) := by decide +kernel
theorem dX2_lateOf_14 : decode cX2_lateOf 14 = .ok (.invokestatic 95, 3) := by decide +kernel
theorem dX2_lateOf_17 : decode cX2_lateOf 17 = .ok (.ireturn, 1) := by decide +kernel
theorem dX2_waitOf_0 : decode cX2_waitOf 0 = .ok (.aload_n 0, 1) := by decide +kernel
theorem dX2_waitOf_1 : decode cX2_waitOf 1 = .ok (.getfield 28, 3) := by decide +kernel
theorem dX2_waitOf_4 : decode cX2_waitOf 4 = .ok (.iload_n 1, 1) := by decide +kernel
theorem dX2_waitOf_5 : decode cX2_waitOf 5 = .ok (.iaload, 1) := by decide +kernel
theorem dX2_waitOf_6 : decode cX2_waitOf 6 = .ok (.aload_n 0, 1) := by decide +kernel
theorem dX2_waitOf_7 : decode cX2_waitOf 7 = .ok (.iload_n 1, 1) := by decide +kernel
theorem dX2_waitOf_8 : decode cX2_waitOf 8 = .ok (.invokevirtual 98, 3) := by decide +kernel
theorem dX2_waitOf_11 : decode cX2_waitOf 11 = .ok (.isub, 1) := by decide +kernel
theorem dX2_waitOf_12 : decode cX2_waitOf 12 = .ok (.ireturn, 1) := by decide +kernel
theorem dX2_allLate_0 : decode cX2_allLate 0 = .ok (.iconst 0, 1) := by decide +kernel
theorem dX2_allLate_1 : decode cX2_allLate 1 = .ok (.istore_n 1, 1) := by decide +kernel
theorem dX2_allLate_2 : decode cX2_allLate 2 = .ok (.iconst 0, 1) := by decide +kernel
theorem dX2_allLate_3 : decode cX2_allLate 3 = .ok (.istore_n 2, 1) := by decide +kernel
theorem dX2_allLate_4 : decode cX2_allLate 4 = .ok (.iload_n 2, 1) := by decide +kernel
theorem dX2_allLate_5 : decode cX2_allLate 5 = .ok (.aload_n 0, 1) := by decide +kernel
theorem dX2_allLate_6 : decode cX2_allLate 6 = .ok (.getfield 9, 3) := by decide +kernel
theorem dX2_allLate_9 : decode cX2_allLate 9 = .ok (.if_icmp .ge 17, 3) := by decide +kernel
theorem dX2_allLate_12 : decode cX2_allLate 12 = .ok (.iload_n 1, 1) := by decide +kernel
theorem dX2_allLate_13 : decode cX2_allLate 13 = .ok (.aload_n 0, 1) := by decide +kernel
theorem dX2_allLate_14 : decode cX2_allLate 14 = .ok (.iload_n 2, 1) := by decide +kernel
theorem dX2_allLate_15 : decode cX2_allLate 15 = .ok (.invokevirtual 101, 3) := by decide +kernel
theorem dX2_allLate_18 : decode cX2_allLate 18 = .ok (.iadd, 1) := by decide +kernel
theorem dX2_allLate_19 : decode cX2_allLate 19 = .ok (.istore_n 1, 1) := by decide +kernel
theorem dX2_allLate_20 : decode cX2_allLate 20 = .ok (.iinc 2 1, 3) := by decide +kernel
theorem dX2_allLate_23 : decode cX2_allLate 23 = .ok (.goto (-19), 3) := by decide +kernel
theorem dX2_allLate_26 : decode cX2_allLate 26 = .ok (.iload_n 1, 1) := by decide +kernel
theorem dX2_allLate_27 : decode cX2_allLate 27 = .ok (.ireturn, 1) := by decide +kernel
theorem dX2_lateOfWed_0 : decode cX2_lateOfWed 0 = .ok (.iconst 0, 1) := by decide +kernel
theorem dX2_lateOfWed_1 : decode cX2_lateOfWed 1 = .ok (.istore_n 1, 1) := by decide +kernel
theorem dX2_lateOfWed_2 : decode cX2_lateOfWed 2 = .ok (.iconst 0, 1) := by decide +kernel
theorem dX2_lateOfWed_3 : decode cX2_lateOfWed 3 = .ok (.istore_n 2, 1) := by decide +kernel
theorem dX2_lateOfWed_4 : decode cX2_lateOfWed 4 = .ok (.iload_n 2, 1) := by decide +kernel
theorem dX2_lateOfWed_5 : decode cX2_lateOfWed 5 = .ok (.aload_n 0, 1) := by decide +kernel
theorem dX2_lateOfWed_6 : decode cX2_lateOfWed 6 = .ok (.getfield 9, 3) := by decide +kernel
theorem dX2_lateOfWed_9 : decode cX2_lateOfWed 9 = .ok (.if_icmp .ge 25, 3) := by decide +kernel
theorem dX2_lateOfWed_12 : decode cX2_lateOfWed 12 = .ok (.aload_n 0, 1) := by decide +kernel
theorem dX2_lateOfWed_13 : decode cX2_lateOfWed 13 = .ok (.iload_n 2, 1) := by decide +kernel
theorem dX2_lateOfWed_14 : decode cX2_lateOfWed 14 = .ok (.invokevirtual 104, 3) := by decide +kernel
theorem dX2_lateOfWed_17 : decode cX2_lateOfWed 17 = .ok (.ifCond .eq 11, 3) := by decide +kernel
theorem dX2_lateOfWed_20 : decode cX2_lateOfWed 20 = .ok (.iload_n 1, 1) := by decide +kernel
theorem dX2_lateOfWed_21 : decode cX2_lateOfWed 21 = .ok (.aload_n 0, 1) := by decide +kernel
theorem dX2_lateOfWed_22 : decode cX2_lateOfWed 22 = .ok (.iload_n 2, 1) := by decide +kernel
theorem dX2_lateOfWed_23 : decode cX2_lateOfWed 23 = .ok (.invokevirtual 101, 3) := by decide +kernel
theorem dX2_lateOfWed_26 : decode cX2_lateOfWed 26 = .ok (.iadd, 1) := by decide +kernel
theorem dX2_lateOfWed_27 : decode cX2_lateOfWed 27 = .ok (.istore_n 1, 1) := by decide +kernel
theorem dX2_lateOfWed_28 : decode cX2_lateOfWed 28 = .ok (.iinc 2 1, 3) := by decide +kernel
theorem dX2_lateOfWed_31 : decode cX2_lateOfWed 31 = .ok (.goto (-27), 3) := by decide +kernel
theorem dX2_lateOfWed_34 : decode cX2_lateOfWed 34 = .ok (.iload_n 1, 1) := by decide +kernel
theorem dX2_lateOfWed_35 : decode cX2_lateOfWed 35 = .ok (.ireturn, 1) := by decide +kernel
theorem dX2_last_0 : decode cX2_last 0 = .ok (.iconst 0, 1) := by decide +kernel
theorem dX2_last_1 : decode cX2_last 1 = .ok (.istore_n 1, 1) := by decide +kernel
theorem dX2_last_2 : decode cX2_last 2 = .ok (.iconst 0, 1) := by decide +kernel
theorem dX2_last_3 : decode cX2_last 3 = .ok (.istore_n 2, 1) := by decide +kernel
theorem dX2_last_4 : decode cX2_last 4 = .ok (.iload_n 2, 1) := by decide +kernel
theorem dX2_last_5 : decode cX2_last 5 = .ok (.aload_n 0, 1) := by decide +kernel
theorem dX2_last_6 : decode cX2_last 6 = .ok (.getfield 9, 3) := by decide +kernel
theorem dX2_last_9 : decode cX2_last 9 = .ok (.if_icmp .ge 20, 3) := by decide +kernel
theorem dX2_last_12 : decode cX2_last 12 = .ok (.iload_n 1, 1) := by decide +kernel
theorem dX2_last_13 : decode cX2_last 13 = .ok (.aload_n 0, 1) := by decide +kernel
theorem dX2_last_14 : decode cX2_last 14 = .ok (.getfield 31, 3) := by decide +kernel
theorem dX2_last_17 : decode cX2_last 17 = .ok (.iload_n 2, 1) := by decide +kernel
theorem dX2_last_18 : decode cX2_last 18 = .ok (.iaload, 1) := by decide +kernel
theorem dX2_last_19 : decode cX2_last 19 = .ok (.invokestatic 95, 3) := by decide +kernel
theorem dX2_last_22 : decode cX2_last 22 = .ok (.istore_n 1, 1) := by decide +kernel
theorem dX2_last_23 : decode cX2_last 23 = .ok (.iinc 2 1, 3) := by decide +kernel
theorem dX2_last_26 : decode cX2_last 26 = .ok (.goto (-22), 3) := by decide +kernel
theorem dX2_last_29 : decode cX2_last 29 = .ok (.iload_n 1, 1) := by decide +kernel
theorem dX2_last_30 : decode cX2_last 30 = .ok (.ireturn, 1) := by decide +kernel
theorem dX2_meet_0 : decode cX2_meet 0 = .ok (.aload_n 0, 1) := by decide +kernel
theorem dX2_meet_1 : decode cX2_meet 1 = .ok (.getfield 31, 3) := by decide +kernel
theorem dX2_meet_4 : decode cX2_meet 4 = .ok (.iload_n 1, 1) := by decide +kernel
theorem dX2_meet_5 : decode cX2_meet 5 = .ok (.iaload, 1) := by decide +kernel
theorem dX2_meet_6 : decode cX2_meet 6 = .ok (.aload_n 0, 1) := by decide +kernel
theorem dX2_meet_7 : decode cX2_meet 7 = .ok (.getfield 28, 3) := by decide +kernel
theorem dX2_meet_10 : decode cX2_meet 10 = .ok (.iload_n 2, 1) := by decide +kernel
theorem dX2_meet_11 : decode cX2_meet 11 = .ok (.iaload, 1) := by decide +kernel
theorem dX2_meet_12 : decode cX2_meet 12 = .ok (.isub, 1) := by decide +kernel
theorem dX2_meet_13 : decode cX2_meet 13 = .ok (.invokestatic 108, 3) := by decide +kernel
theorem dX2_meet_16 : decode cX2_meet 16 = .ok (.iconst 2, 1) := by decide +kernel
theorem dX2_meet_17 : decode cX2_meet 17 = .ok (.if_icmp .le 23, 3) := by decide +kernel
theorem dX2_meet_20 : decode cX2_meet 20 = .ok (.aload_n 0, 1) := by decide +kernel
theorem dX2_meet_21 : decode cX2_meet 21 = .ok (.getfield 31, 3) := by decide +kernel
theorem dX2_meet_24 : decode cX2_meet 24 = .ok (.iload_n 2, 1) := by decide +kernel
theorem dX2_meet_25 : decode cX2_meet 25 = .ok (.iaload, 1) := by decide +kernel
theorem dX2_meet_26 : decode cX2_meet 26 = .ok (.aload_n 0, 1) := by decide +kernel
theorem dX2_meet_27 : decode cX2_meet 27 = .ok (.getfield 28, 3) := by decide +kernel
theorem dX2_meet_30 : decode cX2_meet 30 = .ok (.iload_n 1, 1) := by decide +kernel
theorem dX2_meet_31 : decode cX2_meet 31 = .ok (.iaload, 1) := by decide +kernel
theorem dX2_meet_32 : decode cX2_meet 32 = .ok (.isub, 1) := by decide +kernel
theorem dX2_meet_33 : decode cX2_meet 33 = .ok (.invokestatic 108, 3) := by decide +kernel
theorem dX2_meet_36 : decode cX2_meet 36 = .ok (.iconst 2, 1) := by decide +kernel
theorem dX2_meet_37 : decode cX2_meet 37 = .ok (.if_icmp .gt 7, 3) := by decide +kernel
theorem dX2_meet_40 : decode cX2_meet 40 = .ok (.iconst 1, 1) := by decide +kernel
theorem dX2_meet_41 : decode cX2_meet 41 = .ok (.goto 4, 3) := by decide +kernel
theorem dX2_meet_44 : decode cX2_meet 44 = .ok (.iconst 0, 1) := by decide +kernel
theorem dX2_meet_45 : decode cX2_meet 45 = .ok (.ireturn, 1) := by decide +kernel
theorem dX2_meetings_0 : decode cX2_meetings 0 = .ok (.iconst 0, 1) := by decide +kernel
theorem dX2_meetings_1 : decode cX2_meetings 1 = .ok (.istore_n 1, 1) := by decide +kernel
theorem dX2_meetings_2 : decode cX2_meetings 2 = .ok (.iconst 0, 1) := by decide +kernel
theorem dX2_meetings_3 : decode cX2_meetings 3 = .ok (.istore_n 2, 1) := by decide +kernel
theorem dX2_meetings_4 : decode cX2_meetings 4 = .ok (.iload_n 2, 1) := by decide +kernel
theorem dX2_meetings_5 : decode cX2_meetings 5 = .ok (.aload_n 0, 1) := by decide +kernel
theorem dX2_meetings_6 : decode cX2_meetings 6 = .ok (.getfield 9, 3) := by decide +kernel
theorem dX2_meetings_9 : decode cX2_meetings 9 = .ok (.if_icmp .ge 39, 3) := by decide +kernel
theorem dX2_meetings_12 : decode cX2_meetings 12 = .ok (.iload_n 2, 1) := by decide +kernel
theorem dX2_meetings_13 : decode cX2_meetings 13 = .ok (.iconst 1, 1) := by decide +kernel
theorem dX2_meetings_14 : decode cX2_meetings 14 = .ok (.iadd, 1) := by decide +kernel
theorem dX2_meetings_15 : decode cX2_meetings 15 = .ok (.istore_n 3, 1) := by decide +kernel
theorem dX2_meetings_16 : decode cX2_meetings 16 = .ok (.iload_n 3, 1) := by decide +kernel
theorem dX2_meetings_17 : decode cX2_meetings 17 = .ok (.aload_n 0, 1) := by decide +kernel
theorem dX2_meetings_18 : decode cX2_meetings 18 = .ok (.getfield 9, 3) := by decide +kernel
theorem dX2_meetings_21 : decode cX2_meetings 21 = .ok (.if_icmp .ge 21, 3) := by decide +kernel
theorem dX2_meetings_24 : decode cX2_meetings 24 = .ok (.aload_n 0, 1) := by decide +kernel
theorem dX2_meetings_25 : decode cX2_meetings 25 = .ok (.iload_n 2, 1) := by decide +kernel
theorem dX2_meetings_26 : decode cX2_meetings 26 = .ok (.iload_n 3, 1) := by decide +kernel
theorem dX2_meetings_27 : decode cX2_meetings 27 = .ok (.invokevirtual 111, 3) := by decide +kernel
theorem dX2_meetings_30 : decode cX2_meetings 30 = .ok (.ifCond .eq 6, 3) := by decide +kernel
theorem dX2_meetings_33 : decode cX2_meetings 33 = .ok (.iinc 1 1, 3) := by decide +kernel
theorem dX2_meetings_36 : decode cX2_meetings 36 = .ok (.iinc 3 1, 3) := by decide +kernel
theorem dX2_meetings_39 : decode cX2_meetings 39 = .ok (.goto (-23), 3) := by decide +kernel
theorem dX2_meetings_42 : decode cX2_meetings 42 = .ok (.iinc 2 1, 3) := by decide +kernel
theorem dX2_meetings_45 : decode cX2_meetings 45 = .ok (.goto (-41), 3) := by decide +kernel
theorem dX2_meetings_48 : decode cX2_meetings 48 = .ok (.iload_n 1, 1) := by decide +kernel
theorem dX2_meetings_49 : decode cX2_meetings 49 = .ok (.ireturn, 1) := by decide +kernel
theorem dX2_firstMeeting_0 : decode cX2_firstMeeting 0 = .ok (.iconst 0, 1) := by decide +kernel
theorem dX2_firstMeeting_1 : decode cX2_firstMeeting 1 = .ok (.istore_n 1, 1) := by decide +kernel
theorem dX2_firstMeeting_2 : decode cX2_firstMeeting 2 = .ok (.iload_n 1, 1) := by decide +kernel
theorem dX2_firstMeeting_3 : decode cX2_firstMeeting 3 = .ok (.aload_n 0, 1) := by decide +kernel
theorem dX2_firstMeeting_4 : decode cX2_firstMeeting 4 = .ok (.getfield 9, 3) := by decide +kernel
theorem dX2_firstMeeting_7 : decode cX2_firstMeeting 7 = .ok (.if_icmp .ge 43, 3) := by decide +kernel
theorem dX2_firstMeeting_10 : decode cX2_firstMeeting 10 = .ok (.iload_n 1, 1) := by decide +kernel
theorem dX2_firstMeeting_11 : decode cX2_firstMeeting 11 = .ok (.iconst 1, 1) := by decide +kernel
theorem dX2_firstMeeting_12 : decode cX2_firstMeeting 12 = .ok (.iadd, 1) := by decide +kernel
theorem dX2_firstMeeting_13 : decode cX2_firstMeeting 13 = .ok (.istore_n 2, 1) := by decide +kernel
theorem dX2_firstMeeting_14 : decode cX2_firstMeeting 14 = .ok (.iload_n 2, 1) := by decide +kernel
theorem dX2_firstMeeting_15 : decode cX2_firstMeeting 15 = .ok (.aload_n 0, 1) := by decide +kernel
theorem dX2_firstMeeting_16 : decode cX2_firstMeeting 16 = .ok (.getfield 9, 3) := by decide +kernel
theorem dX2_firstMeeting_19 : decode cX2_firstMeeting 19 = .ok (.if_icmp .ge 25, 3) := by decide +kernel
theorem dX2_firstMeeting_22 : decode cX2_firstMeeting 22 = .ok (.aload_n 0, 1) := by decide +kernel
theorem dX2_firstMeeting_23 : decode cX2_firstMeeting 23 = .ok (.iload_n 1, 1) := by decide +kernel
theorem dX2_firstMeeting_24 : decode cX2_firstMeeting 24 = .ok (.iload_n 2, 1) := by decide +kernel
theorem dX2_firstMeeting_25 : decode cX2_firstMeeting 25 = .ok (.invokevirtual 111, 3) := by decide +kernel
theorem dX2_firstMeeting_28 : decode cX2_firstMeeting 28 = .ok (.ifCond .eq 10, 3) := by decide +kernel
theorem dX2_firstMeeting_31 : decode cX2_firstMeeting 31 = .ok (.bipush 10, 2) := by decide +kernel
theorem dX2_firstMeeting_33 : decode cX2_firstMeeting 33 = .ok (.iload_n 1, 1) := by decide +kernel
theorem dX2_firstMeeting_34 : decode cX2_firstMeeting 34 = .ok (.imul, 1) := by decide +kernel
theorem dX2_firstMeeting_35 : decode cX2_firstMeeting 35 = .ok (.iload_n 2, 1) := by decide +kernel
theorem dX2_firstMeeting_36 : decode cX2_firstMeeting 36 = .ok (.iadd, 1) := by decide +kernel
theorem dX2_firstMeeting_37 : decode cX2_firstMeeting 37 = .ok (.ireturn, 1) := by decide +kernel
theorem dX2_firstMeeting_38 : decode cX2_firstMeeting 38 = .ok (.iinc 2 1, 3) := by decide +kernel
theorem dX2_firstMeeting_41 : decode cX2_firstMeeting 41 = .ok (.goto (-27), 3) := by decide +kernel
theorem dX2_firstMeeting_44 : decode cX2_firstMeeting 44 = .ok (.iinc 1 1, 3) := by decide +kernel
theorem dX2_firstMeeting_47 : decode cX2_firstMeeting 47 = .ok (.goto (-45), 3) := by decide +kernel
theorem dX2_firstMeeting_50 : decode cX2_firstMeeting 50 = .ok (.bipush (-9), 2) := by decide +kernel
theorem dX2_firstMeeting_52 : decode cX2_firstMeeting 52 = .ok (.ireturn, 1) := by decide +kernel
theorem dX2_strayed_0 : decode cX2_strayed 0 = .ok (.iconst 0, 1) := by decide +kernel
theorem dX2_strayed_1 : decode cX2_strayed 1 = .ok (.istore_n 1, 1) := by decide +kernel
theorem dX2_strayed_2 : decode cX2_strayed 2 = .ok (.bipush (-9), 2) := by decide +kernel
theorem dX2_strayed_4 : decode cX2_strayed 4 = .ok (.istore_n 2, 1) := by decide +kernel
theorem dX2_strayed_5 : decode cX2_strayed 5 = .ok (.iconst 0, 1) := by decide +kernel
theorem dX2_strayed_6 : decode cX2_strayed 6 = .ok (.istore_n 3, 1) := by decide +kernel
theorem dX2_strayed_7 : decode cX2_strayed 7 = .ok (.iload_n 3, 1) := by decide +kernel
theorem dX2_strayed_8 : decode cX2_strayed 8 = .ok (.aload_n 0, 1) := by decide +kernel
theorem dX2_strayed_9 : decode cX2_strayed 9 = .ok (.getfield 9, 3) := by decide +kernel
theorem dX2_strayed_12 : decode cX2_strayed 12 = .ok (.if_icmp .ge 60, 3) := by decide +kernel
theorem dX2_strayed_15 : decode cX2_strayed 15 = .ok (.iconst 0, 1) := by decide +kernel
theorem dX2_strayed_16 : decode cX2_strayed 16 = .ok (.istore 4, 2) := by decide +kernel
theorem dX2_strayed_18 : decode cX2_strayed 18 = .ok (.iconst 0, 1) := by decide +kernel
theorem dX2_strayed_19 : decode cX2_strayed 19 = .ok (.istore 5, 2) := by decide +kernel
theorem dX2_strayed_21 : decode cX2_strayed 21 = .ok (.iload 5, 2) := by decide +kernel
theorem dX2_strayed_23 : decode cX2_strayed 23 = .ok (.aload_n 0, 1) := by decide +kernel
theorem dX2_strayed_24 : decode cX2_strayed 24 = .ok (.getfield 9, 3) := by decide +kernel
theorem dX2_strayed_27 : decode cX2_strayed 27 = .ok (.if_icmp .ge 28, 3) := by decide +kernel
theorem dX2_strayed_30 : decode cX2_strayed 30 = .ok (.iload 5, 2) := by decide +kernel
theorem dX2_strayed_32 : decode cX2_strayed 32 = .ok (.iload_n 3, 1) := by decide +kernel
theorem dX2_strayed_33 : decode cX2_strayed 33 = .ok (.if_icmp .eq 16, 3) := by decide +kernel
theorem dX2_strayed_36 : decode cX2_strayed 36 = .ok (.aload_n 0, 1) := by decide +kernel
theorem dX2_strayed_37 : decode cX2_strayed 37 = .ok (.iload_n 3, 1) := by decide +kernel
theorem dX2_strayed_38 : decode cX2_strayed 38 = .ok (.iload 5, 2) := by decide +kernel
theorem dX2_strayed_40 : decode cX2_strayed 40 = .ok (.invokevirtual 111, 3) := by decide +kernel
theorem dX2_strayed_43 : decode cX2_strayed 43 = .ok (.ifCond .eq 6, 3) := by decide +kernel
theorem dX2_strayed_46 : decode cX2_strayed 46 = .ok (.iinc 4 1, 3) := by decide +kernel
theorem dX2_strayed_49 : decode cX2_strayed 49 = .ok (.iinc 5 1, 3) := by decide +kernel
theorem dX2_strayed_52 : decode cX2_strayed 52 = .ok (.goto (-31), 3) := by decide +kernel
theorem dX2_strayed_55 : decode cX2_strayed 55 = .ok (.iload 4, 2) := by decide +kernel
theorem dX2_strayed_57 : decode cX2_strayed 57 = .ok (.iload_n 1, 1) := by decide +kernel
theorem dX2_strayed_58 : decode cX2_strayed 58 = .ok (.if_icmp .le 8, 3) := by decide +kernel
theorem dX2_strayed_61 : decode cX2_strayed 61 = .ok (.iload 4, 2) := by decide +kernel
theorem dX2_strayed_63 : decode cX2_strayed 63 = .ok (.istore_n 1, 1) := by decide +kernel
theorem dX2_strayed_64 : decode cX2_strayed 64 = .ok (.iload_n 3, 1) := by decide +kernel
theorem dX2_strayed_65 : decode cX2_strayed 65 = .ok (.istore_n 2, 1) := by decide +kernel
theorem dX2_strayed_66 : decode cX2_strayed 66 = .ok (.iinc 3 1, 3) := by decide +kernel
theorem dX2_strayed_69 : decode cX2_strayed 69 = .ok (.goto (-62), 3) := by decide +kernel
theorem dX2_strayed_72 : decode cX2_strayed 72 = .ok (.iload_n 2, 1) := by decide +kernel
theorem dX2_strayed_73 : decode cX2_strayed 73 = .ok (.ireturn, 1) := by decide +kernel
theorem dX2_guestsAt_0 : decode cX2_guestsAt 0 = .ok (.iconst 0, 1) := by decide +kernel
theorem dX2_guestsAt_1 : decode cX2_guestsAt 1 = .ok (.istore_n 2, 1) := by decide +kernel
theorem dX2_guestsAt_2 : decode cX2_guestsAt 2 = .ok (.iconst 0, 1) := by decide +kernel
theorem dX2_guestsAt_3 : decode cX2_guestsAt 3 = .ok (.istore_n 3, 1) := by decide +kernel
theorem dX2_guestsAt_4 : decode cX2_guestsAt 4 = .ok (.iload_n 3, 1) := by decide +kernel
theorem dX2_guestsAt_5 : decode cX2_guestsAt 5 = .ok (.aload_n 0, 1) := by decide +kernel
theorem dX2_guestsAt_6 : decode cX2_guestsAt 6 = .ok (.getfield 9, 3) := by decide +kernel
theorem dX2_guestsAt_9 : decode cX2_guestsAt 9 = .ok (.if_icmp .ge 37, 3) := by decide +kernel
theorem dX2_guestsAt_12 : decode cX2_guestsAt 12 = .ok (.aload_n 0, 1) := by decide +kernel
theorem dX2_guestsAt_13 : decode cX2_guestsAt 13 = .ok (.getfield 28, 3) := by decide +kernel
theorem dX2_guestsAt_16 : decode cX2_guestsAt 16 = .ok (.iload_n 3, 1) := by decide +kernel
theorem dX2_guestsAt_17 : decode cX2_guestsAt 17 = .ok (.iaload, 1) := by decide +kernel
theorem dX2_guestsAt_18 : decode cX2_guestsAt 18 = .ok (.iload_n 1, 1) := by decide +kernel
theorem dX2_guestsAt_19 : decode cX2_guestsAt 19 = .ok (.if_icmp .gt 21, 3) := by decide +kernel
theorem dX2_guestsAt_22 : decode cX2_guestsAt 22 = .ok (.iload_n 1, 1) := by decide +kernel
theorem dX2_guestsAt_23 : decode cX2_guestsAt 23 = .ok (.aload_n 0, 1) := by decide +kernel
theorem dX2_guestsAt_24 : decode cX2_guestsAt 24 = .ok (.getfield 31, 3) := by decide +kernel
theorem dX2_guestsAt_27 : decode cX2_guestsAt 27 = .ok (.iload_n 3, 1) := by decide +kernel
theorem dX2_guestsAt_28 : decode cX2_guestsAt 28 = .ok (.iaload, 1) := by decide +kernel
theorem dX2_guestsAt_29 : decode cX2_guestsAt 29 = .ok (.if_icmp .ge 11, 3) := by decide +kernel
theorem dX2_guestsAt_32 : decode cX2_guestsAt 32 = .ok (.iload_n 2, 1) := by decide +kernel
theorem dX2_guestsAt_33 : decode cX2_guestsAt 33 = .ok (.aload_n 0, 1) := by decide +kernel
theorem dX2_guestsAt_34 : decode cX2_guestsAt 34 = .ok (.iload_n 3, 1) := by decide +kernel
theorem dX2_guestsAt_35 : decode cX2_guestsAt 35 = .ok (.invokevirtual 115, 3) := by decide +kernel
theorem dX2_guestsAt_38 : decode cX2_guestsAt 38 = .ok (.iadd, 1) := by decide +kernel
theorem dX2_guestsAt_39 : decode cX2_guestsAt 39 = .ok (.istore_n 2, 1) := by decide +kernel
theorem dX2_guestsAt_40 : decode cX2_guestsAt 40 = .ok (.iinc 3 1, 3) := by decide +kernel
theorem dX2_guestsAt_43 : decode cX2_guestsAt 43 = .ok (.goto (-39), 3) := by decide +kernel
theorem dX2_guestsAt_46 : decode cX2_guestsAt 46 = .ok (.iload_n 2, 1) := by decide +kernel
theorem dX2_guestsAt_47 : decode cX2_guestsAt 47 = .ok (.ireturn, 1) := by decide +kernel
theorem dX2_longestOne_0 : decode cX2_longestOne 0 = .ok (.iconst 0, 1) := by decide +kernel
theorem dX2_longestOne_1 : decode cX2_longestOne 1 = .ok (.istore_n 1, 1) := by decide +kernel
theorem dX2_longestOne_2 : decode cX2_longestOne 2 = .ok (.bipush (-9), 2) := by decide +kernel
theorem dX2_longestOne_4 : decode cX2_longestOne 4 = .ok (.istore_n 2, 1) := by decide +kernel
theorem dX2_longestOne_5 : decode cX2_longestOne 5 = .ok (.iconst 0, 1) := by decide +kernel
theorem dX2_longestOne_6 : decode cX2_longestOne 6 = .ok (.istore_n 3, 1) := by decide +kernel
theorem dX2_longestOne_7 : decode cX2_longestOne 7 = .ok (.iload_n 3, 1) := by decide +kernel
theorem dX2_longestOne_8 : decode cX2_longestOne 8 = .ok (.aload_n 0, 1) := by decide +kernel
theorem dX2_longestOne_9 : decode cX2_longestOne 9 = .ok (.getfield 9, 3) := by decide +kernel
theorem dX2_longestOne_12 : decode cX2_longestOne 12 = .ok (.if_icmp .ge 26, 3) := by decide +kernel
theorem dX2_longestOne_15 : decode cX2_longestOne 15 = .ok (.aload_n 0, 1) := by decide +kernel
theorem dX2_longestOne_16 : decode cX2_longestOne 16 = .ok (.iload_n 3, 1) := by decide +kernel
theorem dX2_longestOne_17 : decode cX2_longestOne 17 = .ok (.invokevirtual 118, 3) := by decide +kernel
theorem dX2_longestOne_20 : decode cX2_longestOne 20 = .ok (.iload_n 1, 1) := by decide +kernel
theorem dX2_longestOne_21 : decode cX2_longestOne 21 = .ok (.if_icmp .le 11, 3) := by decide +kernel
theorem dX2_longestOne_24 : decode cX2_longestOne 24 = .ok (.aload_n 0, 1) := by decide +kernel
theorem dX2_longestOne_25 : decode cX2_longestOne 25 = .ok (.iload_n 3, 1) := by decide +kernel
theorem dX2_longestOne_26 : decode cX2_longestOne 26 = .ok (.invokevirtual 118, 3) := by decide +kernel
theorem dX2_longestOne_29 : decode cX2_longestOne 29 = .ok (.istore_n 1, 1) := by decide +kernel
theorem dX2_longestOne_30 : decode cX2_longestOne 30 = .ok (.iload_n 3, 1) := by decide +kernel
theorem dX2_longestOne_31 : decode cX2_longestOne 31 = .ok (.istore_n 2, 1) := by decide +kernel
theorem dX2_longestOne_32 : decode cX2_longestOne 32 = .ok (.iinc 3 1, 3) := by decide +kernel
theorem dX2_longestOne_35 : decode cX2_longestOne 35 = .ok (.goto (-28), 3) := by decide +kernel
theorem dX2_longestOne_38 : decode cX2_longestOne 38 = .ok (.iload_n 2, 1) := by decide +kernel
theorem dX2_longestOne_39 : decode cX2_longestOne 39 = .ok (.ireturn, 1) := by decide +kernel
theorem dX2_dearest_0 : decode cX2_dearest 0 = .ok (.iconst 0, 1) := by decide +kernel
theorem dX2_dearest_1 : decode cX2_dearest 1 = .ok (.istore_n 1, 1) := by decide +kernel
theorem dX2_dearest_2 : decode cX2_dearest 2 = .ok (.bipush (-9), 2) := by decide +kernel
theorem dX2_dearest_4 : decode cX2_dearest 4 = .ok (.istore_n 2, 1) := by decide +kernel
theorem dX2_dearest_5 : decode cX2_dearest 5 = .ok (.iconst 0, 1) := by decide +kernel
theorem dX2_dearest_6 : decode cX2_dearest 6 = .ok (.istore_n 3, 1) := by decide +kernel
theorem dX2_dearest_7 : decode cX2_dearest 7 = .ok (.iload_n 3, 1) := by decide +kernel
theorem dX2_dearest_8 : decode cX2_dearest 8 = .ok (.aload_n 0, 1) := by decide +kernel
theorem dX2_dearest_9 : decode cX2_dearest 9 = .ok (.getfield 9, 3) := by decide +kernel
theorem dX2_dearest_12 : decode cX2_dearest 12 = .ok (.if_icmp .ge 34, 3) := by decide +kernel
theorem dX2_dearest_15 : decode cX2_dearest 15 = .ok (.aload_n 0, 1) := by decide +kernel
theorem dX2_dearest_16 : decode cX2_dearest 16 = .ok (.iload_n 3, 1) := by decide +kernel
theorem dX2_dearest_17 : decode cX2_dearest 17 = .ok (.invokevirtual 104, 3) := by decide +kernel
theorem dX2_dearest_20 : decode cX2_dearest 20 = .ok (.ifCond .ne 20, 3) := by decide +kernel
theorem dX2_dearest_23 : decode cX2_dearest 23 = .ok (.aload_n 0, 1) := by decide +kernel
theorem dX2_dearest_24 : decode cX2_dearest 24 = .ok (.iload_n 3, 1) := by decide +kernel
theorem dX2_dearest_25 : decode cX2_dearest 25 = .ok (.invokevirtual 115, 3) := by decide +kernel
theorem dX2_dearest_28 : decode cX2_dearest 28 = .ok (.iload_n 1, 1) := by decide +kernel
theorem dX2_dearest_29 : decode cX2_dearest 29 = .ok (.if_icmp .le 11, 3) := by decide +kernel
theorem dX2_dearest_32 : decode cX2_dearest 32 = .ok (.aload_n 0, 1) := by decide +kernel
theorem dX2_dearest_33 : decode cX2_dearest 33 = .ok (.iload_n 3, 1) := by decide +kernel
theorem dX2_dearest_34 : decode cX2_dearest 34 = .ok (.invokevirtual 115, 3) := by decide +kernel
theorem dX2_dearest_37 : decode cX2_dearest 37 = .ok (.istore_n 1, 1) := by decide +kernel
theorem dX2_dearest_38 : decode cX2_dearest 38 = .ok (.iload_n 3, 1) := by decide +kernel
theorem dX2_dearest_39 : decode cX2_dearest 39 = .ok (.istore_n 2, 1) := by decide +kernel
theorem dX2_dearest_40 : decode cX2_dearest 40 = .ok (.iinc 3 1, 3) := by decide +kernel
theorem dX2_dearest_43 : decode cX2_dearest 43 = .ok (.goto (-36), 3) := by decide +kernel
theorem dX2_dearest_46 : decode cX2_dearest 46 = .ok (.iload_n 2, 1) := by decide +kernel
theorem dX2_dearest_47 : decode cX2_dearest 47 = .ok (.ireturn, 1) := by decide +kernel
theorem dX2_bunched_0 : decode cX2_bunched 0 = .ok (.iconst 0, 1) := by decide +kernel
theorem dX2_bunched_1 : decode cX2_bunched 1 = .ok (.istore_n 1, 1) := by decide +kernel
theorem dX2_bunched_2 : decode cX2_bunched 2 = .ok (.iconst 0, 1) := by decide +kernel
theorem dX2_bunched_3 : decode cX2_bunched 3 = .ok (.istore_n 2, 1) := by decide +kernel
theorem dX2_bunched_4 : decode cX2_bunched 4 = .ok (.iload_n 2, 1) := by decide +kernel
theorem dX2_bunched_5 : decode cX2_bunched 5 = .ok (.aload_n 0, 1) := by decide +kernel
theorem dX2_bunched_6 : decode cX2_bunched 6 = .ok (.getfield 9, 3) := by decide +kernel
theorem dX2_bunched_9 : decode cX2_bunched 9 = .ok (.if_icmp .ge 51, 3) := by decide +kernel
theorem dX2_bunched_12 : decode cX2_bunched 12 = .ok (.iload_n 2, 1) := by decide +kernel
theorem dX2_bunched_13 : decode cX2_bunched 13 = .ok (.iconst 1, 1) := by decide +kernel
theorem dX2_bunched_14 : decode cX2_bunched 14 = .ok (.iadd, 1) := by decide +kernel
theorem dX2_bunched_15 : decode cX2_bunched 15 = .ok (.istore_n 3, 1) := by decide +kernel
theorem dX2_bunched_16 : decode cX2_bunched 16 = .ok (.iload_n 3, 1) := by decide +kernel
theorem dX2_bunched_17 : decode cX2_bunched 17 = .ok (.aload_n 0, 1) := by decide +kernel
theorem dX2_bunched_18 : decode cX2_bunched 18 = .ok (.getfield 9, 3) := by decide +kernel
theorem dX2_bunched_21 : decode cX2_bunched 21 = .ok (.if_icmp .ge 33, 3) := by decide +kernel
theorem dX2_bunched_24 : decode cX2_bunched 24 = .ok (.aload_n 0, 1) := by decide +kernel
theorem dX2_bunched_25 : decode cX2_bunched 25 = .ok (.getfield 22, 3) := by decide +kernel
theorem dX2_bunched_28 : decode cX2_bunched 28 = .ok (.iload_n 2, 1) := by decide +kernel
theorem dX2_bunched_29 : decode cX2_bunched 29 = .ok (.iaload, 1) := by decide +kernel
theorem dX2_bunched_30 : decode cX2_bunched 30 = .ok (.aload_n 0, 1) := by decide +kernel
theorem dX2_bunched_31 : decode cX2_bunched 31 = .ok (.getfield 22, 3) := by decide +kernel
theorem dX2_bunched_34 : decode cX2_bunched 34 = .ok (.iload_n 3, 1) := by decide +kernel
theorem dX2_bunched_35 : decode cX2_bunched 35 = .ok (.iaload, 1) := by decide +kernel
theorem dX2_bunched_36 : decode cX2_bunched 36 = .ok (.isub, 1) := by decide +kernel
theorem dX2_bunched_37 : decode cX2_bunched 37 = .ok (.invokestatic 108, 3) := by decide +kernel
theorem dX2_bunched_40 : decode cX2_bunched 40 = .ok (.bipush 15, 2) := by decide +kernel
theorem dX2_bunched_42 : decode cX2_bunched 42 = .ok (.if_icmp .ge 6, 3) := by decide +kernel
theorem dX2_bunched_45 : decode cX2_bunched 45 = .ok (.iinc 1 1, 3) := by decide +kernel
theorem dX2_bunched_48 : decode cX2_bunched 48 = .ok (.iinc 3 1, 3) := by decide +kernel
theorem dX2_bunched_51 : decode cX2_bunched 51 = .ok (.goto (-35), 3) := by decide +kernel
theorem dX2_bunched_54 : decode cX2_bunched 54 = .ok (.iinc 2 1, 3) := by decide +kernel
theorem dX2_bunched_57 : decode cX2_bunched 57 = .ok (.goto (-53), 3) := by decide +kernel
theorem dX2_bunched_60 : decode cX2_bunched 60 = .ok (.iload_n 1, 1) := by decide +kernel
theorem dX2_bunched_61 : decode cX2_bunched 61 = .ok (.ireturn, 1) := by decide +kernel
theorem dX3_isOne_0 : decode cX3_isOne 0 = .ok (.iload_n 0, 1) := by decide +kernel
theorem dX3_isOne_1 : decode cX3_isOne 1 = .ok (.ifCond .lt 13, 3) := by decide +kernel
theorem dX3_isOne_4 : decode cX3_isOne 4 = .ok (.iload_n 0, 1) := by decide +kernel
theorem dX3_isOne_5 : decode cX3_isOne 5 = .ok (.bipush 6, 2) := by decide +kernel
theorem dX3_isOne_7 : decode cX3_isOne 7 = .ok (.if_icmp .ge 7, 3) := by decide +kernel
theorem dX3_isOne_10 : decode cX3_isOne 10 = .ok (.iconst 1, 1) := by decide +kernel
theorem dX3_isOne_11 : decode cX3_isOne 11 = .ok (.goto 4, 3) := by decide +kernel
theorem dX3_isOne_14 : decode cX3_isOne 14 = .ok (.iconst 0, 1) := by decide +kernel
theorem dX3_isOne_15 : decode cX3_isOne 15 = .ok (.ireturn, 1) := by decide +kernel
theorem dX3_lasts_0 : decode cX3_lasts 0 = .ok (.bipush 15, 2) := by decide +kernel
theorem dX3_lasts_2 : decode cX3_lasts 2 = .ok (.iload_n 1, 1) := by decide +kernel
theorem dX3_lasts_3 : decode cX3_lasts 3 = .ok (.iadd, 1) := by decide +kernel
theorem dX3_lasts_4 : decode cX3_lasts 4 = .ok (.istore_n 2, 1) := by decide +kernel
theorem dX3_lasts_5 : decode cX3_lasts 5 = .ok (.bipush 10, 2) := by decide +kernel
theorem dX3_lasts_7 : decode cX3_lasts 7 = .ok (.iload_n 1, 1) := by decide +kernel
theorem dX3_lasts_8 : decode cX3_lasts 8 = .ok (.iconst 2, 1) := by decide +kernel
theorem dX3_lasts_9 : decode cX3_lasts 9 = .ok (.idiv, 1) := by decide +kernel
theorem dX3_lasts_10 : decode cX3_lasts 10 = .ok (.iadd, 1) := by decide +kernel
theorem dX3_lasts_11 : decode cX3_lasts 11 = .ok (.istore_n 3, 1) := by decide +kernel
theorem dX3_lasts_12 : decode cX3_lasts 12 = .ok (.iload_n 2, 1) := by decide +kernel
theorem dX3_lasts_13 : decode cX3_lasts 13 = .ok (.bipush 8, 2) := by decide +kernel
theorem dX3_lasts_15 : decode cX3_lasts 15 = .ok (.iadd, 1) := by decide +kernel
theorem dX3_lasts_16 : decode cX3_lasts 16 = .ok (.istore 4, 2) := by decide +kernel
theorem dX3_lasts_18 : decode cX3_lasts 18 = .ok (.iload_n 0, 1) := by decide +kernel
theorem dX3_lasts_19 : decode cX3_lasts 19 = .ok (.tableswitch 47 1 5 #[33, 35, 47, 38, 42], 33) := by decide +kernel
theorem dX3_lasts_52 : decode cX3_lasts 52 = .ok (.iload_n 3, 1) := by decide +kernel
theorem dX3_lasts_53 : decode cX3_lasts 53 = .ok (.ireturn, 1) := by decide +kernel
theorem dX3_lasts_54 : decode cX3_lasts 54 = .ok (.iload 4, 2) := by decide +kernel
theorem dX3_lasts_56 : decode cX3_lasts 56 = .ok (.ireturn, 1) := by decide +kernel
theorem dX3_lasts_57 : decode cX3_lasts 57 = .ok (.iload_n 3, 1) := by decide +kernel
theorem dX3_lasts_58 : decode cX3_lasts 58 = .ok (.iconst 2, 1) := by decide +kernel
theorem dX3_lasts_59 : decode cX3_lasts 59 = .ok (.isub, 1) := by decide +kernel
theorem dX3_lasts_60 : decode cX3_lasts 60 = .ok (.ireturn, 1) := by decide +kernel
theorem dX3_lasts_61 : decode cX3_lasts 61 = .ok (.iload 4, 2) := by decide +kernel
theorem dX3_lasts_63 : decode cX3_lasts 63 = .ok (.iconst 5, 1) := by decide +kernel
theorem dX3_lasts_64 : decode cX3_lasts 64 = .ok (.iadd, 1) := by decide +kernel
theorem dX3_lasts_65 : decode cX3_lasts 65 = .ok (.ireturn, 1) := by decide +kernel
theorem dX3_lasts_66 : decode cX3_lasts 66 = .ok (.iload_n 2, 1) := by decide +kernel
theorem dX3_lasts_67 : decode cX3_lasts 67 = .ok (.ireturn, 1) := by decide +kernel
theorem dX3_ready_0 : decode cX3_ready 0 = .ok (.iload_n 0, 1) := by decide +kernel
theorem dX3_ready_1 : decode cX3_ready 1 = .ok (.tableswitch 76 1 5 #[35, 48, 54, 61, 48], 35) := by decide +kernel
theorem dX3_ready_36 : decode cX3_ready 36 = .ok (.iload_n 2, 1) := by decide +kernel
theorem dX3_ready_37 : decode cX3_ready 37 = .ok (.iconst 5, 1) := by decide +kernel
theorem dX3_ready_38 : decode cX3_ready 38 = .ok (.if_icmp .le 9, 3) := by decide +kernel
theorem dX3_ready_41 : decode cX3_ready 41 = .ok (.iload_n 2, 1) := by decide +kernel
theorem dX3_ready_42 : decode cX3_ready 42 = .ok (.iconst 5, 1) := by decide +kernel
theorem dX3_ready_43 : decode cX3_ready 43 = .ok (.isub, 1) := by decide +kernel
theorem dX3_ready_44 : decode cX3_ready 44 = .ok (.goto 4, 3) := by decide +kernel
theorem dX3_ready_47 : decode cX3_ready 47 = .ok (.iconst 0, 1) := by decide +kernel
theorem dX3_ready_48 : decode cX3_ready 48 = .ok (.ireturn, 1) := by decide +kernel
theorem dX3_ready_49 : decode cX3_ready 49 = .ok (.iload_n 2, 1) := by decide +kernel
theorem dX3_ready_50 : decode cX3_ready 50 = .ok (.iload_n 1, 1) := by decide +kernel
theorem dX3_ready_51 : decode cX3_ready 51 = .ok (.iconst 2, 1) := by decide +kernel
theorem dX3_ready_52 : decode cX3_ready 52 = .ok (.idiv, 1) := by decide +kernel
theorem dX3_ready_53 : decode cX3_ready 53 = .ok (.iadd, 1) := by decide +kernel
theorem dX3_ready_54 : decode cX3_ready 54 = .ok (.ireturn, 1) := by decide +kernel
theorem dX3_ready_55 : decode cX3_ready 55 = .ok (.iload_n 2, 1) := by decide +kernel
theorem dX3_ready_56 : decode cX3_ready 56 = .ok (.iload_n 1, 1) := by decide +kernel
theorem dX3_ready_57 : decode cX3_ready 57 = .ok (.iadd, 1) := by decide +kernel
theorem dX3_ready_58 : decode cX3_ready 58 = .ok (.bipush 7, 2) := by decide +kernel
theorem dX3_ready_60 : decode cX3_ready 60 = .ok (.iadd, 1) := by decide +kernel
theorem dX3_ready_61 : decode cX3_ready 61 = .ok (.ireturn, 1) := by decide +kernel
theorem dX3_ready_62 : decode cX3_ready 62 = .ok (.iload_n 2, 1) := by decide +kernel
theorem dX3_ready_63 : decode cX3_ready 63 = .ok (.bipush 20, 2) := by decide +kernel
theorem dX3_ready_65 : decode cX3_ready 65 = .ok (.if_icmp .le 10, 3) := by decide +kernel
theorem dX3_ready_68 : decode cX3_ready 68 = .ok (.iload_n 2, 1) := by decide +kernel
theorem dX3_ready_69 : decode cX3_ready 69 = .ok (.bipush 20, 2) := by decide +kernel
theorem dX3_ready_71 : decode cX3_ready 71 = .ok (.isub, 1) := by decide +kernel
theorem dX3_ready_72 : decode cX3_ready 72 = .ok (.goto 4, 3) := by decide +kernel
theorem dX3_ready_75 : decode cX3_ready 75 = .ok (.iconst 0, 1) := by decide +kernel
theorem dX3_ready_76 : decode cX3_ready 76 = .ok (.ireturn, 1) := by decide +kernel
theorem dX3_ready_77 : decode cX3_ready 77 = .ok (.iload_n 2, 1) := by decide +kernel
theorem dX3_ready_78 : decode cX3_ready 78 = .ok (.ireturn, 1) := by decide +kernel
theorem dX3_guests_0 : decode cX3_guests 0 = .ok (.iload_n 1, 1) := by decide +kernel
theorem dX3_guests_1 : decode cX3_guests 1 = .ok (.iconst 4, 1) := by decide +kernel
theorem dX3_guests_2 : decode cX3_guests 2 = .ok (.iadd, 1) := by decide +kernel
theorem dX3_guests_3 : decode cX3_guests 3 = .ok (.istore_n 2, 1) := by decide +kernel
theorem dX3_guests_4 : decode cX3_guests 4 = .ok (.iload_n 0, 1) := by decide +kernel
theorem dX3_guests_5 : decode cX3_guests 5 = .ok (.tableswitch 49 1 5 #[35, 39, 49, 35, 43], 35) := by decide +kernel
theorem dX3_guests_40 : decode cX3_guests 40 = .ok (.iload_n 2, 1) := by decide +kernel
theorem dX3_guests_41 : decode cX3_guests 41 = .ok (.iconst 2, 1) := by decide +kernel
theorem dX3_guests_42 : decode cX3_guests 42 = .ok (.idiv, 1) := by decide +kernel
theorem dX3_guests_43 : decode cX3_guests 43 = .ok (.ireturn, 1) := by decide +kernel
theorem dX3_guests_44 : decode cX3_guests 44 = .ok (.iload_n 2, 1) := by decide +kernel
theorem dX3_guests_45 : decode cX3_guests 45 = .ok (.iconst 2, 1) := by decide +kernel
theorem dX3_guests_46 : decode cX3_guests 46 = .ok (.imul, 1) := by decide +kernel
theorem dX3_guests_47 : decode cX3_guests 47 = .ok (.ireturn, 1) := by decide +kernel
theorem dX3_guests_48 : decode cX3_guests 48 = .ok (.iload_n 2, 1) := by decide +kernel
theorem dX3_guests_49 : decode cX3_guests 49 = .ok (.iconst 2, 1) := by decide +kernel
theorem dX3_guests_50 : decode cX3_guests 50 = .ok (.imul, 1) := by decide +kernel
theorem dX3_guests_51 : decode cX3_guests 51 = .ok (.iconst 3, 1) := by decide +kernel
theorem dX3_guests_52 : decode cX3_guests 52 = .ok (.isub, 1) := by decide +kernel
theorem dX3_guests_53 : decode cX3_guests 53 = .ok (.ireturn, 1) := by decide +kernel
theorem dX3_guests_54 : decode cX3_guests 54 = .ok (.iload_n 2, 1) := by decide +kernel
theorem dX3_guests_55 : decode cX3_guests 55 = .ok (.ireturn, 1) := by decide +kernel
theorem dX3_poses_0 : decode cX3_poses 0 = .ok (.iload_n 0, 1) := by decide +kernel
theorem dX3_poses_1 : decode cX3_poses 1 = .ok (.iconst 2, 1) := by decide +kernel
theorem dX3_poses_2 : decode cX3_poses 2 = .ok (.if_icmp .eq 8, 3) := by decide +kernel
theorem dX3_poses_5 : decode cX3_poses 5 = .ok (.iload_n 0, 1) := by decide +kernel
theorem dX3_poses_6 : decode cX3_poses 6 = .ok (.iconst 5, 1) := by decide +kernel
theorem dX3_poses_7 : decode cX3_poses 7 = .ok (.if_icmp .ne 9, 3) := by decide +kernel
theorem dX3_poses_10 : decode cX3_poses 10 = .ok (.iconst 3, 1) := by decide +kernel
theorem dX3_poses_11 : decode cX3_poses 11 = .ok (.iload_n 1, 1) := by decide +kernel
theorem dX3_poses_12 : decode cX3_poses 12 = .ok (.iadd, 1) := by decide +kernel
theorem dX3_poses_13 : decode cX3_poses 13 = .ok (.goto 4, 3) := by decide +kernel
theorem dX3_poses_16 : decode cX3_poses 16 = .ok (.iconst 3, 1) := by decide +kernel
theorem dX3_poses_17 : decode cX3_poses 17 = .ok (.ireturn, 1) := by decide +kernel
theorem dX4_init_0 : decode cX4_init 0 = .ok (.aload_n 0, 1) := by decide +kernel
theorem dX4_init_1 : decode cX4_init 1 = .ok (.invokespecial 3, 3) := by decide +kernel
theorem dX4_init_4 : decode cX4_init 4 = .ok (.aload_n 0, 1) := by decide +kernel
theorem dX4_init_5 : decode cX4_init 5 = .ok (.bipush 96, 2) := by decide +kernel
theorem dX4_init_7 : decode cX4_init 7 = .ok (.newarray .int, 2) := by decide +kernel
theorem dX4_init_9 : decode cX4_init 9 = .ok (.putfield 11, 3) := by decide +kernel
theorem dX4_init_12 : decode cX4_init 12 = .ok (.aload_n 0, 1) := by decide +kernel
theorem dX4_init_13 : decode cX4_init 13 = .ok (.iconst 0, 1) := by decide +kernel
theorem dX4_init_14 : decode cX4_init 14 = .ok (.putfield 15, 3) := by decide +kernel
theorem dX4_init_17 : decode cX4_init 17 = .ok (.return_, 1) := by decide +kernel
theorem dX4_take_0 : decode cX4_take 0 = .ok (.aload_n 0, 1) := by decide +kernel
theorem dX4_take_1 : decode cX4_take 1 = .ok (.getfield 15, 3) := by decide +kernel
theorem dX4_take_4 : decode cX4_take 4 = .ok (.bipush 96, 2) := by decide +kernel
theorem dX4_take_6 : decode cX4_take 6 = .ok (.if_icmp .lt 5, 3) := by decide +kernel
theorem dX4_take_9 : decode cX4_take 9 = .ok (.iconst 0, 1) := by decide +kernel
theorem dX4_take_10 : decode cX4_take 10 = .ok (.ireturn, 1) := by decide +kernel
theorem dX4_take_11 : decode cX4_take 11 = .ok (.aload_n 0, 1) := by decide +kernel
theorem dX4_take_12 : decode cX4_take 12 = .ok (.getfield 11, 3) := by decide +kernel
theorem dX4_take_15 : decode cX4_take 15 = .ok (.aload_n 0, 1) := by decide +kernel
theorem dX4_take_16 : decode cX4_take 16 = .ok (.getfield 15, 3) := by decide +kernel
theorem dX4_take_19 : decode cX4_take 19 = .ok (.iload_n 1, 1) := by decide +kernel
theorem dX4_take_20 : decode cX4_take 20 = .ok (.iastore, 1) := by decide +kernel
theorem dX4_take_21 : decode cX4_take 21 = .ok (.aload_n 0, 1) := by decide +kernel
theorem dX4_take_22 : decode cX4_take 22 = .ok (.dup, 1) := by decide +kernel
theorem dX4_take_23 : decode cX4_take 23 = .ok (.getfield 15, 3) := by decide +kernel
theorem dX4_take_26 : decode cX4_take 26 = .ok (.iconst 1, 1) := by decide +kernel
theorem dX4_take_27 : decode cX4_take 27 = .ok (.iadd, 1) := by decide +kernel
theorem dX4_take_28 : decode cX4_take 28 = .ok (.putfield 15, 3) := by decide +kernel
theorem dX4_take_31 : decode cX4_take 31 = .ok (.iconst 1, 1) := by decide +kernel
theorem dX4_take_32 : decode cX4_take 32 = .ok (.ireturn, 1) := by decide +kernel
theorem dX4_digitsBehind_0 : decode cX4_digitsBehind 0 = .ok (.iload_n 0, 1) := by decide +kernel
theorem dX4_digitsBehind_1 : decode cX4_digitsBehind 1 = .ok (.lookupswitch 65 #[(98, 63), (99, 59), (102, 61), (114, 61), (115, 61), (119, 61)], 59) := by decide +kernel
theorem dX4_digitsBehind_60 : decode cX4_digitsBehind 60 = .ok (.iconst 5, 1) := by decide +kernel
theorem dX4_digitsBehind_61 : decode cX4_digitsBehind 61 = .ok (.ireturn, 1) := by decide +kernel
theorem dX4_digitsBehind_62 : decode cX4_digitsBehind 62 = .ok (.iconst 1, 1) := by decide +kernel
theorem dX4_digitsBehind_63 : decode cX4_digitsBehind 63 = .ok (.ireturn, 1) := by decide +kernel
theorem dX4_digitsBehind_64 : decode cX4_digitsBehind 64 = .ok (.iconst 2, 1) := by decide +kernel
theorem dX4_digitsBehind_65 : decode cX4_digitsBehind 65 = .ok (.ireturn, 1) := by decide +kernel
theorem dX4_digitsBehind_66 : decode cX4_digitsBehind 66 = .ok (.iconst 0, 1) := by decide +kernel
theorem dX4_digitsBehind_67 : decode cX4_digitsBehind 67 = .ok (.ireturn, 1) := by decide +kernel
theorem dX4_isDigit_0 : decode cX4_isDigit 0 = .ok (.iload_n 1, 1) := by decide +kernel
theorem dX4_isDigit_1 : decode cX4_isDigit 1 = .ok (.aload_n 0, 1) := by decide +kernel
theorem dX4_isDigit_2 : decode cX4_isDigit 2 = .ok (.getfield 15, 3) := by decide +kernel
theorem dX4_isDigit_5 : decode cX4_isDigit 5 = .ok (.if_icmp .ge 29, 3) := by decide +kernel
theorem dX4_isDigit_8 : decode cX4_isDigit 8 = .ok (.aload_n 0, 1) := by decide +kernel
theorem dX4_isDigit_9 : decode cX4_isDigit 9 = .ok (.getfield 11, 3) := by decide +kernel
theorem dX4_isDigit_12 : decode cX4_isDigit 12 = .ok (.iload_n 1, 1) := by decide +kernel
theorem dX4_isDigit_13 : decode cX4_isDigit 13 = .ok (.iaload, 1) := by decide +kernel
theorem dX4_isDigit_14 : decode cX4_isDigit 14 = .ok (.bipush 48, 2) := by decide +kernel
theorem dX4_isDigit_16 : decode cX4_isDigit 16 = .ok (.if_icmp .lt 18, 3) := by decide +kernel
theorem dX4_isDigit_19 : decode cX4_isDigit 19 = .ok (.aload_n 0, 1) := by decide +kernel
theorem dX4_isDigit_20 : decode cX4_isDigit 20 = .ok (.getfield 11, 3) := by decide +kernel
theorem dX4_isDigit_23 : decode cX4_isDigit 23 = .ok (.iload_n 1, 1) := by decide +kernel
theorem dX4_isDigit_24 : decode cX4_isDigit 24 = .ok (.iaload, 1) := by decide +kernel
theorem dX4_isDigit_25 : decode cX4_isDigit 25 = .ok (.bipush 57, 2) := by decide +kernel
theorem dX4_isDigit_27 : decode cX4_isDigit 27 = .ok (.if_icmp .gt 7, 3) := by decide +kernel
theorem dX4_isDigit_30 : decode cX4_isDigit 30 = .ok (.iconst 1, 1) := by decide +kernel
theorem dX4_isDigit_31 : decode cX4_isDigit 31 = .ok (.goto 4, 3) := by decide +kernel
theorem dX4_isDigit_34 : decode cX4_isDigit 34 = .ok (.iconst 0, 1) := by decide +kernel
theorem dX4_isDigit_35 : decode cX4_isDigit 35 = .ok (.ireturn, 1) := by decide +kernel
theorem dX4_faultyPlace_0 : decode cX4_faultyPlace 0 = .ok (.aload_n 0, 1) := by decide +kernel
theorem dX4_faultyPlace_1 : decode cX4_faultyPlace 1 = .ok (.getfield 15, 3) := by decide +kernel
theorem dX4_faultyPlace_4 : decode cX4_faultyPlace 4 = .ok (.ifCond .ne 5, 3) := by decide +kernel
theorem dX4_faultyPlace_7 : decode cX4_faultyPlace 7 = .ok (.iconst 0, 1) := by decide +kernel
theorem dX4_faultyPlace_8 : decode cX4_faultyPlace 8 = .ok (.ireturn, 1) := by decide +kernel
theorem dX4_faultyPlace_9 : decode cX4_faultyPlace 9 = .ok (.iconst 0, 1) := by decide +kernel
theorem dX4_faultyPlace_10 : decode cX4_faultyPlace 10 = .ok (.istore_n 1, 1) := by decide +kernel
theorem dX4_faultyPlace_11 : decode cX4_faultyPlace 11 = .ok (.iload_n 1, 1) := by decide +kernel
theorem dX4_faultyPlace_12 : decode cX4_faultyPlace 12 = .ok (.aload_n 0, 1) := by decide +kernel
theorem dX4_faultyPlace_13 : decode cX4_faultyPlace 13 = .ok (.getfield 15, 3) := by decide +kernel
theorem dX4_faultyPlace_16 : decode cX4_faultyPlace 16 = .ok (.if_icmp .ge 75, 3) := by decide +kernel
theorem dX4_faultyPlace_19 : decode cX4_faultyPlace 19 = .ok (.aload_n 0, 1) := by decide +kernel
theorem dX4_faultyPlace_20 : decode cX4_faultyPlace 20 = .ok (.getfield 11, 3) := by decide +kernel
theorem dX4_faultyPlace_23 : decode cX4_faultyPlace 23 = .ok (.iload_n 1, 1) := by decide +kernel
theorem dX4_faultyPlace_24 : decode cX4_faultyPlace 24 = .ok (.iaload, 1) := by decide +kernel
theorem dX4_faultyPlace_25 : decode cX4_faultyPlace 25 = .ok (.invokestatic 19, 3) := by decide +kernel
theorem dX4_faultyPlace_28 : decode cX4_faultyPlace 28 = .ok (.istore_n 2, 1) := by decide +kernel
theorem dX4_faultyPlace_29 : decode cX4_faultyPlace 29 = .ok (.iload_n 2, 1) := by decide +kernel
theorem dX4_faultyPlace_30 : decode cX4_faultyPlace 30 = .ok (.ifCond .ne 5, 3) := by decide +kernel
theorem dX4_faultyPlace_33 : decode cX4_faultyPlace 33 = .ok (.iload_n 1, 1) := by decide +kernel
theorem dX4_faultyPlace_34 : decode cX4_faultyPlace 34 = .ok (.ireturn, 1) := by decide +kernel
theorem dX4_faultyPlace_35 : decode cX4_faultyPlace 35 = .ok (.iinc 1 1, 3) := by decide +kernel
theorem dX4_faultyPlace_38 : decode cX4_faultyPlace 38 = .ok (.iconst 0, 1) := by decide +kernel
theorem dX4_faultyPlace_39 : decode cX4_faultyPlace 39 = .ok (.istore_n 3, 1) := by decide +kernel
theorem dX4_faultyPlace_40 : decode cX4_faultyPlace 40 = .ok (.iload_n 3, 1) := by decide +kernel
theorem dX4_faultyPlace_41 : decode cX4_faultyPlace 41 = .ok (.iload_n 2, 1) := by decide +kernel
theorem dX4_faultyPlace_42 : decode cX4_faultyPlace 42 = .ok (.if_icmp .ge 22, 3) := by decide +kernel
theorem dX4_faultyPlace_45 : decode cX4_faultyPlace 45 = .ok (.aload_n 0, 1) := by decide +kernel
theorem dX4_faultyPlace_46 : decode cX4_faultyPlace 46 = .ok (.iload_n 1, 1) := by decide +kernel
theorem dX4_faultyPlace_47 : decode cX4_faultyPlace 47 = .ok (.invokevirtual 23, 3) := by decide +kernel
theorem dX4_faultyPlace_50 : decode cX4_faultyPlace 50 = .ok (.ifCond .ne 5, 3) := by decide +kernel
theorem dX4_faultyPlace_53 : decode cX4_faultyPlace 53 = .ok (.iload_n 1, 1) := by decide +kernel
theorem dX4_faultyPlace_54 : decode cX4_faultyPlace 54 = .ok (.ireturn, 1) := by decide +kernel
theorem dX4_faultyPlace_55 : decode cX4_faultyPlace 55 = .ok (.iinc 1 1, 3) := by decide +kernel
theorem dX4_faultyPlace_58 : decode cX4_faultyPlace 58 = .ok (.iinc 3 1, 3) := by decide +kernel
theorem dX4_faultyPlace_61 : decode cX4_faultyPlace 61 = .ok (.goto (-21), 3) := by decide +kernel
theorem dX4_faultyPlace_64 : decode cX4_faultyPlace 64 = .ok (.iload_n 1, 1) := by decide +kernel
theorem dX4_faultyPlace_65 : decode cX4_faultyPlace 65 = .ok (.aload_n 0, 1) := by decide +kernel
theorem dX4_faultyPlace_66 : decode cX4_faultyPlace 66 = .ok (.getfield 15, 3) := by decide +kernel
theorem dX4_faultyPlace_69 : decode cX4_faultyPlace 69 = .ok (.if_icmp .ge 14, 3) := by decide +kernel
theorem dX4_faultyPlace_72 : decode cX4_faultyPlace 72 = .ok (.aload_n 0, 1) := by decide +kernel
theorem dX4_faultyPlace_73 : decode cX4_faultyPlace 73 = .ok (.getfield 11, 3) := by decide +kernel
theorem dX4_faultyPlace_76 : decode cX4_faultyPlace 76 = .ok (.iload_n 1, 1) := by decide +kernel
theorem dX4_faultyPlace_77 : decode cX4_faultyPlace 77 = .ok (.iaload, 1) := by decide +kernel
theorem dX4_faultyPlace_78 : decode cX4_faultyPlace 78 = .ok (.bipush 59, 2) := by decide +kernel
theorem dX4_faultyPlace_80 : decode cX4_faultyPlace 80 = .ok (.if_icmp .eq 5, 3) := by decide +kernel
theorem dX4_faultyPlace_83 : decode cX4_faultyPlace 83 = .ok (.iload_n 1, 1) := by decide +kernel
theorem dX4_faultyPlace_84 : decode cX4_faultyPlace 84 = .ok (.ireturn, 1) := by decide +kernel
theorem dX4_faultyPlace_85 : decode cX4_faultyPlace 85 = .ok (.iinc 1 1, 3) := by decide +kernel
theorem dX4_faultyPlace_88 : decode cX4_faultyPlace 88 = .ok (.goto (-77), 3) := by decide +kernel
theorem dX4_faultyPlace_91 : decode cX4_faultyPlace 91 = .ok (.iconst (-1), 1) := by decide +kernel
theorem dX4_faultyPlace_92 : decode cX4_faultyPlace 92 = .ok (.ireturn, 1) := by decide +kernel
theorem dX4_tellTo_0 : decode cX4_tellTo 0 = .ok (.iconst 0, 1) := by decide +kernel
theorem dX4_tellTo_1 : decode cX4_tellTo 1 = .ok (.istore_n 2, 1) := by decide +kernel
theorem dX4_tellTo_2 : decode cX4_tellTo 2 = .ok (.iconst 0, 1) := by decide +kernel
theorem dX4_tellTo_3 : decode cX4_tellTo 3 = .ok (.istore_n 3, 1) := by decide +kernel
theorem dX4_tellTo_4 : decode cX4_tellTo 4 = .ok (.iload_n 3, 1) := by decide +kernel
theorem dX4_tellTo_5 : decode cX4_tellTo 5 = .ok (.aload_n 0, 1) := by decide +kernel
theorem dX4_tellTo_6 : decode cX4_tellTo 6 = .ok (.getfield 15, 3) := by decide +kernel
theorem dX4_tellTo_9 : decode cX4_tellTo 9 = .ok (.if_icmp .ge 38, 3) := by decide +kernel
theorem dX4_tellTo_12 : decode cX4_tellTo 12 = .ok (.aload_n 0, 1) := by decide +kernel
theorem dX4_tellTo_13 : decode cX4_tellTo 13 = .ok (.aload_n 1, 1) := by decide +kernel
theorem dX4_tellTo_14 : decode cX4_tellTo 14 = .ok (.iload_n 3, 1) := by decide +kernel
theorem dX4_tellTo_15 : decode cX4_tellTo 15 = .ok (.invokevirtual 27, 3) := by decide +kernel
theorem dX4_tellTo_18 : decode cX4_tellTo 18 = .ok (.ifCond .ne 9, 3) := by decide +kernel
theorem dX4_tellTo_21 : decode cX4_tellTo 21 = .ok (.sipush (-2000), 3) := by decide +kernel
theorem dX4_tellTo_24 : decode cX4_tellTo 24 = .ok (.iload_n 3, 1) := by decide +kernel
theorem dX4_tellTo_25 : decode cX4_tellTo 25 = .ok (.isub, 1) := by decide +kernel
theorem dX4_tellTo_26 : decode cX4_tellTo 26 = .ok (.ireturn, 1) := by decide +kernel
theorem dX4_tellTo_27 : decode cX4_tellTo 27 = .ok (.iinc 2 1, 3) := by decide +kernel
theorem dX4_tellTo_30 : decode cX4_tellTo 30 = .ok (.iload_n 3, 1) := by decide +kernel
theorem dX4_tellTo_31 : decode cX4_tellTo 31 = .ok (.aload_n 0, 1) := by decide +kernel
theorem dX4_tellTo_32 : decode cX4_tellTo 32 = .ok (.getfield 11, 3) := by decide +kernel
theorem dX4_tellTo_35 : decode cX4_tellTo 35 = .ok (.iload_n 3, 1) := by decide +kernel
theorem dX4_tellTo_36 : decode cX4_tellTo 36 = .ok (.iaload, 1) := by decide +kernel
theorem dX4_tellTo_37 : decode cX4_tellTo 37 = .ok (.invokestatic 19, 3) := by decide +kernel
theorem dX4_tellTo_40 : decode cX4_tellTo 40 = .ok (.iconst 2, 1) := by decide +kernel
theorem dX4_tellTo_41 : decode cX4_tellTo 41 = .ok (.iadd, 1) := by decide +kernel
theorem dX4_tellTo_42 : decode cX4_tellTo 42 = .ok (.iadd, 1) := by decide +kernel
theorem dX4_tellTo_43 : decode cX4_tellTo 43 = .ok (.istore_n 3, 1) := by decide +kernel
theorem dX4_tellTo_44 : decode cX4_tellTo 44 = .ok (.goto (-40), 3) := by decide +kernel
theorem dX4_tellTo_47 : decode cX4_tellTo 47 = .ok (.iload_n 2, 1) := by decide +kernel
theorem dX4_tellTo_48 : decode cX4_tellTo 48 = .ok (.ireturn, 1) := by decide +kernel
theorem dX4_number_0 : decode cX4_number 0 = .ok (.iconst 0, 1) := by decide +kernel
theorem dX4_number_1 : decode cX4_number 1 = .ok (.istore_n 3, 1) := by decide +kernel
theorem dX4_number_2 : decode cX4_number 2 = .ok (.iload_n 1, 1) := by decide +kernel
theorem dX4_number_3 : decode cX4_number 3 = .ok (.istore 4, 2) := by decide +kernel
theorem dX4_number_5 : decode cX4_number 5 = .ok (.iload 4, 2) := by decide +kernel
theorem dX4_number_7 : decode cX4_number 7 = .ok (.iload_n 1, 1) := by decide +kernel
theorem dX4_number_8 : decode cX4_number 8 = .ok (.iload_n 2, 1) := by decide +kernel
theorem dX4_number_9 : decode cX4_number 9 = .ok (.iadd, 1) := by decide +kernel
theorem dX4_number_10 : decode cX4_number 10 = .ok (.if_icmp .ge 34, 3) := by decide +kernel
theorem dX4_number_13 : decode cX4_number 13 = .ok (.aload_n 0, 1) := by decide +kernel
theorem dX4_number_14 : decode cX4_number 14 = .ok (.iload 4, 2) := by decide +kernel
theorem dX4_number_16 : decode cX4_number 16 = .ok (.invokevirtual 23, 3) := by decide +kernel
theorem dX4_number_19 : decode cX4_number 19 = .ok (.ifCond .eq 25, 3) := by decide +kernel
theorem dX4_number_22 : decode cX4_number 22 = .ok (.iload_n 3, 1) := by decide +kernel
theorem dX4_number_23 : decode cX4_number 23 = .ok (.bipush 10, 2) := by decide +kernel
theorem dX4_number_25 : decode cX4_number 25 = .ok (.imul, 1) := by decide +kernel
theorem dX4_number_26 : decode cX4_number 26 = .ok (.aload_n 0, 1) := by decide +kernel
theorem dX4_number_27 : decode cX4_number 27 = .ok (.getfield 11, 3) := by decide +kernel
theorem dX4_number_30 : decode cX4_number 30 = .ok (.iload 4, 2) := by decide +kernel
theorem dX4_number_32 : decode cX4_number 32 = .ok (.iaload, 1) := by decide +kernel
theorem dX4_number_33 : decode cX4_number 33 = .ok (.iadd, 1) := by decide +kernel
theorem dX4_number_34 : decode cX4_number 34 = .ok (.bipush 48, 2) := by decide +kernel
theorem dX4_number_36 : decode cX4_number 36 = .ok (.isub, 1) := by decide +kernel
theorem dX4_number_37 : decode cX4_number 37 = .ok (.istore_n 3, 1) := by decide +kernel
theorem dX4_number_38 : decode cX4_number 38 = .ok (.iinc 4 1, 3) := by decide +kernel
theorem dX4_number_41 : decode cX4_number 41 = .ok (.goto (-36), 3) := by decide +kernel
theorem dX4_number_44 : decode cX4_number 44 = .ok (.iload_n 3, 1) := by decide +kernel
theorem dX4_number_45 : decode cX4_number 45 = .ok (.ireturn, 1) := by decide +kernel
theorem dX4_obeyed_0 : decode cX4_obeyed 0 = .ok (.aload_n 0, 1) := by decide +kernel
theorem dX4_obeyed_1 : decode cX4_obeyed 1 = .ok (.getfield 11, 3) := by decide +kernel
theorem dX4_obeyed_4 : decode cX4_obeyed 4 = .ok (.iload_n 2, 1) := by decide +kernel
theorem dX4_obeyed_5 : decode cX4_obeyed 5 = .ok (.iaload, 1) := by decide +kernel
theorem dX4_obeyed_6 : decode cX4_obeyed 6 = .ok (.lookupswitch 110 #[(99, 50), (102, 84), (114, 71), (115, 57), (119, 97)], 50) := by decide +kernel
theorem dX4_obeyed_56 : decode cX4_obeyed 56 = .ok (.aload_n 0, 1) := by decide +kernel
theorem dX4_obeyed_57 : decode cX4_obeyed 57 = .ok (.aload_n 1, 1) := by decide +kernel
theorem dX4_obeyed_58 : decode cX4_obeyed 58 = .ok (.iload_n 2, 1) := by decide +kernel
theorem dX4_obeyed_59 : decode cX4_obeyed 59 = .ok (.invokevirtual 31, 3) := by decide +kernel
theorem dX4_obeyed_62 : decode cX4_obeyed 62 = .ok (.ireturn, 1) := by decide +kernel
theorem dX4_obeyed_63 : decode cX4_obeyed 63 = .ok (.aload_n 1, 1) := by decide +kernel
theorem dX4_obeyed_64 : decode cX4_obeyed 64 = .ok (.aload_n 0, 1) := by decide +kernel
theorem dX4_obeyed_65 : decode cX4_obeyed 65 = .ok (.iload_n 2, 1) := by decide +kernel
theorem dX4_obeyed_66 : decode cX4_obeyed 66 = .ok (.iconst 1, 1) := by decide +kernel
theorem dX4_obeyed_67 : decode cX4_obeyed 67 = .ok (.iadd, 1) := by decide +kernel
theorem dX4_obeyed_68 : decode cX4_obeyed 68 = .ok (.iconst 1, 1) := by decide +kernel
theorem dX4_obeyed_69 : decode cX4_obeyed 69 = .ok (.invokevirtual 34, 3) := by decide +kernel
theorem dX4_obeyed_72 : decode cX4_obeyed 72 = .ok (.putfield 38, 3) := by decide +kernel
theorem dX4_obeyed_75 : decode cX4_obeyed 75 = .ok (.iconst 1, 1) := by decide +kernel
theorem dX4_obeyed_76 : decode cX4_obeyed 76 = .ok (.ireturn, 1) := by decide +kernel
theorem dX4_obeyed_77 : decode cX4_obeyed 77 = .ok (.aload_n 1, 1) := by decide +kernel
theorem dX4_obeyed_78 : decode cX4_obeyed 78 = .ok (.aload_n 0, 1) := by decide +kernel
theorem dX4_obeyed_79 : decode cX4_obeyed 79 = .ok (.iload_n 2, 1) := by decide +kernel
theorem dX4_obeyed_80 : decode cX4_obeyed 80 = .ok (.iconst 1, 1) := by decide +kernel
theorem dX4_obeyed_81 : decode cX4_obeyed 81 = .ok (.iadd, 1) := by decide +kernel
theorem dX4_obeyed_82 : decode cX4_obeyed 82 = .ok (.iconst 1, 1) := by decide +kernel
theorem dX4_obeyed_83 : decode cX4_obeyed 83 = .ok (.invokevirtual 34, 3) := by decide +kernel
theorem dX4_obeyed_86 : decode cX4_obeyed 86 = .ok (.invokestatic 43, 3) := by decide +kernel
theorem dX4_obeyed_89 : decode cX4_obeyed 89 = .ok (.ireturn, 1) := by decide +kernel
theorem dX4_obeyed_90 : decode cX4_obeyed 90 = .ok (.aload_n 1, 1) := by decide +kernel
theorem dX4_obeyed_91 : decode cX4_obeyed 91 = .ok (.aload_n 0, 1) := by decide +kernel
theorem dX4_obeyed_92 : decode cX4_obeyed 92 = .ok (.iload_n 2, 1) := by decide +kernel
theorem dX4_obeyed_93 : decode cX4_obeyed 93 = .ok (.iconst 1, 1) := by decide +kernel
theorem dX4_obeyed_94 : decode cX4_obeyed 94 = .ok (.iadd, 1) := by decide +kernel
theorem dX4_obeyed_95 : decode cX4_obeyed 95 = .ok (.iconst 1, 1) := by decide +kernel
theorem dX4_obeyed_96 : decode cX4_obeyed 96 = .ok (.invokevirtual 34, 3) := by decide +kernel
theorem dX4_obeyed_99 : decode cX4_obeyed 99 = .ok (.invokestatic 46, 3) := by decide +kernel
theorem dX4_obeyed_102 : decode cX4_obeyed 102 = .ok (.ireturn, 1) := by decide +kernel
theorem dX4_obeyed_103 : decode cX4_obeyed 103 = .ok (.aload_n 1, 1) := by decide +kernel
theorem dX4_obeyed_104 : decode cX4_obeyed 104 = .ok (.aload_n 0, 1) := by decide +kernel
theorem dX4_obeyed_105 : decode cX4_obeyed 105 = .ok (.iload_n 2, 1) := by decide +kernel
theorem dX4_obeyed_106 : decode cX4_obeyed 106 = .ok (.iconst 1, 1) := by decide +kernel
theorem dX4_obeyed_107 : decode cX4_obeyed 107 = .ok (.iadd, 1) := by decide +kernel
theorem dX4_obeyed_108 : decode cX4_obeyed 108 = .ok (.iconst 1, 1) := by decide +kernel
theorem dX4_obeyed_109 : decode cX4_obeyed 109 = .ok (.invokevirtual 34, 3) := by decide +kernel
theorem dX4_obeyed_112 : decode cX4_obeyed 112 = .ok (.invokestatic 49, 3) := by decide +kernel
theorem dX4_obeyed_115 : decode cX4_obeyed 115 = .ok (.ireturn, 1) := by decide +kernel
theorem dX4_obeyed_116 : decode cX4_obeyed 116 = .ok (.aload_n 1, 1) := by decide +kernel
theorem dX4_obeyed_117 : decode cX4_obeyed 117 = .ok (.aload_n 0, 1) := by decide +kernel
theorem dX4_obeyed_118 : decode cX4_obeyed 118 = .ok (.iload_n 2, 1) := by decide +kernel
theorem dX4_obeyed_119 : decode cX4_obeyed 119 = .ok (.iconst 1, 1) := by decide +kernel
theorem dX4_obeyed_120 : decode cX4_obeyed 120 = .ok (.iadd, 1) := by decide +kernel
theorem dX4_obeyed_121 : decode cX4_obeyed 121 = .ok (.iconst 2, 1) := by decide +kernel
theorem dX4_obeyed_122 : decode cX4_obeyed 122 = .ok (.invokevirtual 34, 3) := by decide +kernel
theorem dX4_obeyed_125 : decode cX4_obeyed 125 = .ok (.invokestatic 52, 3) := by decide +kernel
theorem dX4_obeyed_128 : decode cX4_obeyed 128 = .ok (.ireturn, 1) := by decide +kernel
theorem dX4_coupleComes_0 : decode cX4_coupleComes 0 = .ok (.aload_n 0, 1) := by decide +kernel
theorem dX4_coupleComes_1 : decode cX4_coupleComes 1 = .ok (.iload_n 2, 1) := by decide +kernel
theorem dX4_coupleComes_2 : decode cX4_coupleComes 2 = .ok (.iconst 1, 1) := by decide +kernel
theorem dX4_coupleComes_3 : decode cX4_coupleComes 3 = .ok (.iadd, 1) := by decide +kernel
theorem dX4_coupleComes_4 : decode cX4_coupleComes 4 = .ok (.iconst 1, 1) := by decide +kernel
theorem dX4_coupleComes_5 : decode cX4_coupleComes 5 = .ok (.invokevirtual 34, 3) := by decide +kernel
theorem dX4_coupleComes_8 : decode cX4_coupleComes 8 = .ok (.istore_n 3, 1) := by decide +kernel
theorem dX4_coupleComes_9 : decode cX4_coupleComes 9 = .ok (.aload_n 0, 1) := by decide +kernel
theorem dX4_coupleComes_10 : decode cX4_coupleComes 10 = .ok (.iload_n 2, 1) := by decide +kernel
theorem dX4_coupleComes_11 : decode cX4_coupleComes 11 = .ok (.iconst 3, 1) := by decide +kernel
theorem dX4_coupleComes_12 : decode cX4_coupleComes 12 = .ok (.iadd, 1) := by decide +kernel
theorem dX4_coupleComes_13 : decode cX4_coupleComes 13 = .ok (.iconst 3, 1) := by decide +kernel
theorem dX4_coupleComes_14 : decode cX4_coupleComes 14 = .ok (.invokevirtual 34, 3) := by decide +kernel
theorem dX4_coupleComes_17 : decode cX4_coupleComes 17 = .ok (.istore 4, 2) := by decide +kernel
theorem dX4_coupleComes_19 : decode cX4_coupleComes 19 = .ok (.iload_n 3, 1) := by decide +kernel
theorem dX4_coupleComes_20 : decode cX4_coupleComes 20 = .ok (.invokestatic 55, 3) := by decide +kernel
theorem dX4_coupleComes_23 : decode cX4_coupleComes 23 = .ok (.ifCond .eq 18, 3) := by decide +kernel
theorem dX4_coupleComes_26 : decode cX4_coupleComes 26 = .ok (.iload 4, 2) := by decide +kernel
theorem dX4_coupleComes_28 : decode cX4_coupleComes 28 = .ok (.sipush 240, 3) := by decide +kernel
theorem dX4_coupleComes_31 : decode cX4_coupleComes 31 = .ok (.if_icmp .gt 10, 3) := by decide +kernel
theorem dX4_coupleComes_34 : decode cX4_coupleComes 34 = .ok (.aload_n 1, 1) := by decide +kernel
theorem dX4_coupleComes_35 : decode cX4_coupleComes 35 = .ok (.invokevirtual 60, 3) := by decide +kernel
theorem dX4_coupleComes_38 : decode cX4_coupleComes 38 = .ok (.ifCond .eq 5, 3) := by decide +kernel
theorem dX4_coupleComes_41 : decode cX4_coupleComes 41 = .ok (.iconst 0, 1) := by decide +kernel
theorem dX4_coupleComes_42 : decode cX4_coupleComes 42 = .ok (.ireturn, 1) := by decide +kernel
theorem dX4_coupleComes_43 : decode cX4_coupleComes 43 = .ok (.aload_n 1, 1) := by decide +kernel
theorem dX4_coupleComes_44 : decode cX4_coupleComes 44 = .ok (.iload_n 3, 1) := by decide +kernel
theorem dX4_coupleComes_45 : decode cX4_coupleComes 45 = .ok (.aload_n 0, 1) := by decide +kernel
theorem dX4_coupleComes_46 : decode cX4_coupleComes 46 = .ok (.iload_n 2, 1) := by decide +kernel
theorem dX4_coupleComes_47 : decode cX4_coupleComes 47 = .ok (.iconst 2, 1) := by decide +kernel
theorem dX4_coupleComes_48 : decode cX4_coupleComes 48 = .ok (.iadd, 1) := by decide +kernel
theorem dX4_coupleComes_49 : decode cX4_coupleComes 49 = .ok (.iconst 1, 1) := by decide +kernel
theorem dX4_coupleComes_50 : decode cX4_coupleComes 50 = .ok (.invokevirtual 34, 3) := by decide +kernel
theorem dX4_coupleComes_53 : decode cX4_coupleComes 53 = .ok (.iload 4, 2) := by decide +kernel
theorem dX4_coupleComes_55 : decode cX4_coupleComes 55 = .ok (.invokevirtual 64, 3) := by decide +kernel
theorem dX4_coupleComes_58 : decode cX4_coupleComes 58 = .ok (.iconst 1, 1) := by decide +kernel
theorem dX4_coupleComes_59 : decode cX4_coupleComes 59 = .ok (.ireturn, 1) := by decide +kernel
theorem dX4_roomsOpened_0 : decode cX4_roomsOpened 0 = .ok (.iload_n 1, 1) := by decide +kernel
theorem dX4_roomsOpened_1 : decode cX4_roomsOpened 1 = .ok (.iconst 1, 1) := by decide +kernel
theorem dX4_roomsOpened_2 : decode cX4_roomsOpened 2 = .ok (.if_icmp .lt 8, 3) := by decide +kernel
theorem dX4_roomsOpened_5 : decode cX4_roomsOpened 5 = .ok (.iload_n 1, 1) := by decide +kernel
theorem dX4_roomsOpened_6 : decode cX4_roomsOpened 6 = .ok (.iconst 2, 1) := by decide +kernel
theorem dX4_roomsOpened_7 : decode cX4_roomsOpened 7 = .ok (.if_icmp .le 5, 3) := by decide +kernel
theorem dX4_roomsOpened_10 : decode cX4_roomsOpened 10 = .ok (.iconst 0, 1) := by decide +kernel
theorem dX4_roomsOpened_11 : decode cX4_roomsOpened 11 = .ok (.ireturn, 1) := by decide +kernel
theorem dX4_roomsOpened_12 : decode cX4_roomsOpened 12 = .ok (.aload_n 0, 1) := by decide +kernel
theorem dX4_roomsOpened_13 : decode cX4_roomsOpened 13 = .ok (.iload_n 1, 1) := by decide +kernel
theorem dX4_roomsOpened_14 : decode cX4_roomsOpened 14 = .ok (.invokevirtual 68, 3) := by decide +kernel
theorem dX4_roomsOpened_17 : decode cX4_roomsOpened 17 = .ok (.iconst 1, 1) := by decide +kernel
theorem dX4_roomsOpened_18 : decode cX4_roomsOpened 18 = .ok (.ireturn, 1) := by decide +kernel
theorem dX4_putFirst_0 : decode cX4_putFirst 0 = .ok (.aload_n 0, 1) := by decide +kernel
theorem dX4_putFirst_1 : decode cX4_putFirst 1 = .ok (.iload_n 1, 1) := by decide +kernel
theorem dX4_putFirst_2 : decode cX4_putFirst 2 = .ok (.invokevirtual 72, 3) := by decide +kernel
theorem dX4_putFirst_5 : decode cX4_putFirst 5 = .ok (.ifCond .eq 11, 3) := by decide +kernel
theorem dX4_putFirst_8 : decode cX4_putFirst 8 = .ok (.aload_n 0, 1) := by decide +kernel
theorem dX4_putFirst_9 : decode cX4_putFirst 9 = .ok (.iload_n 1, 1) := by decide +kernel
theorem dX4_putFirst_10 : decode cX4_putFirst 10 = .ok (.invokevirtual 75, 3) := by decide +kernel
theorem dX4_putFirst_13 : decode cX4_putFirst 13 = .ok (.ifCond .eq 5, 3) := by decide +kernel
theorem dX4_putFirst_16 : decode cX4_putFirst 16 = .ok (.iconst 0, 1) := by decide +kernel
theorem dX4_putFirst_17 : decode cX4_putFirst 17 = .ok (.ireturn, 1) := by decide +kernel
theorem dX4_putFirst_18 : decode cX4_putFirst 18 = .ok (.aload_n 0, 1) := by decide +kernel
theorem dX4_putFirst_19 : decode cX4_putFirst 19 = .ok (.iload_n 1, 1) := by decide +kernel
theorem dX4_putFirst_20 : decode cX4_putFirst 20 = .ok (.invokevirtual 78, 3) := by decide +kernel
theorem dX4_putFirst_23 : decode cX4_putFirst 23 = .ok (.iconst 1, 1) := by decide +kernel
theorem dX4_putFirst_24 : decode cX4_putFirst 24 = .ok (.ireturn, 1) := by decide +kernel
theorem dX4_someWed_0 : decode cX4_someWed 0 = .ok (.iload_n 1, 1) := by decide +kernel
theorem dX4_someWed_1 : decode cX4_someWed 1 = .ok (.iconst 1, 1) := by decide +kernel
theorem dX4_someWed_2 : decode cX4_someWed 2 = .ok (.if_icmp .lt 11, 3) := by decide +kernel
theorem dX4_someWed_5 : decode cX4_someWed 5 = .ok (.iload_n 1, 1) := by decide +kernel
theorem dX4_someWed_6 : decode cX4_someWed 6 = .ok (.aload_n 0, 1) := by decide +kernel
theorem dX4_someWed_7 : decode cX4_someWed 7 = .ok (.getfield 80, 3) := by decide +kernel
theorem dX4_someWed_10 : decode cX4_someWed 10 = .ok (.if_icmp .le 5, 3) := by decide +kernel
theorem dX4_someWed_13 : decode cX4_someWed 13 = .ok (.iconst 0, 1) := by decide +kernel
theorem dX4_someWed_14 : decode cX4_someWed 14 = .ok (.ireturn, 1) := by decide +kernel
theorem dX4_someWed_15 : decode cX4_someWed 15 = .ok (.aload_n 0, 1) := by decide +kernel
theorem dX4_someWed_16 : decode cX4_someWed 16 = .ok (.iload_n 1, 1) := by decide +kernel
theorem dX4_someWed_17 : decode cX4_someWed 17 = .ok (.invokevirtual 83, 3) := by decide +kernel
theorem dX4_someWed_20 : decode cX4_someWed 20 = .ok (.iconst 1, 1) := by decide +kernel
theorem dX4_someWed_21 : decode cX4_someWed 21 = .ok (.ireturn, 1) := by decide +kernel
theorem dX4_clerkRests_0 : decode cX4_clerkRests 0 = .ok (.iload_n 1, 1) := by decide +kernel
theorem dX4_clerkRests_1 : decode cX4_clerkRests 1 = .ok (.iconst 1, 1) := by decide +kernel
theorem dX4_clerkRests_2 : decode cX4_clerkRests 2 = .ok (.if_icmp .lt 9, 3) := by decide +kernel
theorem dX4_clerkRests_5 : decode cX4_clerkRests 5 = .ok (.iload_n 1, 1) := by decide +kernel
theorem dX4_clerkRests_6 : decode cX4_clerkRests 6 = .ok (.bipush 30, 2) := by decide +kernel
theorem dX4_clerkRests_8 : decode cX4_clerkRests 8 = .ok (.if_icmp .le 5, 3) := by decide +kernel
theorem dX4_clerkRests_11 : decode cX4_clerkRests 11 = .ok (.iconst 0, 1) := by decide +kernel
theorem dX4_clerkRests_12 : decode cX4_clerkRests 12 = .ok (.ireturn, 1) := by decide +kernel
theorem dX4_clerkRests_13 : decode cX4_clerkRests 13 = .ok (.aload_n 0, 1) := by decide +kernel
theorem dX4_clerkRests_14 : decode cX4_clerkRests 14 = .ok (.iload_n 1, 1) := by decide +kernel
theorem dX4_clerkRests_15 : decode cX4_clerkRests 15 = .ok (.invokevirtual 86, 3) := by decide +kernel
theorem dX4_clerkRests_18 : decode cX4_clerkRests 18 = .ok (.iconst 1, 1) := by decide +kernel
theorem dX4_clerkRests_19 : decode cX4_clerkRests 19 = .ok (.ireturn, 1) := by decide +kernel
theorem dX5_init_0 : decode cX5_init 0 = .ok (.aload_n 0, 1) := by decide +kernel
theorem dX5_init_1 : decode cX5_init 1 = .ok (.invokespecial 1, 3) := by decide +kernel
theorem dX5_init_4 : decode cX5_init 4 = .ok (.aload_n 0, 1) := by decide +kernel
theorem dX5_init_5 : decode cX5_init 5 = .ok (.bipush 8, 2) := by decide +kernel
theorem dX5_init_7 : decode cX5_init 7 = .ok (.anewarray 9, 3) := by decide +kernel
theorem dX5_init_10 : decode cX5_init 10 = .ok (.putfield 11, 3) := by decide +kernel
theorem dX5_init_13 : decode cX5_init 13 = .ok (.aload_n 0, 1) := by decide +kernel
theorem dX5_init_14 : decode cX5_init 14 = .ok (.iconst 0, 1) := by decide +kernel
theorem dX5_init_15 : decode cX5_init 15 = .ok (.putfield 15, 3) := by decide +kernel
theorem dX5_init_18 : decode cX5_init 18 = .ok (.aload_n 0, 1) := by decide +kernel
theorem dX5_init_19 : decode cX5_init 19 = .ok (.iconst 0, 1) := by decide +kernel
theorem dX5_init_20 : decode cX5_init 20 = .ok (.putfield 19, 3) := by decide +kernel
theorem dX5_init_23 : decode cX5_init 23 = .ok (.iconst 0, 1) := by decide +kernel
theorem dX5_init_24 : decode cX5_init 24 = .ok (.istore_n 1, 1) := by decide +kernel
theorem dX5_init_25 : decode cX5_init 25 = .ok (.iload_n 1, 1) := by decide +kernel
theorem dX5_init_26 : decode cX5_init 26 = .ok (.bipush 8, 2) := by decide +kernel
theorem dX5_init_28 : decode cX5_init 28 = .ok (.if_icmp .ge 22, 3) := by decide +kernel
theorem dX5_init_31 : decode cX5_init 31 = .ok (.aload_n 0, 1) := by decide +kernel
theorem dX5_init_32 : decode cX5_init 32 = .ok (.getfield 11, 3) := by decide +kernel
theorem dX5_init_35 : decode cX5_init 35 = .ok (.iload_n 1, 1) := by decide +kernel
theorem dX5_init_36 : decode cX5_init 36 = .ok (.new 9, 3) := by decide +kernel
theorem dX5_init_39 : decode cX5_init 39 = .ok (.dup, 1) := by decide +kernel
theorem dX5_init_40 : decode cX5_init 40 = .ok (.invokespecial 22, 3) := by decide +kernel
theorem dX5_init_43 : decode cX5_init 43 = .ok (.aastore, 1) := by decide +kernel
theorem dX5_init_44 : decode cX5_init 44 = .ok (.iinc 1 1, 3) := by decide +kernel
theorem dX5_init_47 : decode cX5_init 47 = .ok (.goto (-22), 3) := by decide +kernel
theorem dX5_init_50 : decode cX5_init 50 = .ok (.return_, 1) := by decide +kernel
theorem dX5_keep_0 : decode cX5_keep 0 = .ok (.aload_n 0, 1) := by decide +kernel
theorem dX5_keep_1 : decode cX5_keep 1 = .ok (.getfield 19, 3) := by decide +kernel
theorem dX5_keep_4 : decode cX5_keep 4 = .ok (.bipush 8, 2) := by decide +kernel
theorem dX5_keep_6 : decode cX5_keep 6 = .ok (.if_icmp .ne 26, 3) := by decide +kernel
theorem dX5_keep_9 : decode cX5_keep 9 = .ok (.aload_n 0, 1) := by decide +kernel
theorem dX5_keep_10 : decode cX5_keep 10 = .ok (.aload_n 0, 1) := by decide +kernel
theorem dX5_keep_11 : decode cX5_keep 11 = .ok (.getfield 15, 3) := by decide +kernel
theorem dX5_keep_14 : decode cX5_keep 14 = .ok (.iconst 1, 1) := by decide +kernel
theorem dX5_keep_15 : decode cX5_keep 15 = .ok (.iadd, 1) := by decide +kernel
theorem dX5_keep_16 : decode cX5_keep 16 = .ok (.bipush 8, 2) := by decide +kernel
theorem dX5_keep_18 : decode cX5_keep 18 = .ok (.irem, 1) := by decide +kernel
theorem dX5_keep_19 : decode cX5_keep 19 = .ok (.putfield 15, 3) := by decide +kernel
theorem dX5_keep_22 : decode cX5_keep 22 = .ok (.aload_n 0, 1) := by decide +kernel
theorem dX5_keep_23 : decode cX5_keep 23 = .ok (.dup, 1) := by decide +kernel
theorem dX5_keep_24 : decode cX5_keep 24 = .ok (.getfield 19, 3) := by decide +kernel
theorem dX5_keep_27 : decode cX5_keep 27 = .ok (.iconst 1, 1) := by decide +kernel
theorem dX5_keep_28 : decode cX5_keep 28 = .ok (.isub, 1) := by decide +kernel
theorem dX5_keep_29 : decode cX5_keep 29 = .ok (.putfield 19, 3) := by decide +kernel
theorem dX5_keep_32 : decode cX5_keep 32 = .ok (.aload_n 0, 1) := by decide +kernel
theorem dX5_keep_33 : decode cX5_keep 33 = .ok (.getfield 11, 3) := by decide +kernel
theorem dX5_keep_36 : decode cX5_keep 36 = .ok (.aload_n 0, 1) := by decide +kernel
theorem dX5_keep_37 : decode cX5_keep 37 = .ok (.getfield 15, 3) := by decide +kernel
theorem dX5_keep_40 : decode cX5_keep 40 = .ok (.aload_n 0, 1) := by decide +kernel
theorem dX5_keep_41 : decode cX5_keep 41 = .ok (.getfield 19, 3) := by decide +kernel
theorem dX5_keep_44 : decode cX5_keep 44 = .ok (.iadd, 1) := by decide +kernel
theorem dX5_keep_45 : decode cX5_keep 45 = .ok (.bipush 8, 2) := by decide +kernel
theorem dX5_keep_47 : decode cX5_keep 47 = .ok (.irem, 1) := by decide +kernel
theorem dX5_keep_48 : decode cX5_keep 48 = .ok (.aaload, 1) := by decide +kernel
theorem dX5_keep_49 : decode cX5_keep 49 = .ok (.aload_n 1, 1) := by decide +kernel
theorem dX5_keep_50 : decode cX5_keep 50 = .ok (.invokevirtual 23, 3) := by decide +kernel
theorem dX5_keep_53 : decode cX5_keep 53 = .ok (.aload_n 0, 1) := by decide +kernel
theorem dX5_keep_54 : decode cX5_keep 54 = .ok (.dup, 1) := by decide +kernel
theorem dX5_keep_55 : decode cX5_keep 55 = .ok (.getfield 19, 3) := by decide +kernel
theorem dX5_keep_58 : decode cX5_keep 58 = .ok (.iconst 1, 1) := by decide +kernel
theorem dX5_keep_59 : decode cX5_keep 59 = .ok (.iadd, 1) := by decide +kernel
theorem dX5_keep_60 : decode cX5_keep 60 = .ok (.putfield 19, 3) := by decide +kernel
theorem dX5_keep_63 : decode cX5_keep 63 = .ok (.return_, 1) := by decide +kernel
theorem dX5_giveBack_0 : decode cX5_giveBack 0 = .ok (.aload_n 0, 1) := by decide +kernel
theorem dX5_giveBack_1 : decode cX5_giveBack 1 = .ok (.getfield 19, 3) := by decide +kernel
theorem dX5_giveBack_4 : decode cX5_giveBack 4 = .ok (.ifCond .ne 5, 3) := by decide +kernel
theorem dX5_giveBack_7 : decode cX5_giveBack 7 = .ok (.iconst 0, 1) := by decide +kernel
theorem dX5_giveBack_8 : decode cX5_giveBack 8 = .ok (.ireturn, 1) := by decide +kernel
theorem dX5_giveBack_9 : decode cX5_giveBack 9 = .ok (.aload_n 0, 1) := by decide +kernel
theorem dX5_giveBack_10 : decode cX5_giveBack 10 = .ok (.dup, 1) := by decide +kernel
theorem dX5_giveBack_11 : decode cX5_giveBack 11 = .ok (.getfield 19, 3) := by decide +kernel
theorem dX5_giveBack_14 : decode cX5_giveBack 14 = .ok (.iconst 1, 1) := by decide +kernel
theorem dX5_giveBack_15 : decode cX5_giveBack 15 = .ok (.isub, 1) := by decide +kernel
theorem dX5_giveBack_16 : decode cX5_giveBack 16 = .ok (.putfield 19, 3) := by decide +kernel
theorem dX5_giveBack_19 : decode cX5_giveBack 19 = .ok (.aload_n 1, 1) := by decide +kernel
theorem dX5_giveBack_20 : decode cX5_giveBack 20 = .ok (.aload_n 0, 1) := by decide +kernel
theorem dX5_giveBack_21 : decode cX5_giveBack 21 = .ok (.getfield 11, 3) := by decide +kernel
theorem dX5_giveBack_24 : decode cX5_giveBack 24 = .ok (.aload_n 0, 1) := by decide +kernel
theorem dX5_giveBack_25 : decode cX5_giveBack 25 = .ok (.getfield 15, 3) := by decide +kernel
theorem dX5_giveBack_28 : decode cX5_giveBack 28 = .ok (.aload_n 0, 1) := by decide +kernel
theorem dX5_giveBack_29 : decode cX5_giveBack 29 = .ok (.getfield 19, 3) := by decide +kernel
theorem dX5_giveBack_32 : decode cX5_giveBack 32 = .ok (.iadd, 1) := by decide +kernel
theorem dX5_giveBack_33 : decode cX5_giveBack 33 = .ok (.bipush 8, 2) := by decide +kernel
theorem dX5_giveBack_35 : decode cX5_giveBack 35 = .ok (.irem, 1) := by decide +kernel
theorem dX5_giveBack_36 : decode cX5_giveBack 36 = .ok (.aaload, 1) := by decide +kernel
theorem dX5_giveBack_37 : decode cX5_giveBack 37 = .ok (.invokevirtual 23, 3) := by decide +kernel
theorem dX5_giveBack_40 : decode cX5_giveBack 40 = .ok (.iconst 1, 1) := by decide +kernel
theorem dX5_giveBack_41 : decode cX5_giveBack 41 = .ok (.ireturn, 1) := by decide +kernel
theorem dX5_forget_0 : decode cX5_forget 0 = .ok (.aload_n 0, 1) := by decide +kernel
theorem dX5_forget_1 : decode cX5_forget 1 = .ok (.iconst 0, 1) := by decide +kernel
theorem dX5_forget_2 : decode cX5_forget 2 = .ok (.putfield 19, 3) := by decide +kernel
theorem dX5_forget_5 : decode cX5_forget 5 = .ok (.return_, 1) := by decide +kernel
theorem dX6_init_0 : decode cX6_init 0 = .ok (.aload_n 0, 1) := by decide +kernel
theorem dX6_init_1 : decode cX6_init 1 = .ok (.invokespecial 1, 3) := by decide +kernel
theorem dX6_init_4 : decode cX6_init 4 = .ok (.aload_n 0, 1) := by decide +kernel
theorem dX6_init_5 : decode cX6_init 5 = .ok (.new 7, 3) := by decide +kernel
theorem dX6_init_8 : decode cX6_init 8 = .ok (.dup, 1) := by decide +kernel
theorem dX6_init_9 : decode cX6_init 9 = .ok (.invokespecial 9, 3) := by decide +kernel
theorem dX6_init_12 : decode cX6_init 12 = .ok (.putfield 10, 3) := by decide +kernel
theorem dX6_init_15 : decode cX6_init 15 = .ok (.aload_n 0, 1) := by decide +kernel
theorem dX6_init_16 : decode cX6_init 16 = .ok (.new 7, 3) := by decide +kernel
theorem dX6_init_19 : decode cX6_init 19 = .ok (.dup, 1) := by decide +kernel
theorem dX6_init_20 : decode cX6_init 20 = .ok (.invokespecial 9, 3) := by decide +kernel
theorem dX6_init_23 : decode cX6_init 23 = .ok (.putfield 16, 3) := by decide +kernel
theorem dX6_init_26 : decode cX6_init 26 = .ok (.aload_n 0, 1) := by decide +kernel
theorem dX6_init_27 : decode cX6_init 27 = .ok (.new 7, 3) := by decide +kernel
theorem dX6_init_30 : decode cX6_init 30 = .ok (.dup, 1) := by decide +kernel
theorem dX6_init_31 : decode cX6_init 31 = .ok (.invokespecial 9, 3) := by decide +kernel
theorem dX6_init_34 : decode cX6_init 34 = .ok (.putfield 19, 3) := by decide +kernel
theorem dX6_init_37 : decode cX6_init 37 = .ok (.aload_n 0, 1) := by decide +kernel
theorem dX6_init_38 : decode cX6_init 38 = .ok (.iconst 0, 1) := by decide +kernel
theorem dX6_init_39 : decode cX6_init 39 = .ok (.putfield 22, 3) := by decide +kernel
theorem dX6_init_42 : decode cX6_init 42 = .ok (.aload_n 0, 1) := by decide +kernel
theorem dX6_init_43 : decode cX6_init 43 = .ok (.new 26, 3) := by decide +kernel
theorem dX6_init_46 : decode cX6_init 46 = .ok (.dup, 1) := by decide +kernel
theorem dX6_init_47 : decode cX6_init 47 = .ok (.invokespecial 28, 3) := by decide +kernel
theorem dX6_init_50 : decode cX6_init 50 = .ok (.putfield 29, 3) := by decide +kernel
theorem dX6_init_53 : decode cX6_init 53 = .ok (.aload_n 0, 1) := by decide +kernel
theorem dX6_init_54 : decode cX6_init 54 = .ok (.new 33, 3) := by decide +kernel
theorem dX6_init_57 : decode cX6_init 57 = .ok (.dup, 1) := by decide +kernel
theorem dX6_init_58 : decode cX6_init 58 = .ok (.invokespecial 35, 3) := by decide +kernel
theorem dX6_init_61 : decode cX6_init 61 = .ok (.putfield 36, 3) := by decide +kernel
theorem dX6_init_64 : decode cX6_init 64 = .ok (.aload_n 0, 1) := by decide +kernel
theorem dX6_init_65 : decode cX6_init 65 = .ok (.new 40, 3) := by decide +kernel
theorem dX6_init_68 : decode cX6_init 68 = .ok (.dup, 1) := by decide +kernel
theorem dX6_init_69 : decode cX6_init 69 = .ok (.invokespecial 42, 3) := by decide +kernel
theorem dX6_init_72 : decode cX6_init 72 = .ok (.putfield 43, 3) := by decide +kernel
theorem dX6_init_75 : decode cX6_init 75 = .ok (.aload_n 0, 1) := by decide +kernel
theorem dX6_init_76 : decode cX6_init 76 = .ok (.new 47, 3) := by decide +kernel
theorem dX6_init_79 : decode cX6_init 79 = .ok (.dup, 1) := by decide +kernel
theorem dX6_init_80 : decode cX6_init 80 = .ok (.invokespecial 49, 3) := by decide +kernel
theorem dX6_init_83 : decode cX6_init 83 = .ok (.putfield 50, 3) := by decide +kernel
theorem dX6_init_86 : decode cX6_init 86 = .ok (.aload_n 0, 1) := by decide +kernel
theorem dX6_init_87 : decode cX6_init 87 = .ok (.bipush 12, 2) := by decide +kernel
theorem dX6_init_89 : decode cX6_init 89 = .ok (.newarray .int, 2) := by decide +kernel
theorem dX6_init_91 : decode cX6_init 91 = .ok (.putfield 54, 3) := by decide +kernel
theorem dX6_init_94 : decode cX6_init 94 = .ok (.aload_n 0, 1) := by decide +kernel
theorem dX6_init_95 : decode cX6_init 95 = .ok (.iconst 0, 1) := by decide +kernel
theorem dX6_init_96 : decode cX6_init 96 = .ok (.putfield 58, 3) := by decide +kernel
theorem dX6_init_99 : decode cX6_init 99 = .ok (.aload_n 0, 1) := by decide +kernel
theorem dX6_init_100 : decode cX6_init 100 = .ok (.bipush 7, 2) := by decide +kernel
theorem dX6_init_102 : decode cX6_init 102 = .ok (.newarray .int, 2) := by decide +kernel
theorem dX6_init_104 : decode cX6_init 104 = .ok (.putfield 62, 3) := by decide +kernel
theorem dX6_init_107 : decode cX6_init 107 = .ok (.return_, 1) := by decide +kernel
theorem dX6_feed_0 : decode cX6_feed 0 = .ok (.iload_n 1, 1) := by decide +kernel
theorem dX6_feed_1 : decode cX6_feed 1 = .ok (.ifCond .ge 10, 3) := by decide +kernel
theorem dX6_feed_4 : decode cX6_feed 4 = .ok (.aload_n 0, 1) := by decide +kernel
theorem dX6_feed_5 : decode cX6_feed 5 = .ok (.bipush (-4), 2) := by decide +kernel
theorem dX6_feed_7 : decode cX6_feed 7 = .ok (.invokevirtual 65, 3) := by decide +kernel
theorem dX6_feed_10 : decode cX6_feed 10 = .ok (.ireturn, 1) := by decide +kernel
theorem dX6_feed_11 : decode cX6_feed 11 = .ok (.iload_n 1, 1) := by decide +kernel
theorem dX6_feed_12 : decode cX6_feed 12 = .ok (.sipush 255, 3) := by decide +kernel
theorem dX6_feed_15 : decode cX6_feed 15 = .ok (.if_icmp .gt 14, 3) := by decide +kernel
theorem dX6_feed_18 : decode cX6_feed 18 = .ok (.aload_n 0, 1) := by decide +kernel
theorem dX6_feed_19 : decode cX6_feed 19 = .ok (.getfield 36, 3) := by decide +kernel
theorem dX6_feed_22 : decode cX6_feed 22 = .ok (.iload_n 1, 1) := by decide +kernel
theorem dX6_feed_23 : decode cX6_feed 23 = .ok (.invokevirtual 69, 3) := by decide +kernel
theorem dX6_feed_26 : decode cX6_feed 26 = .ok (.ifCond .ne 10, 3) := by decide +kernel
theorem dX6_feed_29 : decode cX6_feed 29 = .ok (.aload_n 0, 1) := by decide +kernel
theorem dX6_feed_30 : decode cX6_feed 30 = .ok (.bipush (-6), 2) := by decide +kernel
theorem dX6_feed_32 : decode cX6_feed 32 = .ok (.invokevirtual 65, 3) := by decide +kernel
theorem dX6_feed_35 : decode cX6_feed 35 = .ok (.ireturn, 1) := by decide +kernel
theorem dX6_feed_36 : decode cX6_feed 36 = .ok (.aload_n 0, 1) := by decide +kernel
theorem dX6_feed_37 : decode cX6_feed 37 = .ok (.getfield 36, 3) := by decide +kernel
theorem dX6_feed_40 : decode cX6_feed 40 = .ok (.getfield 73, 3) := by decide +kernel
theorem dX6_feed_43 : decode cX6_feed 43 = .ok (.ireturn, 1) := by decide +kernel
theorem dX6_hall_0 : decode cX6_hall 0 = .ok (.aload_n 0, 1) := by decide +kernel
theorem dX6_hall_1 : decode cX6_hall 1 = .ok (.getfield 36, 3) := by decide +kernel
theorem dX6_hall_4 : decode cX6_hall 4 = .ok (.invokevirtual 76, 3) := by decide +kernel
theorem dX6_hall_7 : decode cX6_hall 7 = .ok (.istore_n 1, 1) := by decide +kernel
theorem dX6_hall_8 : decode cX6_hall 8 = .ok (.iload_n 1, 1) := by decide +kernel
theorem dX6_hall_9 : decode cX6_hall 9 = .ok (.ifCond .lt 12, 3) := by decide +kernel
theorem dX6_hall_12 : decode cX6_hall 12 = .ok (.sipush (-1000), 3) := by decide +kernel
theorem dX6_hall_15 : decode cX6_hall 15 = .ok (.iload_n 1, 1) := by decide +kernel
theorem dX6_hall_16 : decode cX6_hall 16 = .ok (.isub, 1) := by decide +kernel
theorem dX6_hall_17 : decode cX6_hall 17 = .ok (.istore_n 2, 1) := by decide +kernel
theorem dX6_hall_18 : decode cX6_hall 18 = .ok (.goto 36, 3) := by decide +kernel
theorem dX6_hall_21 : decode cX6_hall 21 = .ok (.aload_n 0, 1) := by decide +kernel
theorem dX6_hall_22 : decode cX6_hall 22 = .ok (.invokevirtual 80, 3) := by decide +kernel
theorem dX6_hall_25 : decode cX6_hall 25 = .ok (.astore_n 3, 1) := by decide +kernel
theorem dX6_hall_26 : decode cX6_hall 26 = .ok (.aload_n 0, 1) := by decide +kernel
theorem dX6_hall_27 : decode cX6_hall 27 = .ok (.getfield 36, 3) := by decide +kernel
theorem dX6_hall_30 : decode cX6_hall 30 = .ok (.aload_n 3, 1) := by decide +kernel
theorem dX6_hall_31 : decode cX6_hall 31 = .ok (.invokevirtual 84, 3) := by decide +kernel
theorem dX6_hall_34 : decode cX6_hall 34 = .ok (.istore_n 2, 1) := by decide +kernel
theorem dX6_hall_35 : decode cX6_hall 35 = .ok (.iload_n 2, 1) := by decide +kernel
theorem dX6_hall_36 : decode cX6_hall 36 = .ok (.ifCond .le 18, 3) := by decide +kernel
theorem dX6_hall_39 : decode cX6_hall 39 = .ok (.aload_n 0, 1) := by decide +kernel
theorem dX6_hall_40 : decode cX6_hall 40 = .ok (.getfield 10, 3) := by decide +kernel
theorem dX6_hall_43 : decode cX6_hall 43 = .ok (.aload_n 3, 1) := by decide +kernel
theorem dX6_hall_44 : decode cX6_hall 44 = .ok (.invokevirtual 88, 3) := by decide +kernel
theorem dX6_hall_47 : decode cX6_hall 47 = .ok (.aload_n 0, 1) := by decide +kernel
theorem dX6_hall_48 : decode cX6_hall 48 = .ok (.getfield 29, 3) := by decide +kernel
theorem dX6_hall_51 : decode cX6_hall 51 = .ok (.invokevirtual 92, 3) := by decide +kernel
theorem dX6_hall_54 : decode cX6_hall 54 = .ok (.aload_n 0, 1) := by decide +kernel
theorem dX6_hall_55 : decode cX6_hall 55 = .ok (.getfield 36, 3) := by decide +kernel
theorem dX6_hall_58 : decode cX6_hall 58 = .ok (.iconst 0, 1) := by decide +kernel
theorem dX6_hall_59 : decode cX6_hall 59 = .ok (.putfield 73, 3) := by decide +kernel
theorem dX6_hall_62 : decode cX6_hall 62 = .ok (.iload_n 2, 1) := by decide +kernel
theorem dX6_hall_63 : decode cX6_hall 63 = .ok (.ireturn, 1) := by decide +kernel
theorem dX6_coupleOf_0 : decode cX6_coupleOf 0 = .ok (.aload_n 0, 1) := by decide +kernel
theorem dX6_coupleOf_1 : decode cX6_coupleOf 1 = .ok (.getfield 10, 3) := by decide +kernel
theorem dX6_coupleOf_4 : decode cX6_coupleOf 4 = .ok (.iload_n 1, 1) := by decide +kernel
theorem dX6_coupleOf_5 : decode cX6_coupleOf 5 = .ok (.invokevirtual 95, 3) := by decide +kernel
theorem dX6_coupleOf_8 : decode cX6_coupleOf 8 = .ok (.ifCond .ne 9, 3) := by decide +kernel
theorem dX6_coupleOf_11 : decode cX6_coupleOf 11 = .ok (.aload_n 0, 1) := by decide +kernel
theorem dX6_coupleOf_12 : decode cX6_coupleOf 12 = .ok (.iconst (-1), 1) := by decide +kernel
theorem dX6_coupleOf_13 : decode cX6_coupleOf 13 = .ok (.invokevirtual 65, 3) := by decide +kernel
theorem dX6_coupleOf_16 : decode cX6_coupleOf 16 = .ok (.ireturn, 1) := by decide +kernel
theorem dX6_coupleOf_17 : decode cX6_coupleOf 17 = .ok (.iload_n 2, 1) := by decide +kernel
theorem dX6_coupleOf_18 : decode cX6_coupleOf 18 = .ok (.tableswitch 142 0 7 #[46, 56, 66, 76, 93, 102, 111, 120], 46) := by decide +kernel
theorem dX6_coupleOf_64 : decode cX6_coupleOf 64 = .ok (.aload_n 0, 1) := by decide +kernel
theorem dX6_coupleOf_65 : decode cX6_coupleOf 65 = .ok (.getfield 10, 3) := by decide +kernel
theorem dX6_coupleOf_68 : decode cX6_coupleOf 68 = .ok (.getfield 98, 3) := by decide +kernel
theorem dX6_coupleOf_71 : decode cX6_coupleOf 71 = .ok (.iload_n 1, 1) := by decide +kernel
theorem dX6_coupleOf_72 : decode cX6_coupleOf 72 = .ok (.iaload, 1) := by decide +kernel
theorem dX6_coupleOf_73 : decode cX6_coupleOf 73 = .ok (.ireturn, 1) := by decide +kernel
theorem dX6_coupleOf_74 : decode cX6_coupleOf 74 = .ok (.aload_n 0, 1) := by decide +kernel
theorem dX6_coupleOf_75 : decode cX6_coupleOf 75 = .ok (.getfield 10, 3) := by decide +kernel
theorem dX6_coupleOf_78 : decode cX6_coupleOf 78 = .ok (.getfield 101, 3) := by decide +kernel
theorem dX6_coupleOf_81 : decode cX6_coupleOf 81 = .ok (.iload_n 1, 1) := by decide +kernel
theorem dX6_coupleOf_82 : decode cX6_coupleOf 82 = .ok (.iaload, 1) := by decide +kernel
theorem dX6_coupleOf_83 : decode cX6_coupleOf 83 = .ok (.ireturn, 1) := by decide +kernel
theorem dX6_coupleOf_84 : decode cX6_coupleOf 84 = .ok (.aload_n 0, 1) := by decide +kernel
theorem dX6_coupleOf_85 : decode cX6_coupleOf 85 = .ok (.getfield 10, 3) := by decide +kernel
theorem dX6_coupleOf_88 : decode cX6_coupleOf 88 = .ok (.getfield 104, 3) := by decide +kernel
theorem dX6_coupleOf_91 : decode cX6_coupleOf 91 = .ok (.iload_n 1, 1) := by decide +kernel
theorem dX6_coupleOf_92 : decode cX6_coupleOf 92 = .ok (.iaload, 1) := by decide +kernel
theorem dX6_coupleOf_93 : decode cX6_coupleOf 93 = .ok (.ireturn, 1) := by decide +kernel
theorem dX6_coupleOf_94 : decode cX6_coupleOf 94 = .ok (.aload_n 0, 1) := by decide +kernel
theorem dX6_coupleOf_95 : decode cX6_coupleOf 95 = .ok (.getfield 10, 3) := by decide +kernel
theorem dX6_coupleOf_98 : decode cX6_coupleOf 98 = .ok (.iload_n 1, 1) := by decide +kernel
theorem dX6_coupleOf_99 : decode cX6_coupleOf 99 = .ok (.invokevirtual 107, 3) := by decide +kernel
theorem dX6_coupleOf_102 : decode cX6_coupleOf 102 = .ok (.ifCond .eq 7, 3) := by decide +kernel
theorem dX6_coupleOf_105 : decode cX6_coupleOf 105 = .ok (.iconst 1, 1) := by decide +kernel
theorem dX6_coupleOf_106 : decode cX6_coupleOf 106 = .ok (.goto 4, 3) := by decide +kernel
theorem dX6_coupleOf_109 : decode cX6_coupleOf 109 = .ok (.iconst 0, 1) := by decide +kernel
theorem dX6_coupleOf_110 : decode cX6_coupleOf 110 = .ok (.ireturn, 1) := by decide +kernel
theorem dX6_coupleOf_111 : decode cX6_coupleOf 111 = .ok (.aload_n 0, 1) := by decide +kernel
theorem dX6_coupleOf_112 : decode cX6_coupleOf 112 = .ok (.getfield 10, 3) := by decide +kernel
theorem dX6_coupleOf_115 : decode cX6_coupleOf 115 = .ok (.iload_n 1, 1) := by decide +kernel
theorem dX6_coupleOf_116 : decode cX6_coupleOf 116 = .ok (.invokevirtual 110, 3) := by decide +kernel
theorem dX6_coupleOf_119 : decode cX6_coupleOf 119 = .ok (.ireturn, 1) := by decide +kernel
theorem dX6_coupleOf_120 : decode cX6_coupleOf 120 = .ok (.aload_n 0, 1) := by decide +kernel
theorem dX6_coupleOf_121 : decode cX6_coupleOf 121 = .ok (.getfield 10, 3) := by decide +kernel
theorem dX6_coupleOf_124 : decode cX6_coupleOf 124 = .ok (.iload_n 1, 1) := by decide +kernel
theorem dX6_coupleOf_125 : decode cX6_coupleOf 125 = .ok (.invokevirtual 113, 3) := by decide +kernel
theorem dX6_coupleOf_128 : decode cX6_coupleOf 128 = .ok (.ireturn, 1) := by decide +kernel
theorem dX6_coupleOf_129 : decode cX6_coupleOf 129 = .ok (.aload_n 0, 1) := by decide +kernel
theorem dX6_coupleOf_130 : decode cX6_coupleOf 130 = .ok (.getfield 10, 3) := by decide +kernel
theorem dX6_coupleOf_133 : decode cX6_coupleOf 133 = .ok (.iload_n 1, 1) := by decide +kernel
theorem dX6_coupleOf_134 : decode cX6_coupleOf 134 = .ok (.invokevirtual 116, 3) := by decide +kernel
theorem dX6_coupleOf_137 : decode cX6_coupleOf 137 = .ok (.ireturn, 1) := by decide +kernel
theorem dX6_coupleOf_138 : decode cX6_coupleOf 138 = .ok (.aload_n 0, 1) := by decide +kernel
theorem dX6_coupleOf_139 : decode cX6_coupleOf 139 = .ok (.getfield 10, 3) := by decide +kernel
theorem dX6_coupleOf_142 : decode cX6_coupleOf 142 = .ok (.getfield 98, 3) := by decide +kernel
theorem dX6_coupleOf_145 : decode cX6_coupleOf 145 = .ok (.iload_n 1, 1) := by decide +kernel
theorem dX6_coupleOf_146 : decode cX6_coupleOf 146 = .ok (.iaload, 1) := by decide +kernel
theorem dX6_coupleOf_147 : decode cX6_coupleOf 147 = .ok (.aload_n 0, 1) := by decide +kernel
theorem dX6_coupleOf_148 : decode cX6_coupleOf 148 = .ok (.getfield 10, 3) := by decide +kernel
theorem dX6_coupleOf_151 : decode cX6_coupleOf 151 = .ok (.getfield 101, 3) := by decide +kernel
theorem dX6_coupleOf_154 : decode cX6_coupleOf 154 = .ok (.iload_n 1, 1) := by decide +kernel
theorem dX6_coupleOf_155 : decode cX6_coupleOf 155 = .ok (.iaload, 1) := by decide +kernel
theorem dX6_coupleOf_156 : decode cX6_coupleOf 156 = .ok (.invokestatic 119, 3) := by decide +kernel
theorem dX6_coupleOf_159 : decode cX6_coupleOf 159 = .ok (.ireturn, 1) := by decide +kernel
theorem dX6_coupleOf_160 : decode cX6_coupleOf 160 = .ok (.aload_n 0, 1) := by decide +kernel
theorem dX6_coupleOf_161 : decode cX6_coupleOf 161 = .ok (.bipush (-2), 2) := by decide +kernel
theorem dX6_coupleOf_163 : decode cX6_coupleOf 163 = .ok (.invokevirtual 65, 3) := by decide +kernel
theorem dX6_coupleOf_166 : decode cX6_coupleOf 166 = .ok (.ireturn, 1) := by decide +kernel
theorem dX6_order_0 : decode cX6_order 0 = .ok (.iload_n 1, 1) := by decide +kernel
theorem dX6_order_1 : decode cX6_order 1 = .ok (.ifCond .ge 10, 3) := by decide +kernel
theorem dX6_order_4 : decode cX6_order 4 = .ok (.aload_n 0, 1) := by decide +kernel
theorem dX6_order_5 : decode cX6_order 5 = .ok (.bipush (-4), 2) := by decide +kernel
theorem dX6_order_7 : decode cX6_order 7 = .ok (.invokevirtual 65, 3) := by decide +kernel
theorem dX6_order_10 : decode cX6_order 10 = .ok (.ireturn, 1) := by decide +kernel
theorem dX6_order_11 : decode cX6_order 11 = .ok (.iload_n 1, 1) := by decide +kernel
theorem dX6_order_12 : decode cX6_order 12 = .ok (.aload_n 0, 1) := by decide +kernel
theorem dX6_order_13 : decode cX6_order 13 = .ok (.getfield 10, 3) := by decide +kernel
theorem dX6_order_16 : decode cX6_order 16 = .ok (.getfield 125, 3) := by decide +kernel
theorem dX6_order_19 : decode cX6_order 19 = .ok (.if_icmp .ge 15, 3) := by decide +kernel
theorem dX6_order_22 : decode cX6_order 22 = .ok (.aload_n 0, 1) := by decide +kernel
theorem dX6_order_23 : decode cX6_order 23 = .ok (.getfield 10, 3) := by decide +kernel
theorem dX6_order_26 : decode cX6_order 26 = .ok (.getfield 128, 3) := by decide +kernel
theorem dX6_order_29 : decode cX6_order 29 = .ok (.iload_n 1, 1) := by decide +kernel
theorem dX6_order_30 : decode cX6_order 30 = .ok (.iaload, 1) := by decide +kernel
theorem dX6_order_31 : decode cX6_order 31 = .ok (.goto 5, 3) := by decide +kernel
theorem dX6_order_34 : decode cX6_order 34 = .ok (.bipush (-9), 2) := by decide +kernel
theorem dX6_order_36 : decode cX6_order 36 = .ok (.ireturn, 1) := by decide +kernel
theorem dX6_free_0 : decode cX6_free 0 = .ok (.iload_n 1, 1) := by decide +kernel
theorem dX6_free_1 : decode cX6_free 1 = .ok (.ifCond .lt 14, 3) := by decide +kernel
theorem dX6_free_4 : decode cX6_free 4 = .ok (.iload_n 1, 1) := by decide +kernel
theorem dX6_free_5 : decode cX6_free 5 = .ok (.aload_n 0, 1) := by decide +kernel
theorem dX6_free_6 : decode cX6_free 6 = .ok (.getfield 10, 3) := by decide +kernel
theorem dX6_free_9 : decode cX6_free 9 = .ok (.getfield 131, 3) := by decide +kernel
theorem dX6_free_12 : decode cX6_free 12 = .ok (.if_icmp .lt 10, 3) := by decide +kernel
theorem dX6_free_15 : decode cX6_free 15 = .ok (.aload_n 0, 1) := by decide +kernel
theorem dX6_free_16 : decode cX6_free 16 = .ok (.bipush (-2), 2) := by decide +kernel
theorem dX6_free_18 : decode cX6_free 18 = .ok (.invokevirtual 65, 3) := by decide +kernel
theorem dX6_free_21 : decode cX6_free 21 = .ok (.ireturn, 1) := by decide +kernel
theorem dX6_free_22 : decode cX6_free 22 = .ok (.aload_n 0, 1) := by decide +kernel
theorem dX6_free_23 : decode cX6_free 23 = .ok (.getfield 10, 3) := by decide +kernel
theorem dX6_free_26 : decode cX6_free 26 = .ok (.getfield 134, 3) := by decide +kernel
theorem dX6_free_29 : decode cX6_free 29 = .ok (.iload_n 1, 1) := by decide +kernel
theorem dX6_free_30 : decode cX6_free 30 = .ok (.iaload, 1) := by decide +kernel
theorem dX6_free_31 : decode cX6_free 31 = .ok (.ireturn, 1) := by decide +kernel
theorem dX6_couple_0 : decode cX6_couple 0 = .ok (.iload_n 1, 1) := by decide +kernel
theorem dX6_couple_1 : decode cX6_couple 1 = .ok (.invokestatic 137, 3) := by decide +kernel
theorem dX6_couple_4 : decode cX6_couple 4 = .ok (.ifCond .ne 10, 3) := by decide +kernel
theorem dX6_couple_7 : decode cX6_couple 7 = .ok (.aload_n 0, 1) := by decide +kernel
theorem dX6_couple_8 : decode cX6_couple 8 = .ok (.bipush (-2), 2) := by decide +kernel
theorem dX6_couple_10 : decode cX6_couple 10 = .ok (.invokevirtual 65, 3) := by decide +kernel
theorem dX6_couple_13 : decode cX6_couple 13 = .ok (.ireturn, 1) := by decide +kernel
theorem dX6_couple_14 : decode cX6_couple 14 = .ok (.iload_n 2, 1) := by decide +kernel
theorem dX6_couple_15 : decode cX6_couple 15 = .ok (.ifCond .lt 7, 3) := by decide +kernel
theorem dX6_couple_18 : decode cX6_couple 18 = .ok (.iload_n 3, 1) := by decide +kernel
theorem dX6_couple_19 : decode cX6_couple 19 = .ok (.ifCond .ge 10, 3) := by decide +kernel
theorem dX6_couple_22 : decode cX6_couple 22 = .ok (.aload_n 0, 1) := by decide +kernel
theorem dX6_couple_23 : decode cX6_couple 23 = .ok (.bipush (-4), 2) := by decide +kernel
theorem dX6_couple_25 : decode cX6_couple 25 = .ok (.invokevirtual 65, 3) := by decide +kernel
theorem dX6_couple_28 : decode cX6_couple 28 = .ok (.ireturn, 1) := by decide +kernel
theorem dX6_couple_29 : decode cX6_couple 29 = .ok (.iload_n 2, 1) := by decide +kernel
theorem dX6_couple_30 : decode cX6_couple 30 = .ok (.bipush 9, 2) := by decide +kernel
theorem dX6_couple_32 : decode cX6_couple 32 = .ok (.if_icmp .gt 20, 3) := by decide +kernel
theorem dX6_couple_35 : decode cX6_couple 35 = .ok (.iload_n 3, 1) := by decide +kernel
theorem dX6_couple_36 : decode cX6_couple 36 = .ok (.sipush 240, 3) := by decide +kernel
theorem dX6_couple_39 : decode cX6_couple 39 = .ok (.if_icmp .gt 13, 3) := by decide +kernel
theorem dX6_couple_42 : decode cX6_couple 42 = .ok (.aload_n 0, 1) := by decide +kernel
theorem dX6_couple_43 : decode cX6_couple 43 = .ok (.getfield 10, 3) := by decide +kernel
theorem dX6_couple_46 : decode cX6_couple 46 = .ok (.invokevirtual 140, 3) := by decide +kernel
theorem dX6_couple_49 : decode cX6_couple 49 = .ok (.ifCond .eq 10, 3) := by decide +kernel
theorem dX6_couple_52 : decode cX6_couple 52 = .ok (.aload_n 0, 1) := by decide +kernel
theorem dX6_couple_53 : decode cX6_couple 53 = .ok (.bipush (-6), 2) := by decide +kernel
theorem dX6_couple_55 : decode cX6_couple 55 = .ok (.invokevirtual 65, 3) := by decide +kernel
theorem dX6_couple_58 : decode cX6_couple 58 = .ok (.ireturn, 1) := by decide +kernel
theorem dX6_couple_59 : decode cX6_couple 59 = .ok (.aload_n 0, 1) := by decide +kernel
theorem dX6_couple_60 : decode cX6_couple 60 = .ok (.getfield 10, 3) := by decide +kernel
theorem dX6_couple_63 : decode cX6_couple 63 = .ok (.iload_n 1, 1) := by decide +kernel
theorem dX6_couple_64 : decode cX6_couple 64 = .ok (.iload_n 2, 1) := by decide +kernel
theorem dX6_couple_65 : decode cX6_couple 65 = .ok (.iload_n 3, 1) := by decide +kernel
theorem dX6_couple_66 : decode cX6_couple 66 = .ok (.invokevirtual 144, 3) := by decide +kernel
theorem dX6_couple_69 : decode cX6_couple 69 = .ok (.aload_n 0, 1) := by decide +kernel
theorem dX6_couple_70 : decode cX6_couple 70 = .ok (.getfield 29, 3) := by decide +kernel
theorem dX6_couple_73 : decode cX6_couple 73 = .ok (.invokevirtual 92, 3) := by decide +kernel
theorem dX6_couple_76 : decode cX6_couple 76 = .ok (.aload_n 0, 1) := by decide +kernel
theorem dX6_couple_77 : decode cX6_couple 77 = .ok (.getfield 10, 3) := by decide +kernel
theorem dX6_couple_80 : decode cX6_couple 80 = .ok (.getfield 148, 3) := by decide +kernel
theorem dX6_couple_83 : decode cX6_couple 83 = .ok (.iconst 1, 1) := by decide +kernel
theorem dX6_couple_84 : decode cX6_couple 84 = .ok (.isub, 1) := by decide +kernel
theorem dX6_couple_85 : decode cX6_couple 85 = .ok (.ireturn, 1) := by decide +kernel
theorem dX6_rooms_0 : decode cX6_rooms 0 = .ok (.iload_n 1, 1) := by decide +kernel
theorem dX6_rooms_1 : decode cX6_rooms 1 = .ok (.iconst 1, 1) := by decide +kernel
theorem dX6_rooms_2 : decode cX6_rooms 2 = .ok (.if_icmp .ge 10, 3) := by decide +kernel
theorem dX6_rooms_5 : decode cX6_rooms 5 = .ok (.aload_n 0, 1) := by decide +kernel
theorem dX6_rooms_6 : decode cX6_rooms 6 = .ok (.bipush (-4), 2) := by decide +kernel
theorem dX6_rooms_8 : decode cX6_rooms 8 = .ok (.invokevirtual 65, 3) := by decide +kernel
theorem dX6_rooms_11 : decode cX6_rooms 11 = .ok (.ireturn, 1) := by decide +kernel
theorem dX6_rooms_12 : decode cX6_rooms 12 = .ok (.iload_n 1, 1) := by decide +kernel
theorem dX6_rooms_13 : decode cX6_rooms 13 = .ok (.iconst 2, 1) := by decide +kernel
theorem dX6_rooms_14 : decode cX6_rooms 14 = .ok (.if_icmp .le 10, 3) := by decide +kernel
theorem dX6_rooms_17 : decode cX6_rooms 17 = .ok (.aload_n 0, 1) := by decide +kernel
theorem dX6_rooms_18 : decode cX6_rooms 18 = .ok (.bipush (-6), 2) := by decide +kernel
theorem dX6_rooms_20 : decode cX6_rooms 20 = .ok (.invokevirtual 65, 3) := by decide +kernel
theorem dX6_rooms_23 : decode cX6_rooms 23 = .ok (.ireturn, 1) := by decide +kernel
theorem dX6_rooms_24 : decode cX6_rooms 24 = .ok (.aload_n 0, 1) := by decide +kernel
theorem dX6_rooms_25 : decode cX6_rooms 25 = .ok (.getfield 10, 3) := by decide +kernel
theorem dX6_rooms_28 : decode cX6_rooms 28 = .ok (.getfield 131, 3) := by decide +kernel
theorem dX6_rooms_31 : decode cX6_rooms 31 = .ok (.istore_n 2, 1) := by decide +kernel
theorem dX6_rooms_32 : decode cX6_rooms 32 = .ok (.aload_n 0, 1) := by decide +kernel
theorem dX6_rooms_33 : decode cX6_rooms 33 = .ok (.getfield 10, 3) := by decide +kernel
theorem dX6_rooms_36 : decode cX6_rooms 36 = .ok (.iload_n 1, 1) := by decide +kernel
theorem dX6_rooms_37 : decode cX6_rooms 37 = .ok (.invokevirtual 151, 3) := by decide +kernel
theorem dX6_rooms_40 : decode cX6_rooms 40 = .ok (.aload_n 0, 1) := by decide +kernel
theorem dX6_rooms_41 : decode cX6_rooms 41 = .ok (.getfield 29, 3) := by decide +kernel
theorem dX6_rooms_44 : decode cX6_rooms 44 = .ok (.invokevirtual 92, 3) := by decide +kernel
theorem dX6_rooms_47 : decode cX6_rooms 47 = .ok (.iload_n 2, 1) := by decide +kernel
theorem dX6_rooms_48 : decode cX6_rooms 48 = .ok (.ireturn, 1) := by decide +kernel
theorem dX6_weds_0 : decode cX6_weds 0 = .ok (.iload_n 1, 1) := by decide +kernel
theorem dX6_weds_1 : decode cX6_weds 1 = .ok (.iconst 1, 1) := by decide +kernel
theorem dX6_weds_2 : decode cX6_weds 2 = .ok (.if_icmp .ge 10, 3) := by decide +kernel
theorem dX6_weds_5 : decode cX6_weds 5 = .ok (.aload_n 0, 1) := by decide +kernel
theorem dX6_weds_6 : decode cX6_weds 6 = .ok (.bipush (-4), 2) := by decide +kernel
theorem dX6_weds_8 : decode cX6_weds 8 = .ok (.invokevirtual 65, 3) := by decide +kernel
theorem dX6_weds_11 : decode cX6_weds 11 = .ok (.ireturn, 1) := by decide +kernel
theorem dX6_weds_12 : decode cX6_weds 12 = .ok (.iload_n 1, 1) := by decide +kernel
theorem dX6_weds_13 : decode cX6_weds 13 = .ok (.bipush 7, 2) := by decide +kernel
theorem dX6_weds_15 : decode cX6_weds 15 = .ok (.if_icmp .le 10, 3) := by decide +kernel
theorem dX6_weds_18 : decode cX6_weds 18 = .ok (.aload_n 0, 1) := by decide +kernel
theorem dX6_weds_19 : decode cX6_weds 19 = .ok (.bipush (-6), 2) := by decide +kernel
theorem dX6_weds_21 : decode cX6_weds 21 = .ok (.invokevirtual 65, 3) := by decide +kernel
theorem dX6_weds_24 : decode cX6_weds 24 = .ok (.ireturn, 1) := by decide +kernel
theorem dX6_weds_25 : decode cX6_weds 25 = .ok (.iload_n 1, 1) := by decide +kernel
theorem dX6_weds_26 : decode cX6_weds 26 = .ok (.aload_n 0, 1) := by decide +kernel
theorem dX6_weds_27 : decode cX6_weds 27 = .ok (.getfield 10, 3) := by decide +kernel
theorem dX6_weds_30 : decode cX6_weds 30 = .ok (.getfield 125, 3) := by decide +kernel
theorem dX6_weds_33 : decode cX6_weds 33 = .ok (.if_icmp .le 10, 3) := by decide +kernel
theorem dX6_weds_36 : decode cX6_weds 36 = .ok (.aload_n 0, 1) := by decide +kernel
theorem dX6_weds_37 : decode cX6_weds 37 = .ok (.bipush (-3), 2) := by decide +kernel
theorem dX6_weds_39 : decode cX6_weds 39 = .ok (.invokevirtual 65, 3) := by decide +kernel
theorem dX6_weds_42 : decode cX6_weds 42 = .ok (.ireturn, 1) := by decide +kernel
theorem dX6_weds_43 : decode cX6_weds 43 = .ok (.aload_n 0, 1) := by decide +kernel
theorem dX6_weds_44 : decode cX6_weds 44 = .ok (.getfield 29, 3) := by decide +kernel
theorem dX6_weds_47 : decode cX6_weds 47 = .ok (.aload_n 0, 1) := by decide +kernel
theorem dX6_weds_48 : decode cX6_weds 48 = .ok (.getfield 10, 3) := by decide +kernel
theorem dX6_weds_51 : decode cX6_weds 51 = .ok (.invokevirtual 155, 3) := by decide +kernel
theorem dX6_weds_54 : decode cX6_weds 54 = .ok (.aload_n 0, 1) := by decide +kernel
theorem dX6_weds_55 : decode cX6_weds 55 = .ok (.getfield 10, 3) := by decide +kernel
theorem dX6_weds_58 : decode cX6_weds 58 = .ok (.getfield 128, 3) := by decide +kernel
theorem dX6_weds_61 : decode cX6_weds 61 = .ok (.iload_n 1, 1) := by decide +kernel
theorem dX6_weds_62 : decode cX6_weds 62 = .ok (.iconst 1, 1) := by decide +kernel
theorem dX6_weds_63 : decode cX6_weds 63 = .ok (.isub, 1) := by decide +kernel
theorem dX6_weds_64 : decode cX6_weds 64 = .ok (.iaload, 1) := by decide +kernel
theorem dX6_weds_65 : decode cX6_weds 65 = .ok (.istore_n 2, 1) := by decide +kernel
theorem dX6_weds_66 : decode cX6_weds 66 = .ok (.aload_n 0, 1) := by decide +kernel
theorem dX6_weds_67 : decode cX6_weds 67 = .ok (.getfield 10, 3) := by decide +kernel
theorem dX6_weds_70 : decode cX6_weds 70 = .ok (.iload_n 1, 1) := by decide +kernel
theorem dX6_weds_71 : decode cX6_weds 71 = .ok (.invokevirtual 158, 3) := by decide +kernel
theorem dX6_weds_74 : decode cX6_weds 74 = .ok (.aload_n 0, 1) := by decide +kernel
theorem dX6_weds_75 : decode cX6_weds 75 = .ok (.getfield 10, 3) := by decide +kernel
theorem dX6_weds_78 : decode cX6_weds 78 = .ok (.getfield 161, 3) := by decide +kernel
theorem dX6_weds_81 : decode cX6_weds 81 = .ok (.iload_n 2, 1) := by decide +kernel
theorem dX6_weds_82 : decode cX6_weds 82 = .ok (.iaload, 1) := by decide +kernel
theorem dX6_weds_83 : decode cX6_weds 83 = .ok (.ireturn, 1) := by decide +kernel
theorem dX6_pulls_0 : decode cX6_pulls 0 = .ok (.aload_n 0, 1) := by decide +kernel
theorem dX6_pulls_1 : decode cX6_pulls 1 = .ok (.getfield 10, 3) := by decide +kernel
theorem dX6_pulls_4 : decode cX6_pulls 4 = .ok (.iload_n 1, 1) := by decide +kernel
theorem dX6_pulls_5 : decode cX6_pulls 5 = .ok (.invokevirtual 95, 3) := by decide +kernel
theorem dX6_pulls_8 : decode cX6_pulls 8 = .ok (.ifCond .ne 9, 3) := by decide +kernel
theorem dX6_pulls_11 : decode cX6_pulls 11 = .ok (.aload_n 0, 1) := by decide +kernel
theorem dX6_pulls_12 : decode cX6_pulls 12 = .ok (.iconst (-1), 1) := by decide +kernel
theorem dX6_pulls_13 : decode cX6_pulls 13 = .ok (.invokevirtual 65, 3) := by decide +kernel
theorem dX6_pulls_16 : decode cX6_pulls 16 = .ok (.ireturn, 1) := by decide +kernel
theorem dX6_pulls_17 : decode cX6_pulls 17 = .ok (.aload_n 0, 1) := by decide +kernel
theorem dX6_pulls_18 : decode cX6_pulls 18 = .ok (.getfield 10, 3) := by decide +kernel
theorem dX6_pulls_21 : decode cX6_pulls 21 = .ok (.iload_n 1, 1) := by decide +kernel
theorem dX6_pulls_22 : decode cX6_pulls 22 = .ok (.invokevirtual 107, 3) := by decide +kernel
theorem dX6_pulls_25 : decode cX6_pulls 25 = .ok (.ifCond .eq 10, 3) := by decide +kernel
theorem dX6_pulls_28 : decode cX6_pulls 28 = .ok (.aload_n 0, 1) := by decide +kernel
theorem dX6_pulls_29 : decode cX6_pulls 29 = .ok (.bipush (-3), 2) := by decide +kernel
theorem dX6_pulls_31 : decode cX6_pulls 31 = .ok (.invokevirtual 65, 3) := by decide +kernel
theorem dX6_pulls_34 : decode cX6_pulls 34 = .ok (.ireturn, 1) := by decide +kernel
theorem dX6_pulls_35 : decode cX6_pulls 35 = .ok (.aload_n 0, 1) := by decide +kernel
theorem dX6_pulls_36 : decode cX6_pulls 36 = .ok (.getfield 29, 3) := by decide +kernel
theorem dX6_pulls_39 : decode cX6_pulls 39 = .ok (.aload_n 0, 1) := by decide +kernel
theorem dX6_pulls_40 : decode cX6_pulls 40 = .ok (.getfield 10, 3) := by decide +kernel
theorem dX6_pulls_43 : decode cX6_pulls 43 = .ok (.invokevirtual 155, 3) := by decide +kernel
theorem dX6_pulls_46 : decode cX6_pulls 46 = .ok (.aload_n 0, 1) := by decide +kernel
theorem dX6_pulls_47 : decode cX6_pulls 47 = .ok (.getfield 10, 3) := by decide +kernel
theorem dX6_pulls_50 : decode cX6_pulls 50 = .ok (.iload_n 1, 1) := by decide +kernel
theorem dX6_pulls_51 : decode cX6_pulls 51 = .ok (.invokevirtual 164, 3) := by decide +kernel
theorem dX6_pulls_54 : decode cX6_pulls 54 = .ok (.istore_n 2, 1) := by decide +kernel
theorem dX6_pulls_55 : decode cX6_pulls 55 = .ok (.aload_n 0, 1) := by decide +kernel
theorem dX6_pulls_56 : decode cX6_pulls 56 = .ok (.getfield 10, 3) := by decide +kernel
theorem dX6_pulls_59 : decode cX6_pulls 59 = .ok (.iload_n 1, 1) := by decide +kernel
theorem dX6_pulls_60 : decode cX6_pulls 60 = .ok (.invokevirtual 167, 3) := by decide +kernel
theorem dX6_pulls_63 : decode cX6_pulls 63 = .ok (.iload_n 2, 1) := by decide +kernel
theorem dX6_pulls_64 : decode cX6_pulls 64 = .ok (.ireturn, 1) := by decide +kernel
theorem dX6_slack_0 : decode cX6_slack 0 = .ok (.iload_n 1, 1) := by decide +kernel
theorem dX6_slack_1 : decode cX6_slack 1 = .ok (.ifCond .ge 10, 3) := by decide +kernel
theorem dX6_slack_4 : decode cX6_slack 4 = .ok (.aload_n 0, 1) := by decide +kernel
theorem dX6_slack_5 : decode cX6_slack 5 = .ok (.bipush (-4), 2) := by decide +kernel
theorem dX6_slack_7 : decode cX6_slack 7 = .ok (.invokevirtual 65, 3) := by decide +kernel
theorem dX6_slack_10 : decode cX6_slack 10 = .ok (.ireturn, 1) := by decide +kernel
theorem dX6_slack_11 : decode cX6_slack 11 = .ok (.iload_n 1, 1) := by decide +kernel
theorem dX6_slack_12 : decode cX6_slack 12 = .ok (.bipush 9, 2) := by decide +kernel
theorem dX6_slack_14 : decode cX6_slack 14 = .ok (.if_icmp .le 10, 3) := by decide +kernel
theorem dX6_slack_17 : decode cX6_slack 17 = .ok (.aload_n 0, 1) := by decide +kernel
theorem dX6_slack_18 : decode cX6_slack 18 = .ok (.bipush (-6), 2) := by decide +kernel
theorem dX6_slack_20 : decode cX6_slack 20 = .ok (.invokevirtual 65, 3) := by decide +kernel
theorem dX6_slack_23 : decode cX6_slack 23 = .ok (.ireturn, 1) := by decide +kernel
theorem dX6_slack_24 : decode cX6_slack 24 = .ok (.aload_n 0, 1) := by decide +kernel
theorem dX6_slack_25 : decode cX6_slack 25 = .ok (.getfield 29, 3) := by decide +kernel
theorem dX6_slack_28 : decode cX6_slack 28 = .ok (.aload_n 0, 1) := by decide +kernel
theorem dX6_slack_29 : decode cX6_slack 29 = .ok (.getfield 10, 3) := by decide +kernel
theorem dX6_slack_32 : decode cX6_slack 32 = .ok (.invokevirtual 155, 3) := by decide +kernel
theorem dX6_slack_35 : decode cX6_slack 35 = .ok (.aload_n 0, 1) := by decide +kernel
theorem dX6_slack_36 : decode cX6_slack 36 = .ok (.getfield 10, 3) := by decide +kernel
theorem dX6_slack_39 : decode cX6_slack 39 = .ok (.getfield 170, 3) := by decide +kernel
theorem dX6_slack_42 : decode cX6_slack 42 = .ok (.istore_n 2, 1) := by decide +kernel
theorem dX6_slack_43 : decode cX6_slack 43 = .ok (.aload_n 0, 1) := by decide +kernel
theorem dX6_slack_44 : decode cX6_slack 44 = .ok (.getfield 10, 3) := by decide +kernel
theorem dX6_slack_47 : decode cX6_slack 47 = .ok (.iload_n 1, 1) := by decide +kernel
theorem dX6_slack_48 : decode cX6_slack 48 = .ok (.putfield 170, 3) := by decide +kernel
theorem dX6_slack_51 : decode cX6_slack 51 = .ok (.iload_n 2, 1) := by decide +kernel
theorem dX6_slack_52 : decode cX6_slack 52 = .ok (.ireturn, 1) := by decide +kernel
theorem dX6_rests_0 : decode cX6_rests 0 = .ok (.iload_n 1, 1) := by decide +kernel
theorem dX6_rests_1 : decode cX6_rests 1 = .ok (.iconst 1, 1) := by decide +kernel
theorem dX6_rests_2 : decode cX6_rests 2 = .ok (.if_icmp .ge 10, 3) := by decide +kernel
theorem dX6_rests_5 : decode cX6_rests 5 = .ok (.aload_n 0, 1) := by decide +kernel
theorem dX6_rests_6 : decode cX6_rests 6 = .ok (.bipush (-4), 2) := by decide +kernel
theorem dX6_rests_8 : decode cX6_rests 8 = .ok (.invokevirtual 65, 3) := by decide +kernel
theorem dX6_rests_11 : decode cX6_rests 11 = .ok (.ireturn, 1) := by decide +kernel
theorem dX6_rests_12 : decode cX6_rests 12 = .ok (.iload_n 1, 1) := by decide +kernel
theorem dX6_rests_13 : decode cX6_rests 13 = .ok (.bipush 30, 2) := by decide +kernel
theorem dX6_rests_15 : decode cX6_rests 15 = .ok (.if_icmp .le 10, 3) := by decide +kernel
theorem dX6_rests_18 : decode cX6_rests 18 = .ok (.aload_n 0, 1) := by decide +kernel
theorem dX6_rests_19 : decode cX6_rests 19 = .ok (.bipush (-6), 2) := by decide +kernel
theorem dX6_rests_21 : decode cX6_rests 21 = .ok (.invokevirtual 65, 3) := by decide +kernel
theorem dX6_rests_24 : decode cX6_rests 24 = .ok (.ireturn, 1) := by decide +kernel
theorem dX6_rests_25 : decode cX6_rests 25 = .ok (.aload_n 0, 1) := by decide +kernel
theorem dX6_rests_26 : decode cX6_rests 26 = .ok (.getfield 29, 3) := by decide +kernel
theorem dX6_rests_29 : decode cX6_rests 29 = .ok (.aload_n 0, 1) := by decide +kernel
theorem dX6_rests_30 : decode cX6_rests 30 = .ok (.getfield 10, 3) := by decide +kernel
theorem dX6_rests_33 : decode cX6_rests 33 = .ok (.invokevirtual 155, 3) := by decide +kernel
theorem dX6_rests_36 : decode cX6_rests 36 = .ok (.aload_n 0, 1) := by decide +kernel
theorem dX6_rests_37 : decode cX6_rests 37 = .ok (.getfield 10, 3) := by decide +kernel
theorem dX6_rests_40 : decode cX6_rests 40 = .ok (.getfield 173, 3) := by decide +kernel
theorem dX6_rests_43 : decode cX6_rests 43 = .ok (.istore_n 2, 1) := by decide +kernel
theorem dX6_rests_44 : decode cX6_rests 44 = .ok (.aload_n 0, 1) := by decide +kernel
theorem dX6_rests_45 : decode cX6_rests 45 = .ok (.getfield 10, 3) := by decide +kernel
theorem dX6_rests_48 : decode cX6_rests 48 = .ok (.iload_n 1, 1) := by decide +kernel
theorem dX6_rests_49 : decode cX6_rests 49 = .ok (.invokevirtual 176, 3) := by decide +kernel
theorem dX6_rests_52 : decode cX6_rests 52 = .ok (.iload_n 2, 1) := by decide +kernel
theorem dX6_rests_53 : decode cX6_rests 53 = .ok (.ireturn, 1) := by decide +kernel
theorem dX6_back_0 : decode cX6_back 0 = .ok (.aload_n 0, 1) := by decide +kernel
theorem dX6_back_1 : decode cX6_back 1 = .ok (.getfield 29, 3) := by decide +kernel
theorem dX6_back_4 : decode cX6_back 4 = .ok (.aload_n 0, 1) := by decide +kernel
theorem dX6_back_5 : decode cX6_back 5 = .ok (.getfield 10, 3) := by decide +kernel
theorem dX6_back_8 : decode cX6_back 8 = .ok (.invokevirtual 179, 3) := by decide +kernel
theorem dX6_back_11 : decode cX6_back 11 = .ok (.ifCond .ne 10, 3) := by decide +kernel
theorem dX6_back_14 : decode cX6_back 14 = .ok (.aload_n 0, 1) := by decide +kernel
theorem dX6_back_15 : decode cX6_back 15 = .ok (.bipush (-3), 2) := by decide +kernel
theorem dX6_back_17 : decode cX6_back 17 = .ok (.invokevirtual 65, 3) := by decide +kernel
theorem dX6_back_20 : decode cX6_back 20 = .ok (.ireturn, 1) := by decide +kernel
theorem dX6_back_21 : decode cX6_back 21 = .ok (.aload_n 0, 1) := by decide +kernel
theorem dX6_back_22 : decode cX6_back 22 = .ok (.getfield 29, 3) := by decide +kernel
theorem dX6_back_25 : decode cX6_back 25 = .ok (.getfield 183, 3) := by decide +kernel
theorem dX6_back_28 : decode cX6_back 28 = .ok (.ireturn, 1) := by decide +kernel
theorem dX6_when_0 : decode cX6_when 0 = .ok (.aload_n 0, 1) := by decide +kernel
theorem dX6_when_1 : decode cX6_when 1 = .ok (.getfield 10, 3) := by decide +kernel
theorem dX6_when_4 : decode cX6_when 4 = .ok (.iload_n 1, 1) := by decide +kernel
theorem dX6_when_5 : decode cX6_when 5 = .ok (.invokevirtual 95, 3) := by decide +kernel
theorem dX6_when_8 : decode cX6_when 8 = .ok (.ifCond .ne 9, 3) := by decide +kernel
theorem dX6_when_11 : decode cX6_when 11 = .ok (.aload_n 0, 1) := by decide +kernel
theorem dX6_when_12 : decode cX6_when 12 = .ok (.iconst (-1), 1) := by decide +kernel
theorem dX6_when_13 : decode cX6_when 13 = .ok (.invokevirtual 65, 3) := by decide +kernel
theorem dX6_when_16 : decode cX6_when 16 = .ok (.ireturn, 1) := by decide +kernel
theorem dX6_when_17 : decode cX6_when 17 = .ok (.aload_n 0, 1) := by decide +kernel
theorem dX6_when_18 : decode cX6_when 18 = .ok (.invokevirtual 184, 3) := by decide +kernel
theorem dX6_when_21 : decode cX6_when 21 = .ok (.astore_n 3, 1) := by decide +kernel
theorem dX6_when_22 : decode cX6_when 22 = .ok (.iload_n 2, 1) := by decide +kernel
theorem dX6_when_23 : decode cX6_when 23 = .ok (.tableswitch 56 0 3 #[29, 36, 43, 50], 29) := by decide +kernel
theorem dX6_when_52 : decode cX6_when 52 = .ok (.aload_n 3, 1) := by decide +kernel
theorem dX6_when_53 : decode cX6_when 53 = .ok (.getfield 187, 3) := by decide +kernel
theorem dX6_when_56 : decode cX6_when 56 = .ok (.iload_n 1, 1) := by decide +kernel
theorem dX6_when_57 : decode cX6_when 57 = .ok (.iaload, 1) := by decide +kernel
theorem dX6_when_58 : decode cX6_when 58 = .ok (.ireturn, 1) := by decide +kernel
theorem dX6_when_59 : decode cX6_when 59 = .ok (.aload_n 3, 1) := by decide +kernel
theorem dX6_when_60 : decode cX6_when 60 = .ok (.getfield 161, 3) := by decide +kernel
theorem dX6_when_63 : decode cX6_when 63 = .ok (.iload_n 1, 1) := by decide +kernel
theorem dX6_when_64 : decode cX6_when 64 = .ok (.iaload, 1) := by decide +kernel
theorem dX6_when_65 : decode cX6_when 65 = .ok (.ireturn, 1) := by decide +kernel
theorem dX6_when_66 : decode cX6_when 66 = .ok (.aload_n 3, 1) := by decide +kernel
theorem dX6_when_67 : decode cX6_when 67 = .ok (.getfield 190, 3) := by decide +kernel
theorem dX6_when_70 : decode cX6_when 70 = .ok (.iload_n 1, 1) := by decide +kernel
theorem dX6_when_71 : decode cX6_when 71 = .ok (.iaload, 1) := by decide +kernel
theorem dX6_when_72 : decode cX6_when 72 = .ok (.ireturn, 1) := by decide +kernel
theorem dX6_when_73 : decode cX6_when 73 = .ok (.aload_n 3, 1) := by decide +kernel
theorem dX6_when_74 : decode cX6_when 74 = .ok (.iload_n 1, 1) := by decide +kernel
theorem dX6_when_75 : decode cX6_when 75 = .ok (.invokevirtual 193, 3) := by decide +kernel
theorem dX6_when_78 : decode cX6_when 78 = .ok (.ireturn, 1) := by decide +kernel
theorem dX6_when_79 : decode cX6_when 79 = .ok (.aload_n 0, 1) := by decide +kernel
theorem dX6_when_80 : decode cX6_when 80 = .ok (.bipush (-2), 2) := by decide +kernel
theorem dX6_when_82 : decode cX6_when 82 = .ok (.invokevirtual 65, 3) := by decide +kernel
theorem dX6_when_85 : decode cX6_when 85 = .ok (.ireturn, 1) := by decide +kernel
theorem dX6_waits_0 : decode cX6_waits 0 = .ok (.aload_n 0, 1) := by decide +kernel
theorem dX6_waits_1 : decode cX6_waits 1 = .ok (.getfield 10, 3) := by decide +kernel
theorem dX6_waits_4 : decode cX6_waits 4 = .ok (.iload_n 1, 1) := by decide +kernel
theorem dX6_waits_5 : decode cX6_waits 5 = .ok (.invokevirtual 95, 3) := by decide +kernel
theorem dX6_waits_8 : decode cX6_waits 8 = .ok (.ifCond .ne 12, 3) := by decide +kernel
theorem dX6_waits_11 : decode cX6_waits 11 = .ok (.ldc 196, 2) := by decide +kernel
theorem dX6_waits_13 : decode cX6_waits 13 = .ok (.aload_n 0, 1) := by decide +kernel
theorem dX6_waits_14 : decode cX6_waits 14 = .ok (.iconst (-1), 1) := by decide +kernel
theorem dX6_waits_15 : decode cX6_waits 15 = .ok (.invokevirtual 65, 3) := by decide +kernel
theorem dX6_waits_18 : decode cX6_waits 18 = .ok (.isub, 1) := by decide +kernel
theorem dX6_waits_19 : decode cX6_waits 19 = .ok (.ireturn, 1) := by decide +kernel
theorem dX6_waits_20 : decode cX6_waits 20 = .ok (.aload_n 0, 1) := by decide +kernel
theorem dX6_waits_21 : decode cX6_waits 21 = .ok (.invokevirtual 184, 3) := by decide +kernel
theorem dX6_waits_24 : decode cX6_waits 24 = .ok (.iload_n 1, 1) := by decide +kernel
theorem dX6_waits_25 : decode cX6_waits 25 = .ok (.invokevirtual 197, 3) := by decide +kernel
theorem dX6_waits_28 : decode cX6_waits 28 = .ok (.ireturn, 1) := by decide +kernel
theorem dX6_all_0 : decode cX6_all 0 = .ok (.iload_n 1, 1) := by decide +kernel
theorem dX6_all_1 : decode cX6_all 1 = .ok (.lookupswitch 43 #[(0, 27), (1, 35)], 27) := by decide +kernel
theorem dX6_all_28 : decode cX6_all 28 = .ok (.aload_n 0, 1) := by decide +kernel
theorem dX6_all_29 : decode cX6_all 29 = .ok (.invokevirtual 184, 3) := by decide +kernel
theorem dX6_all_32 : decode cX6_all 32 = .ok (.invokevirtual 200, 3) := by decide +kernel
theorem dX6_all_35 : decode cX6_all 35 = .ok (.ireturn, 1) := by decide +kernel
theorem dX6_all_36 : decode cX6_all 36 = .ok (.aload_n 0, 1) := by decide +kernel
theorem dX6_all_37 : decode cX6_all 37 = .ok (.invokevirtual 184, 3) := by decide +kernel
theorem dX6_all_40 : decode cX6_all 40 = .ok (.invokevirtual 203, 3) := by decide +kernel
theorem dX6_all_43 : decode cX6_all 43 = .ok (.ireturn, 1) := by decide +kernel
theorem dX6_all_44 : decode cX6_all 44 = .ok (.aload_n 0, 1) := by decide +kernel
theorem dX6_all_45 : decode cX6_all 45 = .ok (.bipush (-2), 2) := by decide +kernel
theorem dX6_all_47 : decode cX6_all 47 = .ok (.invokevirtual 65, 3) := by decide +kernel
theorem dX6_all_50 : decode cX6_all 50 = .ok (.ireturn, 1) := by decide +kernel
theorem dX6_met_0 : decode cX6_met 0 = .ok (.iload_n 1, 1) := by decide +kernel
theorem dX6_met_1 : decode cX6_met 1 = .ok (.tableswitch 51 0 2 #[27, 35, 43], 27) := by decide +kernel
theorem dX6_met_28 : decode cX6_met 28 = .ok (.aload_n 0, 1) := by decide +kernel
theorem dX6_met_29 : decode cX6_met 29 = .ok (.invokevirtual 184, 3) := by decide +kernel
theorem dX6_met_32 : decode cX6_met 32 = .ok (.invokevirtual 206, 3) := by decide +kernel
theorem dX6_met_35 : decode cX6_met 35 = .ok (.ireturn, 1) := by decide +kernel
theorem dX6_met_36 : decode cX6_met 36 = .ok (.aload_n 0, 1) := by decide +kernel
theorem dX6_met_37 : decode cX6_met 37 = .ok (.invokevirtual 184, 3) := by decide +kernel
theorem dX6_met_40 : decode cX6_met 40 = .ok (.invokevirtual 209, 3) := by decide +kernel
theorem dX6_met_43 : decode cX6_met 43 = .ok (.ireturn, 1) := by decide +kernel
theorem dX6_met_44 : decode cX6_met 44 = .ok (.aload_n 0, 1) := by decide +kernel
theorem dX6_met_45 : decode cX6_met 45 = .ok (.invokevirtual 184, 3) := by decide +kernel
theorem dX6_met_48 : decode cX6_met 48 = .ok (.invokevirtual 212, 3) := by decide +kernel
theorem dX6_met_51 : decode cX6_met 51 = .ok (.ireturn, 1) := by decide +kernel
theorem dX6_met_52 : decode cX6_met 52 = .ok (.aload_n 0, 1) := by decide +kernel
theorem dX6_met_53 : decode cX6_met 53 = .ok (.bipush (-2), 2) := by decide +kernel
theorem dX6_met_55 : decode cX6_met 55 = .ok (.invokevirtual 65, 3) := by decide +kernel
theorem dX6_met_58 : decode cX6_met 58 = .ok (.ireturn, 1) := by decide +kernel
theorem dX6_best_0 : decode cX6_best 0 = .ok (.iload_n 1, 1) := by decide +kernel
theorem dX6_best_1 : decode cX6_best 1 = .ok (.iconst (-1), 1) := by decide +kernel
theorem dX6_best_2 : decode cX6_best 2 = .ok (.if_icmp .ge 10, 3) := by decide +kernel
theorem dX6_best_5 : decode cX6_best 5 = .ok (.aload_n 0, 1) := by decide +kernel
theorem dX6_best_6 : decode cX6_best 6 = .ok (.bipush (-4), 2) := by decide +kernel
theorem dX6_best_8 : decode cX6_best 8 = .ok (.invokevirtual 65, 3) := by decide +kernel
theorem dX6_best_11 : decode cX6_best 11 = .ok (.ireturn, 1) := by decide +kernel
theorem dX6_best_12 : decode cX6_best 12 = .ok (.aload_n 0, 1) := by decide +kernel
theorem dX6_best_13 : decode cX6_best 13 = .ok (.getfield 43, 3) := by decide +kernel
theorem dX6_best_16 : decode cX6_best 16 = .ok (.aload_n 0, 1) := by decide +kernel
theorem dX6_best_17 : decode cX6_best 17 = .ok (.getfield 10, 3) := by decide +kernel
theorem dX6_best_20 : decode cX6_best 20 = .ok (.invokevirtual 215, 3) := by decide +kernel
theorem dX6_best_23 : decode cX6_best 23 = .ok (.iload_n 1, 1) := by decide +kernel
theorem dX6_best_24 : decode cX6_best 24 = .ok (.iconst (-1), 1) := by decide +kernel
theorem dX6_best_25 : decode cX6_best 25 = .ok (.if_icmp .ne 11, 3) := by decide +kernel
theorem dX6_best_28 : decode cX6_best 28 = .ok (.aload_n 0, 1) := by decide +kernel
theorem dX6_best_29 : decode cX6_best 29 = .ok (.getfield 43, 3) := by decide +kernel
theorem dX6_best_32 : decode cX6_best 32 = .ok (.getfield 218, 3) := by decide +kernel
theorem dX6_best_35 : decode cX6_best 35 = .ok (.ireturn, 1) := by decide +kernel
theorem dX6_best_36 : decode cX6_best 36 = .ok (.iload_n 1, 1) := by decide +kernel
theorem dX6_best_37 : decode cX6_best 37 = .ok (.aload_n 0, 1) := by decide +kernel
theorem dX6_best_38 : decode cX6_best 38 = .ok (.getfield 43, 3) := by decide +kernel
theorem dX6_best_41 : decode cX6_best 41 = .ok (.getfield 221, 3) := by decide +kernel
theorem dX6_best_44 : decode cX6_best 44 = .ok (.if_icmp .ge 15, 3) := by decide +kernel
theorem dX6_best_47 : decode cX6_best 47 = .ok (.aload_n 0, 1) := by decide +kernel
theorem dX6_best_48 : decode cX6_best 48 = .ok (.getfield 43, 3) := by decide +kernel
theorem dX6_best_51 : decode cX6_best 51 = .ok (.getfield 222, 3) := by decide +kernel
theorem dX6_best_54 : decode cX6_best 54 = .ok (.iload_n 1, 1) := by decide +kernel
theorem dX6_best_55 : decode cX6_best 55 = .ok (.iaload, 1) := by decide +kernel
theorem dX6_best_56 : decode cX6_best 56 = .ok (.goto 5, 3) := by decide +kernel
theorem dX6_best_59 : decode cX6_best 59 = .ok (.bipush (-9), 2) := by decide +kernel
theorem dX6_best_61 : decode cX6_best 61 = .ok (.ireturn, 1) := by decide +kernel
theorem dX6_pull_0 : decode cX6_pull 0 = .ok (.aload_n 0, 1) := by decide +kernel
theorem dX6_pull_1 : decode cX6_pull 1 = .ok (.invokevirtual 184, 3) := by decide +kernel
theorem dX6_pull_4 : decode cX6_pull 4 = .ok (.invokevirtual 200, 3) := by decide +kernel
theorem dX6_pull_7 : decode cX6_pull 7 = .ok (.istore_n 1, 1) := by decide +kernel
theorem dX6_pull_8 : decode cX6_pull 8 = .ok (.bipush (-9), 2) := by decide +kernel
theorem dX6_pull_10 : decode cX6_pull 10 = .ok (.istore_n 2, 1) := by decide +kernel
theorem dX6_pull_11 : decode cX6_pull 11 = .ok (.iconst 0, 1) := by decide +kernel
theorem dX6_pull_12 : decode cX6_pull 12 = .ok (.istore_n 3, 1) := by decide +kernel
theorem dX6_pull_13 : decode cX6_pull 13 = .ok (.iload_n 3, 1) := by decide +kernel
theorem dX6_pull_14 : decode cX6_pull 14 = .ok (.aload_n 0, 1) := by decide +kernel
theorem dX6_pull_15 : decode cX6_pull 15 = .ok (.getfield 10, 3) := by decide +kernel
theorem dX6_pull_18 : decode cX6_pull 18 = .ok (.getfield 148, 3) := by decide +kernel
theorem dX6_pull_21 : decode cX6_pull 21 = .ok (.if_icmp .ge 50, 3) := by decide +kernel
theorem dX6_pull_24 : decode cX6_pull 24 = .ok (.aload_n 0, 1) := by decide +kernel
theorem dX6_pull_25 : decode cX6_pull 25 = .ok (.getfield 10, 3) := by decide +kernel
theorem dX6_pull_28 : decode cX6_pull 28 = .ok (.iload_n 3, 1) := by decide +kernel
theorem dX6_pull_29 : decode cX6_pull 29 = .ok (.invokevirtual 107, 3) := by decide +kernel
theorem dX6_pull_32 : decode cX6_pull 32 = .ok (.ifCond .ne 33, 3) := by decide +kernel
theorem dX6_pull_35 : decode cX6_pull 35 = .ok (.aload_n 0, 1) := by decide +kernel
theorem dX6_pull_36 : decode cX6_pull 36 = .ok (.invokevirtual 80, 3) := by decide +kernel
theorem dX6_pull_39 : decode cX6_pull 39 = .ok (.astore 4, 2) := by decide +kernel
theorem dX6_pull_41 : decode cX6_pull 41 = .ok (.aload 4, 2) := by decide +kernel
theorem dX6_pull_43 : decode cX6_pull 43 = .ok (.iload_n 3, 1) := by decide +kernel
theorem dX6_pull_44 : decode cX6_pull 44 = .ok (.invokevirtual 167, 3) := by decide +kernel
theorem dX6_pull_47 : decode cX6_pull 47 = .ok (.aload 4, 2) := by decide +kernel
theorem dX6_pull_49 : decode cX6_pull 49 = .ok (.invokestatic 223, 3) := by decide +kernel
theorem dX6_pull_52 : decode cX6_pull 52 = .ok (.istore 5, 2) := by decide +kernel
theorem dX6_pull_54 : decode cX6_pull 54 = .ok (.iload 5, 2) := by decide +kernel
theorem dX6_pull_56 : decode cX6_pull 56 = .ok (.iload_n 1, 1) := by decide +kernel
theorem dX6_pull_57 : decode cX6_pull 57 = .ok (.if_icmp .ge 8, 3) := by decide +kernel
theorem dX6_pull_60 : decode cX6_pull 60 = .ok (.iload 5, 2) := by decide +kernel
theorem dX6_pull_62 : decode cX6_pull 62 = .ok (.istore_n 1, 1) := by decide +kernel
theorem dX6_pull_63 : decode cX6_pull 63 = .ok (.iload_n 3, 1) := by decide +kernel
theorem dX6_pull_64 : decode cX6_pull 64 = .ok (.istore_n 2, 1) := by decide +kernel
theorem dX6_pull_65 : decode cX6_pull 65 = .ok (.iinc 3 1, 3) := by decide +kernel
theorem dX6_pull_68 : decode cX6_pull 68 = .ok (.goto (-55), 3) := by decide +kernel
theorem dX6_pull_71 : decode cX6_pull 71 = .ok (.iload_n 2, 1) := by decide +kernel
theorem dX6_pull_72 : decode cX6_pull 72 = .ok (.ireturn, 1) := by decide +kernel
theorem dX6_bestSlack_0 : decode cX6_bestSlack 0 = .ok (.iload_n 1, 1) := by decide +kernel
theorem dX6_bestSlack_1 : decode cX6_bestSlack 1 = .ok (.ifCond .eq 15, 3) := by decide +kernel
theorem dX6_bestSlack_4 : decode cX6_bestSlack 4 = .ok (.iload_n 1, 1) := by decide +kernel
theorem dX6_bestSlack_5 : decode cX6_bestSlack 5 = .ok (.iconst 1, 1) := by decide +kernel
theorem dX6_bestSlack_6 : decode cX6_bestSlack 6 = .ok (.if_icmp .eq 10, 3) := by decide +kernel
theorem dX6_bestSlack_9 : decode cX6_bestSlack 9 = .ok (.aload_n 0, 1) := by decide +kernel
theorem dX6_bestSlack_10 : decode cX6_bestSlack 10 = .ok (.bipush (-2), 2) := by decide +kernel
theorem dX6_bestSlack_12 : decode cX6_bestSlack 12 = .ok (.invokevirtual 65, 3) := by decide +kernel
theorem dX6_bestSlack_15 : decode cX6_bestSlack 15 = .ok (.ireturn, 1) := by decide +kernel
theorem dX6_bestSlack_16 : decode cX6_bestSlack 16 = .ok (.ldc 196, 2) := by decide +kernel
theorem dX6_bestSlack_18 : decode cX6_bestSlack 18 = .ok (.istore_n 2, 1) := by decide +kernel
theorem dX6_bestSlack_19 : decode cX6_bestSlack 19 = .ok (.iconst 0, 1) := by decide +kernel
theorem dX6_bestSlack_20 : decode cX6_bestSlack 20 = .ok (.istore_n 3, 1) := by decide +kernel
theorem dX6_bestSlack_21 : decode cX6_bestSlack 21 = .ok (.iconst 0, 1) := by decide +kernel
theorem dX6_bestSlack_22 : decode cX6_bestSlack 22 = .ok (.istore 4, 2) := by decide +kernel
theorem dX6_bestSlack_24 : decode cX6_bestSlack 24 = .ok (.iload 4, 2) := by decide +kernel
theorem dX6_bestSlack_26 : decode cX6_bestSlack 26 = .ok (.bipush 9, 2) := by decide +kernel
theorem dX6_bestSlack_28 : decode cX6_bestSlack 28 = .ok (.if_icmp .gt 49, 3) := by decide +kernel
theorem dX6_bestSlack_31 : decode cX6_bestSlack 31 = .ok (.aload_n 0, 1) := by decide +kernel
theorem dX6_bestSlack_32 : decode cX6_bestSlack 32 = .ok (.invokevirtual 80, 3) := by decide +kernel
theorem dX6_bestSlack_35 : decode cX6_bestSlack 35 = .ok (.astore 5, 2) := by decide +kernel
theorem dX6_bestSlack_37 : decode cX6_bestSlack 37 = .ok (.aload 5, 2) := by decide +kernel
theorem dX6_bestSlack_39 : decode cX6_bestSlack 39 = .ok (.iload 4, 2) := by decide +kernel
theorem dX6_bestSlack_41 : decode cX6_bestSlack 41 = .ok (.putfield 170, 3) := by decide +kernel
theorem dX6_bestSlack_44 : decode cX6_bestSlack 44 = .ok (.aload 5, 2) := by decide +kernel
theorem dX6_bestSlack_46 : decode cX6_bestSlack 46 = .ok (.invokestatic 223, 3) := by decide +kernel
theorem dX6_bestSlack_49 : decode cX6_bestSlack 49 = .ok (.iconst 5, 1) := by decide +kernel
theorem dX6_bestSlack_50 : decode cX6_bestSlack 50 = .ok (.aload 5, 2) := by decide +kernel
theorem dX6_bestSlack_52 : decode cX6_bestSlack 52 = .ok (.invokevirtual 206, 3) := by decide +kernel
theorem dX6_bestSlack_55 : decode cX6_bestSlack 55 = .ok (.imul, 1) := by decide +kernel
theorem dX6_bestSlack_56 : decode cX6_bestSlack 56 = .ok (.iadd, 1) := by decide +kernel
theorem dX6_bestSlack_57 : decode cX6_bestSlack 57 = .ok (.istore 6, 2) := by decide +kernel
theorem dX6_bestSlack_59 : decode cX6_bestSlack 59 = .ok (.iload 6, 2) := by decide +kernel
theorem dX6_bestSlack_61 : decode cX6_bestSlack 61 = .ok (.iload_n 2, 1) := by decide +kernel
theorem dX6_bestSlack_62 : decode cX6_bestSlack 62 = .ok (.if_icmp .ge 9, 3) := by decide +kernel
theorem dX6_bestSlack_65 : decode cX6_bestSlack 65 = .ok (.iload 6, 2) := by decide +kernel
theorem dX6_bestSlack_67 : decode cX6_bestSlack 67 = .ok (.istore_n 2, 1) := by decide +kernel
theorem dX6_bestSlack_68 : decode cX6_bestSlack 68 = .ok (.iload 4, 2) := by decide +kernel
theorem dX6_bestSlack_70 : decode cX6_bestSlack 70 = .ok (.istore_n 3, 1) := by decide +kernel
theorem dX6_bestSlack_71 : decode cX6_bestSlack 71 = .ok (.iinc 4 1, 3) := by decide +kernel
theorem dX6_bestSlack_74 : decode cX6_bestSlack 74 = .ok (.goto (-50), 3) := by decide +kernel
theorem dX6_bestSlack_77 : decode cX6_bestSlack 77 = .ok (.iload_n 1, 1) := by decide +kernel
theorem dX6_bestSlack_78 : decode cX6_bestSlack 78 = .ok (.ifCond .ne 7, 3) := by decide +kernel
theorem dX6_bestSlack_81 : decode cX6_bestSlack 81 = .ok (.iload_n 3, 1) := by decide +kernel
theorem dX6_bestSlack_82 : decode cX6_bestSlack 82 = .ok (.goto 4, 3) := by decide +kernel
theorem dX6_bestSlack_85 : decode cX6_bestSlack 85 = .ok (.iload_n 2, 1) := by decide +kernel
theorem dX6_bestSlack_86 : decode cX6_bestSlack 86 = .ok (.ireturn, 1) := by decide +kernel
theorem dX6_rest_0 : decode cX6_rest 0 = .ok (.aload_n 0, 1) := by decide +kernel
theorem dX6_rest_1 : decode cX6_rest 1 = .ok (.invokevirtual 184, 3) := by decide +kernel
theorem dX6_rest_4 : decode cX6_rest 4 = .ok (.invokevirtual 200, 3) := by decide +kernel
theorem dX6_rest_7 : decode cX6_rest 7 = .ok (.istore_n 1, 1) := by decide +kernel
theorem dX6_rest_8 : decode cX6_rest 8 = .ok (.bipush (-9), 2) := by decide +kernel
theorem dX6_rest_10 : decode cX6_rest 10 = .ok (.istore_n 2, 1) := by decide +kernel
theorem dX6_rest_11 : decode cX6_rest 11 = .ok (.iconst 0, 1) := by decide +kernel
theorem dX6_rest_12 : decode cX6_rest 12 = .ok (.istore_n 3, 1) := by decide +kernel
theorem dX6_rest_13 : decode cX6_rest 13 = .ok (.iload_n 3, 1) := by decide +kernel
theorem dX6_rest_14 : decode cX6_rest 14 = .ok (.aload_n 0, 1) := by decide +kernel
theorem dX6_rest_15 : decode cX6_rest 15 = .ok (.getfield 10, 3) := by decide +kernel
theorem dX6_rest_18 : decode cX6_rest 18 = .ok (.getfield 125, 3) := by decide +kernel
theorem dX6_rest_21 : decode cX6_rest 21 = .ok (.if_icmp .gt 46, 3) := by decide +kernel
theorem dX6_rest_24 : decode cX6_rest 24 = .ok (.aload_n 0, 1) := by decide +kernel
theorem dX6_rest_25 : decode cX6_rest 25 = .ok (.invokevirtual 80, 3) := by decide +kernel
theorem dX6_rest_28 : decode cX6_rest 28 = .ok (.astore 4, 2) := by decide +kernel
theorem dX6_rest_30 : decode cX6_rest 30 = .ok (.aload 4, 2) := by decide +kernel
theorem dX6_rest_32 : decode cX6_rest 32 = .ok (.iload_n 3, 1) := by decide +kernel
theorem dX6_rest_33 : decode cX6_rest 33 = .ok (.invokevirtual 158, 3) := by decide +kernel
theorem dX6_rest_36 : decode cX6_rest 36 = .ok (.aload 4, 2) := by decide +kernel
theorem dX6_rest_38 : decode cX6_rest 38 = .ok (.bipush 10, 2) := by decide +kernel
theorem dX6_rest_40 : decode cX6_rest 40 = .ok (.invokevirtual 176, 3) := by decide +kernel
theorem dX6_rest_43 : decode cX6_rest 43 = .ok (.aload 4, 2) := by decide +kernel
theorem dX6_rest_45 : decode cX6_rest 45 = .ok (.invokestatic 223, 3) := by decide +kernel
theorem dX6_rest_48 : decode cX6_rest 48 = .ok (.istore 5, 2) := by decide +kernel
theorem dX6_rest_50 : decode cX6_rest 50 = .ok (.iload 5, 2) := by decide +kernel
theorem dX6_rest_52 : decode cX6_rest 52 = .ok (.iload_n 1, 1) := by decide +kernel
theorem dX6_rest_53 : decode cX6_rest 53 = .ok (.if_icmp .ge 8, 3) := by decide +kernel
theorem dX6_rest_56 : decode cX6_rest 56 = .ok (.iload 5, 2) := by decide +kernel
theorem dX6_rest_58 : decode cX6_rest 58 = .ok (.istore_n 1, 1) := by decide +kernel
theorem dX6_rest_59 : decode cX6_rest 59 = .ok (.iload_n 3, 1) := by decide +kernel
theorem dX6_rest_60 : decode cX6_rest 60 = .ok (.istore_n 2, 1) := by decide +kernel
theorem dX6_rest_61 : decode cX6_rest 61 = .ok (.iinc 3 1, 3) := by decide +kernel
theorem dX6_rest_64 : decode cX6_rest 64 = .ok (.goto (-51), 3) := by decide +kernel
theorem dX6_rest_67 : decode cX6_rest 67 = .ok (.iload_n 2, 1) := by decide +kernel
theorem dX6_rest_68 : decode cX6_rest 68 = .ok (.ireturn, 1) := by decide +kernel
theorem dX6_saved_0 : decode cX6_saved 0 = .ok (.aload_n 0, 1) := by decide +kernel
theorem dX6_saved_1 : decode cX6_saved 1 = .ok (.getfield 10, 3) := by decide +kernel
theorem dX6_saved_4 : decode cX6_saved 4 = .ok (.getfield 148, 3) := by decide +kernel
theorem dX6_saved_7 : decode cX6_saved 7 = .ok (.ifCond .ne 13, 3) := by decide +kernel
theorem dX6_saved_10 : decode cX6_saved 10 = .ok (.ldc 196, 2) := by decide +kernel
theorem dX6_saved_12 : decode cX6_saved 12 = .ok (.aload_n 0, 1) := by decide +kernel
theorem dX6_saved_13 : decode cX6_saved 13 = .ok (.bipush (-3), 2) := by decide +kernel
theorem dX6_saved_15 : decode cX6_saved 15 = .ok (.invokevirtual 65, 3) := by decide +kernel
theorem dX6_saved_18 : decode cX6_saved 18 = .ok (.isub, 1) := by decide +kernel
theorem dX6_saved_19 : decode cX6_saved 19 = .ok (.ireturn, 1) := by decide +kernel
theorem dX6_saved_20 : decode cX6_saved 20 = .ok (.aload_n 0, 1) := by decide +kernel
theorem dX6_saved_21 : decode cX6_saved 21 = .ok (.invokevirtual 184, 3) := by decide +kernel
theorem dX6_saved_24 : decode cX6_saved 24 = .ok (.invokevirtual 200, 3) := by decide +kernel
theorem dX6_saved_27 : decode cX6_saved 27 = .ok (.istore_n 1, 1) := by decide +kernel
theorem dX6_saved_28 : decode cX6_saved 28 = .ok (.aload_n 0, 1) := by decide +kernel
theorem dX6_saved_29 : decode cX6_saved 29 = .ok (.invokevirtual 80, 3) := by decide +kernel
theorem dX6_saved_32 : decode cX6_saved 32 = .ok (.astore_n 2, 1) := by decide +kernel
theorem dX6_saved_33 : decode cX6_saved 33 = .ok (.aload_n 2, 1) := by decide +kernel
theorem dX6_saved_34 : decode cX6_saved 34 = .ok (.iconst 2, 1) := by decide +kernel
theorem dX6_saved_35 : decode cX6_saved 35 = .ok (.invokevirtual 151, 3) := by decide +kernel
theorem dX6_saved_38 : decode cX6_saved 38 = .ok (.iload_n 1, 1) := by decide +kernel
theorem dX6_saved_39 : decode cX6_saved 39 = .ok (.aload_n 2, 1) := by decide +kernel
theorem dX6_saved_40 : decode cX6_saved 40 = .ok (.invokestatic 223, 3) := by decide +kernel
theorem dX6_saved_43 : decode cX6_saved 43 = .ok (.isub, 1) := by decide +kernel
theorem dX6_saved_44 : decode cX6_saved 44 = .ok (.ireturn, 1) := by decide +kernel
theorem dX6_can_0 : decode cX6_can 0 = .ok (.iload_n 1, 1) := by decide +kernel
theorem dX6_can_1 : decode cX6_can 1 = .ok (.ifCond .lt 11, 3) := by decide +kernel
theorem dX6_can_4 : decode cX6_can 4 = .ok (.iload_n 2, 1) := by decide +kernel
theorem dX6_can_5 : decode cX6_can 5 = .ok (.ifCond .lt 7, 3) := by decide +kernel
theorem dX6_can_8 : decode cX6_can 8 = .ok (.iload_n 3, 1) := by decide +kernel
theorem dX6_can_9 : decode cX6_can 9 = .ok (.ifCond .ge 10, 3) := by decide +kernel
theorem dX6_can_12 : decode cX6_can 12 = .ok (.aload_n 0, 1) := by decide +kernel
theorem dX6_can_13 : decode cX6_can 13 = .ok (.bipush (-4), 2) := by decide +kernel
theorem dX6_can_15 : decode cX6_can 15 = .ok (.invokevirtual 65, 3) := by decide +kernel
theorem dX6_can_18 : decode cX6_can 18 = .ok (.ireturn, 1) := by decide +kernel
theorem dX6_can_19 : decode cX6_can 19 = .ok (.iload_n 1, 1) := by decide +kernel
theorem dX6_can_20 : decode cX6_can 20 = .ok (.bipush 9, 2) := by decide +kernel
theorem dX6_can_22 : decode cX6_can 22 = .ok (.if_icmp .gt 17, 3) := by decide +kernel
theorem dX6_can_25 : decode cX6_can 25 = .ok (.iload_n 2, 1) := by decide +kernel
theorem dX6_can_26 : decode cX6_can 26 = .ok (.sipush 240, 3) := by decide +kernel
theorem dX6_can_29 : decode cX6_can 29 = .ok (.if_icmp .gt 10, 3) := by decide +kernel
theorem dX6_can_32 : decode cX6_can 32 = .ok (.iload_n 3, 1) := by decide +kernel
theorem dX6_can_33 : decode cX6_can 33 = .ok (.sipush 999, 3) := by decide +kernel
theorem dX6_can_36 : decode cX6_can 36 = .ok (.if_icmp .le 10, 3) := by decide +kernel
theorem dX6_can_39 : decode cX6_can 39 = .ok (.aload_n 0, 1) := by decide +kernel
theorem dX6_can_40 : decode cX6_can 40 = .ok (.bipush (-6), 2) := by decide +kernel
theorem dX6_can_42 : decode cX6_can 42 = .ok (.invokevirtual 65, 3) := by decide +kernel
theorem dX6_can_45 : decode cX6_can 45 = .ok (.ireturn, 1) := by decide +kernel
theorem dX6_can_46 : decode cX6_can 46 = .ok (.aload_n 0, 1) := by decide +kernel
theorem dX6_can_47 : decode cX6_can 47 = .ok (.getfield 10, 3) := by decide +kernel
theorem dX6_can_50 : decode cX6_can 50 = .ok (.invokevirtual 140, 3) := by decide +kernel
theorem dX6_can_53 : decode cX6_can 53 = .ok (.ifCond .eq 5, 3) := by decide +kernel
theorem dX6_can_56 : decode cX6_can 56 = .ok (.iconst 0, 1) := by decide +kernel
theorem dX6_can_57 : decode cX6_can 57 = .ok (.ireturn, 1) := by decide +kernel
theorem dX6_can_58 : decode cX6_can 58 = .ok (.iconst 0, 1) := by decide +kernel
theorem dX6_can_59 : decode cX6_can 59 = .ok (.istore 4, 2) := by decide +kernel
theorem dX6_can_61 : decode cX6_can 61 = .ok (.iconst 0, 1) := by decide +kernel
theorem dX6_can_62 : decode cX6_can 62 = .ok (.istore 5, 2) := by decide +kernel
theorem dX6_can_64 : decode cX6_can 64 = .ok (.iload 5, 2) := by decide +kernel
theorem dX6_can_66 : decode cX6_can 66 = .ok (.bipush 6, 2) := by decide +kernel
theorem dX6_can_68 : decode cX6_can 68 = .ok (.if_icmp .ge 55, 3) := by decide +kernel
theorem dX6_can_71 : decode cX6_can 71 = .ok (.aload_n 0, 1) := by decide +kernel
theorem dX6_can_72 : decode cX6_can 72 = .ok (.invokevirtual 80, 3) := by decide +kernel
theorem dX6_can_75 : decode cX6_can 75 = .ok (.astore 6, 2) := by decide +kernel
theorem dX6_can_77 : decode cX6_can 77 = .ok (.aload 6, 2) := by decide +kernel
theorem dX6_can_79 : decode cX6_can 79 = .ok (.iload 5, 2) := by decide +kernel
theorem dX6_can_81 : decode cX6_can 81 = .ok (.iload_n 1, 1) := by decide +kernel
theorem dX6_can_82 : decode cX6_can 82 = .ok (.iload_n 2, 1) := by decide +kernel
theorem dX6_can_83 : decode cX6_can 83 = .ok (.invokevirtual 144, 3) := by decide +kernel
theorem dX6_can_86 : decode cX6_can 86 = .ok (.aload 6, 2) := by decide +kernel
theorem dX6_can_88 : decode cX6_can 88 = .ok (.invokevirtual 226, 3) := by decide +kernel
theorem dX6_can_91 : decode cX6_can 91 = .ok (.aload 6, 2) := by decide +kernel
theorem dX6_can_93 : decode cX6_can 93 = .ok (.getfield 161, 3) := by decide +kernel
theorem dX6_can_96 : decode cX6_can 96 = .ok (.aload_n 0, 1) := by decide +kernel
theorem dX6_can_97 : decode cX6_can 97 = .ok (.getfield 10, 3) := by decide +kernel
theorem dX6_can_100 : decode cX6_can 100 = .ok (.getfield 148, 3) := by decide +kernel
theorem dX6_can_103 : decode cX6_can 103 = .ok (.iaload, 1) := by decide +kernel
theorem dX6_can_104 : decode cX6_can 104 = .ok (.iload_n 3, 1) := by decide +kernel
theorem dX6_can_105 : decode cX6_can 105 = .ok (.if_icmp .gt 12, 3) := by decide +kernel
theorem dX6_can_108 : decode cX6_can 108 = .ok (.iload 4, 2) := by decide +kernel
theorem dX6_can_110 : decode cX6_can 110 = .ok (.iconst 1, 1) := by decide +kernel
theorem dX6_can_111 : decode cX6_can 111 = .ok (.iload 5, 2) := by decide +kernel
theorem dX6_can_113 : decode cX6_can 113 = .ok (.ishl, 1) := by decide +kernel
theorem dX6_can_114 : decode cX6_can 114 = .ok (.ior, 1) := by decide +kernel
theorem dX6_can_115 : decode cX6_can 115 = .ok (.istore 4, 2) := by decide +kernel
theorem dX6_can_117 : decode cX6_can 117 = .ok (.iinc 5 1, 3) := by decide +kernel
theorem dX6_can_120 : decode cX6_can 120 = .ok (.goto (-56), 3) := by decide +kernel
theorem dX6_can_123 : decode cX6_can 123 = .ok (.iload 4, 2) := by decide +kernel
theorem dX6_can_125 : decode cX6_can 125 = .ok (.ireturn, 1) := by decide +kernel
theorem dX6_fountain_0 : decode cX6_fountain 0 = .ok (.aload_n 0, 1) := by decide +kernel
theorem dX6_fountain_1 : decode cX6_fountain 1 = .ok (.getfield 10, 3) := by decide +kernel
theorem dX6_fountain_4 : decode cX6_fountain 4 = .ok (.iload_n 1, 1) := by decide +kernel
theorem dX6_fountain_5 : decode cX6_fountain 5 = .ok (.invokevirtual 95, 3) := by decide +kernel
theorem dX6_fountain_8 : decode cX6_fountain 8 = .ok (.ifCond .ne 9, 3) := by decide +kernel
theorem dX6_fountain_11 : decode cX6_fountain 11 = .ok (.aload_n 0, 1) := by decide +kernel
theorem dX6_fountain_12 : decode cX6_fountain 12 = .ok (.iconst (-1), 1) := by decide +kernel
theorem dX6_fountain_13 : decode cX6_fountain 13 = .ok (.invokevirtual 65, 3) := by decide +kernel
theorem dX6_fountain_16 : decode cX6_fountain 16 = .ok (.ireturn, 1) := by decide +kernel
theorem dX6_fountain_17 : decode cX6_fountain 17 = .ok (.aload_n 0, 1) := by decide +kernel
theorem dX6_fountain_18 : decode cX6_fountain 18 = .ok (.getfield 50, 3) := by decide +kernel
theorem dX6_fountain_21 : decode cX6_fountain 21 = .ok (.aload_n 0, 1) := by decide +kernel
theorem dX6_fountain_22 : decode cX6_fountain 22 = .ok (.invokevirtual 184, 3) := by decide +kernel
theorem dX6_fountain_25 : decode cX6_fountain 25 = .ok (.invokevirtual 229, 3) := by decide +kernel
theorem dX6_fountain_28 : decode cX6_fountain 28 = .ok (.aload_n 0, 1) := by decide +kernel
theorem dX6_fountain_29 : decode cX6_fountain 29 = .ok (.getfield 50, 3) := by decide +kernel
theorem dX6_fountain_32 : decode cX6_fountain 32 = .ok (.getfield 231, 3) := by decide +kernel
theorem dX6_fountain_35 : decode cX6_fountain 35 = .ok (.iload_n 1, 1) := by decide +kernel
theorem dX6_fountain_36 : decode cX6_fountain 36 = .ok (.iaload, 1) := by decide +kernel
theorem dX6_fountain_37 : decode cX6_fountain 37 = .ok (.ireturn, 1) := by decide +kernel
theorem dX6_fountains_0 : decode cX6_fountains 0 = .ok (.iload_n 1, 1) := by decide +kernel
theorem dX6_fountains_1 : decode cX6_fountains 1 = .ok (.ifCond .eq 15, 3) := by decide +kernel
theorem dX6_fountains_4 : decode cX6_fountains 4 = .ok (.iload_n 1, 1) := by decide +kernel
theorem dX6_fountains_5 : decode cX6_fountains 5 = .ok (.iconst 1, 1) := by decide +kernel
theorem dX6_fountains_6 : decode cX6_fountains 6 = .ok (.if_icmp .eq 10, 3) := by decide +kernel
theorem dX6_fountains_9 : decode cX6_fountains 9 = .ok (.aload_n 0, 1) := by decide +kernel
theorem dX6_fountains_10 : decode cX6_fountains 10 = .ok (.bipush (-2), 2) := by decide +kernel
theorem dX6_fountains_12 : decode cX6_fountains 12 = .ok (.invokevirtual 65, 3) := by decide +kernel
theorem dX6_fountains_15 : decode cX6_fountains 15 = .ok (.ireturn, 1) := by decide +kernel
theorem dX6_fountains_16 : decode cX6_fountains 16 = .ok (.aload_n 0, 1) := by decide +kernel
theorem dX6_fountains_17 : decode cX6_fountains 17 = .ok (.getfield 50, 3) := by decide +kernel
theorem dX6_fountains_20 : decode cX6_fountains 20 = .ok (.aload_n 0, 1) := by decide +kernel
theorem dX6_fountains_21 : decode cX6_fountains 21 = .ok (.invokevirtual 184, 3) := by decide +kernel
theorem dX6_fountains_24 : decode cX6_fountains 24 = .ok (.invokevirtual 229, 3) := by decide +kernel
theorem dX6_fountains_27 : decode cX6_fountains 27 = .ok (.iload_n 1, 1) := by decide +kernel
theorem dX6_fountains_28 : decode cX6_fountains 28 = .ok (.ifCond .ne 13, 3) := by decide +kernel
theorem dX6_fountains_31 : decode cX6_fountains 31 = .ok (.aload_n 0, 1) := by decide +kernel
theorem dX6_fountains_32 : decode cX6_fountains 32 = .ok (.getfield 50, 3) := by decide +kernel
theorem dX6_fountains_35 : decode cX6_fountains 35 = .ok (.getfield 232, 3) := by decide +kernel
theorem dX6_fountains_38 : decode cX6_fountains 38 = .ok (.goto 10, 3) := by decide +kernel
theorem dX6_fountains_41 : decode cX6_fountains 41 = .ok (.aload_n 0, 1) := by decide +kernel
theorem dX6_fountains_42 : decode cX6_fountains 42 = .ok (.getfield 50, 3) := by decide +kernel
theorem dX6_fountains_45 : decode cX6_fountains 45 = .ok (.getfield 235, 3) := by decide +kernel
theorem dX6_fountains_48 : decode cX6_fountains 48 = .ok (.ireturn, 1) := by decide +kernel
theorem dX6_inside_0 : decode cX6_inside 0 = .ok (.iload_n 1, 1) := by decide +kernel
theorem dX6_inside_1 : decode cX6_inside 1 = .ok (.ifCond .ge 10, 3) := by decide +kernel
theorem dX6_inside_4 : decode cX6_inside 4 = .ok (.aload_n 0, 1) := by decide +kernel
theorem dX6_inside_5 : decode cX6_inside 5 = .ok (.bipush (-4), 2) := by decide +kernel
theorem dX6_inside_7 : decode cX6_inside 7 = .ok (.invokevirtual 65, 3) := by decide +kernel
theorem dX6_inside_10 : decode cX6_inside 10 = .ok (.ireturn, 1) := by decide +kernel
theorem dX6_inside_11 : decode cX6_inside 11 = .ok (.iload_n 1, 1) := by decide +kernel
theorem dX6_inside_12 : decode cX6_inside 12 = .ok (.sipush 999, 3) := by decide +kernel
theorem dX6_inside_15 : decode cX6_inside 15 = .ok (.if_icmp .le 10, 3) := by decide +kernel
theorem dX6_inside_18 : decode cX6_inside 18 = .ok (.aload_n 0, 1) := by decide +kernel
theorem dX6_inside_19 : decode cX6_inside 19 = .ok (.bipush (-6), 2) := by decide +kernel
theorem dX6_inside_21 : decode cX6_inside 21 = .ok (.invokevirtual 65, 3) := by decide +kernel
theorem dX6_inside_24 : decode cX6_inside 24 = .ok (.ireturn, 1) := by decide +kernel
theorem dX6_inside_25 : decode cX6_inside 25 = .ok (.aload_n 0, 1) := by decide +kernel
theorem dX6_inside_26 : decode cX6_inside 26 = .ok (.invokevirtual 184, 3) := by decide +kernel
theorem dX6_inside_29 : decode cX6_inside 29 = .ok (.iload_n 1, 1) := by decide +kernel
theorem dX6_inside_30 : decode cX6_inside 30 = .ok (.invokevirtual 238, 3) := by decide +kernel
theorem dX6_inside_33 : decode cX6_inside 33 = .ok (.ireturn, 1) := by decide +kernel
theorem dX6_crowded_0 : decode cX6_crowded 0 = .ok (.aload_n 0, 1) := by decide +kernel
theorem dX6_crowded_1 : decode cX6_crowded 1 = .ok (.invokevirtual 184, 3) := by decide +kernel
theorem dX6_crowded_4 : decode cX6_crowded 4 = .ok (.astore_n 1, 1) := by decide +kernel
theorem dX6_crowded_5 : decode cX6_crowded 5 = .ok (.iconst 0, 1) := by decide +kernel
theorem dX6_crowded_6 : decode cX6_crowded 6 = .ok (.istore_n 2, 1) := by decide +kernel
theorem dX6_crowded_7 : decode cX6_crowded 7 = .ok (.iconst 0, 1) := by decide +kernel
theorem dX6_crowded_8 : decode cX6_crowded 8 = .ok (.istore_n 3, 1) := by decide +kernel
theorem dX6_crowded_9 : decode cX6_crowded 9 = .ok (.iconst 0, 1) := by decide +kernel
theorem dX6_crowded_10 : decode cX6_crowded 10 = .ok (.istore 4, 2) := by decide +kernel
theorem dX6_crowded_12 : decode cX6_crowded 12 = .ok (.iload 4, 2) := by decide +kernel
theorem dX6_crowded_14 : decode cX6_crowded 14 = .ok (.sipush 999, 3) := by decide +kernel
theorem dX6_crowded_17 : decode cX6_crowded 17 = .ok (.if_icmp .gt 29, 3) := by decide +kernel
theorem dX6_crowded_20 : decode cX6_crowded 20 = .ok (.aload_n 1, 1) := by decide +kernel
theorem dX6_crowded_21 : decode cX6_crowded 21 = .ok (.iload 4, 2) := by decide +kernel
theorem dX6_crowded_23 : decode cX6_crowded 23 = .ok (.invokevirtual 238, 3) := by decide +kernel
theorem dX6_crowded_26 : decode cX6_crowded 26 = .ok (.istore 5, 2) := by decide +kernel
theorem dX6_crowded_28 : decode cX6_crowded 28 = .ok (.iload 5, 2) := by decide +kernel
theorem dX6_crowded_30 : decode cX6_crowded 30 = .ok (.iload_n 2, 1) := by decide +kernel
theorem dX6_crowded_31 : decode cX6_crowded 31 = .ok (.if_icmp .le 9, 3) := by decide +kernel
theorem dX6_crowded_34 : decode cX6_crowded 34 = .ok (.iload 5, 2) := by decide +kernel
theorem dX6_crowded_36 : decode cX6_crowded 36 = .ok (.istore_n 2, 1) := by decide +kernel
theorem dX6_crowded_37 : decode cX6_crowded 37 = .ok (.iload 4, 2) := by decide +kernel
theorem dX6_crowded_39 : decode cX6_crowded 39 = .ok (.istore_n 3, 1) := by decide +kernel
theorem dX6_crowded_40 : decode cX6_crowded 40 = .ok (.iinc 4 1, 3) := by decide +kernel
theorem dX6_crowded_43 : decode cX6_crowded 43 = .ok (.goto (-31), 3) := by decide +kernel
theorem dX6_crowded_46 : decode cX6_crowded 46 = .ok (.iload_n 3, 1) := by decide +kernel
theorem dX6_crowded_47 : decode cX6_crowded 47 = .ok (.ireturn, 1) := by decide +kernel
theorem dX6_price_0 : decode cX6_price 0 = .ok (.iload_n 1, 1) := by decide +kernel
theorem dX6_price_1 : decode cX6_price 1 = .ok (.ifCond .ge 10, 3) := by decide +kernel
theorem dX6_price_4 : decode cX6_price 4 = .ok (.aload_n 0, 1) := by decide +kernel
theorem dX6_price_5 : decode cX6_price 5 = .ok (.bipush (-4), 2) := by decide +kernel
theorem dX6_price_7 : decode cX6_price 7 = .ok (.invokevirtual 65, 3) := by decide +kernel
theorem dX6_price_10 : decode cX6_price 10 = .ok (.ireturn, 1) := by decide +kernel
theorem dX6_price_11 : decode cX6_price 11 = .ok (.iload_n 1, 1) := by decide +kernel
theorem dX6_price_12 : decode cX6_price 12 = .ok (.sipush 999, 3) := by decide +kernel
theorem dX6_price_15 : decode cX6_price 15 = .ok (.if_icmp .le 10, 3) := by decide +kernel
theorem dX6_price_18 : decode cX6_price 18 = .ok (.aload_n 0, 1) := by decide +kernel
theorem dX6_price_19 : decode cX6_price 19 = .ok (.bipush (-6), 2) := by decide +kernel
theorem dX6_price_21 : decode cX6_price 21 = .ok (.invokevirtual 65, 3) := by decide +kernel
theorem dX6_price_24 : decode cX6_price 24 = .ok (.ireturn, 1) := by decide +kernel
theorem dX6_price_25 : decode cX6_price 25 = .ok (.bipush 20, 2) := by decide +kernel
theorem dX6_price_27 : decode cX6_price 27 = .ok (.istore_n 2, 1) := by decide +kernel
theorem dX6_price_28 : decode cX6_price 28 = .ok (.iconst 0, 1) := by decide +kernel
theorem dX6_price_29 : decode cX6_price 29 = .ok (.istore_n 3, 1) := by decide +kernel
theorem dX6_price_30 : decode cX6_price 30 = .ok (.iload_n 3, 1) := by decide +kernel
theorem dX6_price_31 : decode cX6_price 31 = .ok (.aload_n 0, 1) := by decide +kernel
theorem dX6_price_32 : decode cX6_price 32 = .ok (.getfield 10, 3) := by decide +kernel
theorem dX6_price_35 : decode cX6_price 35 = .ok (.getfield 148, 3) := by decide +kernel
theorem dX6_price_38 : decode cX6_price 38 = .ok (.if_icmp .ge 31, 3) := by decide +kernel
theorem dX6_price_41 : decode cX6_price 41 = .ok (.aload_n 0, 1) := by decide +kernel
theorem dX6_price_42 : decode cX6_price 42 = .ok (.getfield 10, 3) := by decide +kernel
theorem dX6_price_45 : decode cX6_price 45 = .ok (.getfield 104, 3) := by decide +kernel
theorem dX6_price_48 : decode cX6_price 48 = .ok (.iload_n 3, 1) := by decide +kernel
theorem dX6_price_49 : decode cX6_price 49 = .ok (.iaload, 1) := by decide +kernel
theorem dX6_price_50 : decode cX6_price 50 = .ok (.iload_n 1, 1) := by decide +kernel
theorem dX6_price_51 : decode cX6_price 51 = .ok (.isub, 1) := by decide +kernel
theorem dX6_price_52 : decode cX6_price 52 = .ok (.invokestatic 241, 3) := by decide +kernel
theorem dX6_price_55 : decode cX6_price 55 = .ok (.bipush 20, 2) := by decide +kernel
theorem dX6_price_57 : decode cX6_price 57 = .ok (.if_icmp .ge 6, 3) := by decide +kernel
theorem dX6_price_60 : decode cX6_price 60 = .ok (.iinc 2 10, 3) := by decide +kernel
theorem dX6_price_63 : decode cX6_price 63 = .ok (.iinc 3 1, 3) := by decide +kernel
theorem dX6_price_66 : decode cX6_price 66 = .ok (.goto (-36), 3) := by decide +kernel
theorem dX6_price_69 : decode cX6_price 69 = .ok (.iload_n 2, 1) := by decide +kernel
theorem dX6_price_70 : decode cX6_price 70 = .ok (.ireturn, 1) := by decide +kernel
theorem dX6_odds_0 : decode cX6_odds 0 = .ok (.iload_n 1, 1) := by decide +kernel
theorem dX6_odds_1 : decode cX6_odds 1 = .ok (.ifCond .lt 12, 3) := by decide +kernel
theorem dX6_odds_4 : decode cX6_odds 4 = .ok (.iload_n 3, 1) := by decide +kernel
theorem dX6_odds_5 : decode cX6_odds 5 = .ok (.ifCond .lt 8, 3) := by decide +kernel
theorem dX6_odds_8 : decode cX6_odds 8 = .ok (.iload_n 2, 1) := by decide +kernel
theorem dX6_odds_9 : decode cX6_odds 9 = .ok (.iconst 2, 1) := by decide +kernel
theorem dX6_odds_10 : decode cX6_odds 10 = .ok (.if_icmp .ge 15, 3) := by decide +kernel
theorem dX6_odds_13 : decode cX6_odds 13 = .ok (.ldc2_w 246, 3) := by decide +kernel
theorem dX6_odds_16 : decode cX6_odds 16 = .ok (.aload_n 0, 1) := by decide +kernel
theorem dX6_odds_17 : decode cX6_odds 17 = .ok (.bipush (-4), 2) := by decide +kernel
theorem dX6_odds_19 : decode cX6_odds 19 = .ok (.invokevirtual 65, 3) := by decide +kernel
theorem dX6_odds_22 : decode cX6_odds 22 = .ok (.i2l, 1) := by decide +kernel
theorem dX6_odds_23 : decode cX6_odds 23 = .ok (.lsub, 1) := by decide +kernel
theorem dX6_odds_24 : decode cX6_odds 24 = .ok (.lreturn, 1) := by decide +kernel
theorem dX6_odds_25 : decode cX6_odds 25 = .ok (.iload_n 1, 1) := by decide +kernel
theorem dX6_odds_26 : decode cX6_odds 26 = .ok (.bipush 7, 2) := by decide +kernel
theorem dX6_odds_28 : decode cX6_odds 28 = .ok (.if_icmp .gt 16, 3) := by decide +kernel
theorem dX6_odds_31 : decode cX6_odds 31 = .ok (.iload_n 2, 1) := by decide +kernel
theorem dX6_odds_32 : decode cX6_odds 32 = .ok (.bipush 20, 2) := by decide +kernel
theorem dX6_odds_34 : decode cX6_odds 34 = .ok (.if_icmp .gt 10, 3) := by decide +kernel
theorem dX6_odds_37 : decode cX6_odds 37 = .ok (.iload_n 3, 1) := by decide +kernel
theorem dX6_odds_38 : decode cX6_odds 38 = .ok (.sipush 999, 3) := by decide +kernel
theorem dX6_odds_41 : decode cX6_odds 41 = .ok (.if_icmp .le 15, 3) := by decide +kernel
theorem dX6_odds_44 : decode cX6_odds 44 = .ok (.ldc2_w 246, 3) := by decide +kernel
theorem dX6_odds_47 : decode cX6_odds 47 = .ok (.aload_n 0, 1) := by decide +kernel
theorem dX6_odds_48 : decode cX6_odds 48 = .ok (.bipush (-6), 2) := by decide +kernel
theorem dX6_odds_50 : decode cX6_odds 50 = .ok (.invokevirtual 65, 3) := by decide +kernel
theorem dX6_odds_53 : decode cX6_odds 53 = .ok (.i2l, 1) := by decide +kernel
theorem dX6_odds_54 : decode cX6_odds 54 = .ok (.lsub, 1) := by decide +kernel
theorem dX6_odds_55 : decode cX6_odds 55 = .ok (.lreturn, 1) := by decide +kernel
theorem dX6_odds_56 : decode cX6_odds 56 = .ok (.iload 4, 2) := by decide +kernel
theorem dX6_odds_58 : decode cX6_odds 58 = .ok (.ifCond .eq 21, 3) := by decide +kernel
theorem dX6_odds_61 : decode cX6_odds 61 = .ok (.iload 4, 2) := by decide +kernel
theorem dX6_odds_63 : decode cX6_odds 63 = .ok (.iconst 1, 1) := by decide +kernel
theorem dX6_odds_64 : decode cX6_odds 64 = .ok (.if_icmp .eq 15, 3) := by decide +kernel
theorem dX6_odds_67 : decode cX6_odds 67 = .ok (.ldc2_w 246, 3) := by decide +kernel
theorem dX6_odds_70 : decode cX6_odds 70 = .ok (.aload_n 0, 1) := by decide +kernel
theorem dX6_odds_71 : decode cX6_odds 71 = .ok (.bipush (-2), 2) := by decide +kernel
theorem dX6_odds_73 : decode cX6_odds 73 = .ok (.invokevirtual 65, 3) := by decide +kernel
theorem dX6_odds_76 : decode cX6_odds 76 = .ok (.i2l, 1) := by decide +kernel
theorem dX6_odds_77 : decode cX6_odds 77 = .ok (.lsub, 1) := by decide +kernel
theorem dX6_odds_78 : decode cX6_odds 78 = .ok (.lreturn, 1) := by decide +kernel
theorem dX6_odds_79 : decode cX6_odds 79 = .ok (.iload_n 1, 1) := by decide +kernel
theorem dX6_odds_80 : decode cX6_odds 80 = .ok (.aload_n 0, 1) := by decide +kernel
theorem dX6_odds_81 : decode cX6_odds 81 = .ok (.getfield 10, 3) := by decide +kernel
theorem dX6_odds_84 : decode cX6_odds 84 = .ok (.getfield 125, 3) := by decide +kernel
theorem dX6_odds_87 : decode cX6_odds 87 = .ok (.invokestatic 248, 3) := by decide +kernel
theorem dX6_odds_90 : decode cX6_odds 90 = .ok (.istore 5, 2) := by decide +kernel
theorem dX6_odds_92 : decode cX6_odds 92 = .ok (.lconst 0, 1) := by decide +kernel
theorem dX6_odds_93 : decode cX6_odds 93 = .ok (.lstore 6, 2) := by decide +kernel
theorem dX6_odds_95 : decode cX6_odds 95 = .ok (.iconst 0, 1) := by decide +kernel
theorem dX6_odds_96 : decode cX6_odds 96 = .ok (.istore 8, 2) := by decide +kernel
theorem dX6_odds_98 : decode cX6_odds 98 = .ok (.iload 8, 2) := by decide +kernel
theorem dX6_odds_100 : decode cX6_odds 100 = .ok (.iconst 1, 1) := by decide +kernel
theorem dX6_odds_101 : decode cX6_odds 101 = .ok (.iload 5, 2) := by decide +kernel
theorem dX6_odds_103 : decode cX6_odds 103 = .ok (.ishl, 1) := by decide +kernel
theorem dX6_odds_104 : decode cX6_odds 104 = .ok (.if_icmp .ge 85, 3) := by decide +kernel
theorem dX6_odds_107 : decode cX6_odds 107 = .ok (.aload_n 0, 1) := by decide +kernel
theorem dX6_odds_108 : decode cX6_odds 108 = .ok (.invokevirtual 80, 3) := by decide +kernel
theorem dX6_odds_111 : decode cX6_odds 111 = .ok (.astore 9, 2) := by decide +kernel
theorem dX6_odds_113 : decode cX6_odds 113 = .ok (.iconst 0, 1) := by decide +kernel
theorem dX6_odds_114 : decode cX6_odds 114 = .ok (.istore 10, 2) := by decide +kernel
theorem dX6_odds_116 : decode cX6_odds 116 = .ok (.iload 10, 2) := by decide +kernel
theorem dX6_odds_118 : decode cX6_odds 118 = .ok (.iload 5, 2) := by decide +kernel
theorem dX6_odds_120 : decode cX6_odds 120 = .ok (.if_icmp .ge 30, 3) := by decide +kernel
theorem dX6_odds_123 : decode cX6_odds 123 = .ok (.aload 9, 2) := by decide +kernel
theorem dX6_odds_125 : decode cX6_odds 125 = .ok (.iload 8, 2) := by decide +kernel
theorem dX6_odds_127 : decode cX6_odds 127 = .ok (.iload 10, 2) := by decide +kernel
theorem dX6_odds_129 : decode cX6_odds 129 = .ok (.ishr, 1) := by decide +kernel
theorem dX6_odds_130 : decode cX6_odds 130 = .ok (.iconst 1, 1) := by decide +kernel
theorem dX6_odds_131 : decode cX6_odds 131 = .ok (.iand, 1) := by decide +kernel
theorem dX6_odds_132 : decode cX6_odds 132 = .ok (.iconst 1, 1) := by decide +kernel
theorem dX6_odds_133 : decode cX6_odds 133 = .ok (.if_icmp .ne 7, 3) := by decide +kernel
theorem dX6_odds_136 : decode cX6_odds 136 = .ok (.iconst 5, 1) := by decide +kernel
theorem dX6_odds_137 : decode cX6_odds 137 = .ok (.goto 4, 3) := by decide +kernel
theorem dX6_odds_140 : decode cX6_odds 140 = .ok (.iconst 0, 1) := by decide +kernel
theorem dX6_odds_141 : decode cX6_odds 141 = .ok (.invokevirtual 251, 3) := by decide +kernel
theorem dX6_odds_144 : decode cX6_odds 144 = .ok (.iinc 10 1, 3) := by decide +kernel
theorem dX6_odds_147 : decode cX6_odds 147 = .ok (.goto (-31), 3) := by decide +kernel
theorem dX6_odds_150 : decode cX6_odds 150 = .ok (.aload 9, 2) := by decide +kernel
theorem dX6_odds_152 : decode cX6_odds 152 = .ok (.invokevirtual 226, 3) := by decide +kernel
theorem dX6_odds_155 : decode cX6_odds 155 = .ok (.aload 9, 2) := by decide +kernel
theorem dX6_odds_157 : decode cX6_odds 157 = .ok (.invokevirtual 203, 3) := by decide +kernel
theorem dX6_odds_160 : decode cX6_odds 160 = .ok (.iload_n 3, 1) := by decide +kernel
theorem dX6_odds_161 : decode cX6_odds 161 = .ok (.if_icmp .gt 22, 3) := by decide +kernel
theorem dX6_odds_164 : decode cX6_odds 164 = .ok (.lload 6, 2) := by decide +kernel
theorem dX6_odds_166 : decode cX6_odds 166 = .ok (.iload_n 2, 1) := by decide +kernel
theorem dX6_odds_167 : decode cX6_odds 167 = .ok (.iconst 1, 1) := by decide +kernel
theorem dX6_odds_168 : decode cX6_odds 168 = .ok (.isub, 1) := by decide +kernel
theorem dX6_odds_169 : decode cX6_odds 169 = .ok (.iload 5, 2) := by decide +kernel
theorem dX6_odds_171 : decode cX6_odds 171 = .ok (.iload 8, 2) := by decide +kernel
theorem dX6_odds_173 : decode cX6_odds 173 = .ok (.invokestatic 254, 3) := by decide +kernel
theorem dX6_odds_176 : decode cX6_odds 176 = .ok (.isub, 1) := by decide +kernel
theorem dX6_odds_177 : decode cX6_odds 177 = .ok (.invokestatic 259, 3) := by decide +kernel
theorem dX6_odds_180 : decode cX6_odds 180 = .ok (.ladd, 1) := by decide +kernel
theorem dX6_odds_181 : decode cX6_odds 181 = .ok (.lstore 6, 2) := by decide +kernel
theorem dX6_odds_183 : decode cX6_odds 183 = .ok (.iinc 8 1, 3) := by decide +kernel
theorem dX6_odds_186 : decode cX6_odds 186 = .ok (.goto (-88), 3) := by decide +kernel
theorem dX6_odds_189 : decode cX6_odds 189 = .ok (.lload 6, 2) := by decide +kernel
theorem dX6_odds_191 : decode cX6_odds 191 = .ok (.iload_n 2, 1) := by decide +kernel
theorem dX6_odds_192 : decode cX6_odds 192 = .ok (.iload 5, 2) := by decide +kernel
theorem dX6_odds_194 : decode cX6_odds 194 = .ok (.invokestatic 259, 3) := by decide +kernel
theorem dX6_odds_197 : decode cX6_odds 197 = .ok (.iload 4, 2) := by decide +kernel
theorem dX6_odds_199 : decode cX6_odds 199 = .ok (.invokestatic 263, 3) := by decide +kernel
theorem dX6_odds_202 : decode cX6_odds 202 = .ok (.lreturn, 1) := by decide +kernel
theorem dX6_two_0 : decode cX6_two 0 = .ok (.aload_n 0, 1) := by decide +kernel
theorem dX6_two_1 : decode cX6_two 1 = .ok (.getfield 10, 3) := by decide +kernel
theorem dX6_two_4 : decode cX6_two 4 = .ok (.iload_n 1, 1) := by decide +kernel
theorem dX6_two_5 : decode cX6_two 5 = .ok (.invokevirtual 95, 3) := by decide +kernel
theorem dX6_two_8 : decode cX6_two 8 = .ok (.ifCond .eq 19, 3) := by decide +kernel
theorem dX6_two_11 : decode cX6_two 11 = .ok (.aload_n 0, 1) := by decide +kernel
theorem dX6_two_12 : decode cX6_two 12 = .ok (.getfield 10, 3) := by decide +kernel
theorem dX6_two_15 : decode cX6_two 15 = .ok (.iload_n 2, 1) := by decide +kernel
theorem dX6_two_16 : decode cX6_two 16 = .ok (.invokevirtual 95, 3) := by decide +kernel
theorem dX6_two_19 : decode cX6_two 19 = .ok (.ifCond .eq 8, 3) := by decide +kernel
theorem dX6_two_22 : decode cX6_two 22 = .ok (.iload_n 1, 1) := by decide +kernel
theorem dX6_two_23 : decode cX6_two 23 = .ok (.iload_n 2, 1) := by decide +kernel
theorem dX6_two_24 : decode cX6_two 24 = .ok (.if_icmp .ne 9, 3) := by decide +kernel
theorem dX6_two_27 : decode cX6_two 27 = .ok (.aload_n 0, 1) := by decide +kernel
theorem dX6_two_28 : decode cX6_two 28 = .ok (.iconst (-1), 1) := by decide +kernel
theorem dX6_two_29 : decode cX6_two 29 = .ok (.invokevirtual 65, 3) := by decide +kernel
theorem dX6_two_32 : decode cX6_two 32 = .ok (.ireturn, 1) := by decide +kernel
theorem dX6_two_33 : decode cX6_two 33 = .ok (.aload_n 0, 1) := by decide +kernel
theorem dX6_two_34 : decode cX6_two 34 = .ok (.getfield 10, 3) := by decide +kernel
theorem dX6_two_37 : decode cX6_two 37 = .ok (.iload_n 1, 1) := by decide +kernel
theorem dX6_two_38 : decode cX6_two 38 = .ok (.invokevirtual 107, 3) := by decide +kernel
theorem dX6_two_41 : decode cX6_two 41 = .ok (.ifCond .ne 14, 3) := by decide +kernel
theorem dX6_two_44 : decode cX6_two 44 = .ok (.aload_n 0, 1) := by decide +kernel
theorem dX6_two_45 : decode cX6_two 45 = .ok (.getfield 10, 3) := by decide +kernel
theorem dX6_two_48 : decode cX6_two 48 = .ok (.iload_n 2, 1) := by decide +kernel
theorem dX6_two_49 : decode cX6_two 49 = .ok (.invokevirtual 107, 3) := by decide +kernel
theorem dX6_two_52 : decode cX6_two 52 = .ok (.ifCond .eq 10, 3) := by decide +kernel
theorem dX6_two_55 : decode cX6_two 55 = .ok (.aload_n 0, 1) := by decide +kernel
theorem dX6_two_56 : decode cX6_two 56 = .ok (.bipush (-3), 2) := by decide +kernel
theorem dX6_two_58 : decode cX6_two 58 = .ok (.invokevirtual 65, 3) := by decide +kernel
theorem dX6_two_61 : decode cX6_two 61 = .ok (.ireturn, 1) := by decide +kernel
theorem dX6_two_62 : decode cX6_two 62 = .ok (.iconst 0, 1) := by decide +kernel
theorem dX6_two_63 : decode cX6_two 63 = .ok (.istore_n 3, 1) := by decide +kernel
theorem dX6_two_64 : decode cX6_two 64 = .ok (.iload_n 3, 1) := by decide +kernel
theorem dX6_two_65 : decode cX6_two 65 = .ok (.iconst 1, 1) := by decide +kernel
theorem dX6_two_66 : decode cX6_two 66 = .ok (.if_icmp .gt 56, 3) := by decide +kernel
theorem dX6_two_69 : decode cX6_two 69 = .ok (.iconst 0, 1) := by decide +kernel
theorem dX6_two_70 : decode cX6_two 70 = .ok (.istore 4, 2) := by decide +kernel
theorem dX6_two_72 : decode cX6_two 72 = .ok (.iload 4, 2) := by decide +kernel
theorem dX6_two_74 : decode cX6_two 74 = .ok (.iconst 1, 1) := by decide +kernel
theorem dX6_two_75 : decode cX6_two 75 = .ok (.if_icmp .gt 41, 3) := by decide +kernel
theorem dX6_two_78 : decode cX6_two 78 = .ok (.aload_n 0, 1) := by decide +kernel
theorem dX6_two_79 : decode cX6_two 79 = .ok (.iload_n 1, 1) := by decide +kernel
theorem dX6_two_80 : decode cX6_two 80 = .ok (.iload_n 2, 1) := by decide +kernel
theorem dX6_two_81 : decode cX6_two 81 = .ok (.iload_n 3, 1) := by decide +kernel
theorem dX6_two_82 : decode cX6_two 82 = .ok (.iload 4, 2) := by decide +kernel
theorem dX6_two_84 : decode cX6_two 84 = .ok (.invokevirtual 267, 3) := by decide +kernel
theorem dX6_two_87 : decode cX6_two 87 = .ok (.ifCond .eq 23, 3) := by decide +kernel
theorem dX6_two_90 : decode cX6_two 90 = .ok (.aload_n 0, 1) := by decide +kernel
theorem dX6_two_91 : decode cX6_two 91 = .ok (.iload_n 1, 1) := by decide +kernel
theorem dX6_two_92 : decode cX6_two 92 = .ok (.iload_n 2, 1) := by decide +kernel
theorem dX6_two_93 : decode cX6_two 93 = .ok (.iload_n 3, 1) := by decide +kernel
theorem dX6_two_94 : decode cX6_two 94 = .ok (.iload 4, 2) := by decide +kernel
theorem dX6_two_96 : decode cX6_two 96 = .ok (.invokevirtual 271, 3) := by decide +kernel
theorem dX6_two_99 : decode cX6_two 99 = .ok (.ifCond .eq 11, 3) := by decide +kernel
theorem dX6_two_102 : decode cX6_two 102 = .ok (.bipush 10, 2) := by decide +kernel
theorem dX6_two_104 : decode cX6_two 104 = .ok (.iload_n 3, 1) := by decide +kernel
theorem dX6_two_105 : decode cX6_two 105 = .ok (.imul, 1) := by decide +kernel
theorem dX6_two_106 : decode cX6_two 106 = .ok (.iload 4, 2) := by decide +kernel
theorem dX6_two_108 : decode cX6_two 108 = .ok (.iadd, 1) := by decide +kernel
theorem dX6_two_109 : decode cX6_two 109 = .ok (.ireturn, 1) := by decide +kernel
theorem dX6_two_110 : decode cX6_two 110 = .ok (.iinc 4 1, 3) := by decide +kernel
theorem dX6_two_113 : decode cX6_two 113 = .ok (.goto (-41), 3) := by decide +kernel
theorem dX6_two_116 : decode cX6_two 116 = .ok (.iinc 3 1, 3) := by decide +kernel
theorem dX6_two_119 : decode cX6_two 119 = .ok (.goto (-55), 3) := by decide +kernel
theorem dX6_two_122 : decode cX6_two 122 = .ok (.bipush (-9), 2) := by decide +kernel
theorem dX6_two_124 : decode cX6_two 124 = .ok (.ireturn, 1) := by decide +kernel
theorem dX6_whatWas_0 : decode cX6_whatWas 0 = .ok (.aload_n 0, 1) := by decide +kernel
theorem dX6_whatWas_1 : decode cX6_whatWas 1 = .ok (.getfield 10, 3) := by decide +kernel
theorem dX6_whatWas_4 : decode cX6_whatWas 4 = .ok (.iload_n 1, 1) := by decide +kernel
theorem dX6_whatWas_5 : decode cX6_whatWas 5 = .ok (.invokevirtual 95, 3) := by decide +kernel
theorem dX6_whatWas_8 : decode cX6_whatWas 8 = .ok (.ifCond .ne 9, 3) := by decide +kernel
theorem dX6_whatWas_11 : decode cX6_whatWas 11 = .ok (.aload_n 0, 1) := by decide +kernel
theorem dX6_whatWas_12 : decode cX6_whatWas 12 = .ok (.iconst (-1), 1) := by decide +kernel
theorem dX6_whatWas_13 : decode cX6_whatWas 13 = .ok (.invokevirtual 65, 3) := by decide +kernel
theorem dX6_whatWas_16 : decode cX6_whatWas 16 = .ok (.ireturn, 1) := by decide +kernel
theorem dX6_whatWas_17 : decode cX6_whatWas 17 = .ok (.iload_n 2, 1) := by decide +kernel
theorem dX6_whatWas_18 : decode cX6_whatWas 18 = .ok (.tableswitch 56 0 3 #[30, 36, 42, 49], 30) := by decide +kernel
theorem dX6_whatWas_48 : decode cX6_whatWas 48 = .ok (.aload_n 0, 1) := by decide +kernel
theorem dX6_whatWas_49 : decode cX6_whatWas 49 = .ok (.iload_n 1, 1) := by decide +kernel
theorem dX6_whatWas_50 : decode cX6_whatWas 50 = .ok (.invokevirtual 274, 3) := by decide +kernel
theorem dX6_whatWas_53 : decode cX6_whatWas 53 = .ok (.ireturn, 1) := by decide +kernel
theorem dX6_whatWas_54 : decode cX6_whatWas 54 = .ok (.aload_n 0, 1) := by decide +kernel
theorem dX6_whatWas_55 : decode cX6_whatWas 55 = .ok (.iload_n 1, 1) := by decide +kernel
theorem dX6_whatWas_56 : decode cX6_whatWas 56 = .ok (.invokevirtual 277, 3) := by decide +kernel
theorem dX6_whatWas_59 : decode cX6_whatWas 59 = .ok (.ireturn, 1) := by decide +kernel
theorem dX6_whatWas_60 : decode cX6_whatWas 60 = .ok (.aload_n 0, 1) := by decide +kernel
theorem dX6_whatWas_61 : decode cX6_whatWas 61 = .ok (.iload_n 1, 1) := by decide +kernel
theorem dX6_whatWas_62 : decode cX6_whatWas 62 = .ok (.iconst 0, 1) := by decide +kernel
theorem dX6_whatWas_63 : decode cX6_whatWas 63 = .ok (.invokevirtual 280, 3) := by decide +kernel
theorem dX6_whatWas_66 : decode cX6_whatWas 66 = .ok (.ireturn, 1) := by decide +kernel
theorem dX6_whatWas_67 : decode cX6_whatWas 67 = .ok (.aload_n 0, 1) := by decide +kernel
theorem dX6_whatWas_68 : decode cX6_whatWas 68 = .ok (.iload_n 1, 1) := by decide +kernel
theorem dX6_whatWas_69 : decode cX6_whatWas 69 = .ok (.iconst 1, 1) := by decide +kernel
theorem dX6_whatWas_70 : decode cX6_whatWas 70 = .ok (.invokevirtual 280, 3) := by decide +kernel
theorem dX6_whatWas_73 : decode cX6_whatWas 73 = .ok (.ireturn, 1) := by decide +kernel
theorem dX6_whatWas_74 : decode cX6_whatWas 74 = .ok (.aload_n 0, 1) := by decide +kernel
theorem dX6_whatWas_75 : decode cX6_whatWas 75 = .ok (.bipush (-2), 2) := by decide +kernel
theorem dX6_whatWas_77 : decode cX6_whatWas 77 = .ok (.invokevirtual 65, 3) := by decide +kernel
theorem dX6_whatWas_80 : decode cX6_whatWas 80 = .ok (.ireturn, 1) := by decide +kernel
theorem dX6_longest_0 : decode cX6_longest 0 = .ok (.iload_n 1, 1) := by decide +kernel
theorem dX6_longest_1 : decode cX6_longest 1 = .ok (.tableswitch 51 0 2 #[27, 35, 43], 27) := by decide +kernel
theorem dX6_longest_28 : decode cX6_longest 28 = .ok (.aload_n 0, 1) := by decide +kernel
theorem dX6_longest_29 : decode cX6_longest 29 = .ok (.getfield 10, 3) := by decide +kernel
theorem dX6_longest_32 : decode cX6_longest 32 = .ok (.invokevirtual 284, 3) := by decide +kernel
theorem dX6_longest_35 : decode cX6_longest 35 = .ok (.ireturn, 1) := by decide +kernel
theorem dX6_longest_36 : decode cX6_longest 36 = .ok (.aload_n 0, 1) := by decide +kernel
theorem dX6_longest_37 : decode cX6_longest 37 = .ok (.getfield 10, 3) := by decide +kernel
theorem dX6_longest_40 : decode cX6_longest 40 = .ok (.invokevirtual 287, 3) := by decide +kernel
theorem dX6_longest_43 : decode cX6_longest 43 = .ok (.ireturn, 1) := by decide +kernel
theorem dX6_longest_44 : decode cX6_longest 44 = .ok (.aload_n 0, 1) := by decide +kernel
theorem dX6_longest_45 : decode cX6_longest 45 = .ok (.getfield 10, 3) := by decide +kernel
theorem dX6_longest_48 : decode cX6_longest 48 = .ok (.invokevirtual 290, 3) := by decide +kernel
theorem dX6_longest_51 : decode cX6_longest 51 = .ok (.ireturn, 1) := by decide +kernel
theorem dX6_longest_52 : decode cX6_longest 52 = .ok (.aload_n 0, 1) := by decide +kernel
theorem dX6_longest_53 : decode cX6_longest 53 = .ok (.bipush (-2), 2) := by decide +kernel
theorem dX6_longest_55 : decode cX6_longest 55 = .ok (.invokevirtual 65, 3) := by decide +kernel
theorem dX6_longest_58 : decode cX6_longest 58 = .ok (.ireturn, 1) := by decide +kernel
theorem dX6_mean_0 : decode cX6_mean 0 = .ok (.iload_n 1, 1) := by decide +kernel
theorem dX6_mean_1 : decode cX6_mean 1 = .ok (.ifCond .eq 20, 3) := by decide +kernel
theorem dX6_mean_4 : decode cX6_mean 4 = .ok (.iload_n 1, 1) := by decide +kernel
theorem dX6_mean_5 : decode cX6_mean 5 = .ok (.iconst 1, 1) := by decide +kernel
theorem dX6_mean_6 : decode cX6_mean 6 = .ok (.if_icmp .eq 15, 3) := by decide +kernel
theorem dX6_mean_9 : decode cX6_mean 9 = .ok (.ldc2_w 246, 3) := by decide +kernel
theorem dX6_mean_12 : decode cX6_mean 12 = .ok (.aload_n 0, 1) := by decide +kernel
theorem dX6_mean_13 : decode cX6_mean 13 = .ok (.bipush (-2), 2) := by decide +kernel
theorem dX6_mean_15 : decode cX6_mean 15 = .ok (.invokevirtual 65, 3) := by decide +kernel
theorem dX6_mean_18 : decode cX6_mean 18 = .ok (.i2l, 1) := by decide +kernel
theorem dX6_mean_19 : decode cX6_mean 19 = .ok (.lsub, 1) := by decide +kernel
theorem dX6_mean_20 : decode cX6_mean 20 = .ok (.lreturn, 1) := by decide +kernel
theorem dX6_mean_21 : decode cX6_mean 21 = .ok (.aload_n 0, 1) := by decide +kernel
theorem dX6_mean_22 : decode cX6_mean 22 = .ok (.invokevirtual 184, 3) := by decide +kernel
theorem dX6_mean_25 : decode cX6_mean 25 = .ok (.invokevirtual 200, 3) := by decide +kernel
theorem dX6_mean_28 : decode cX6_mean 28 = .ok (.i2l, 1) := by decide +kernel
theorem dX6_mean_29 : decode cX6_mean 29 = .ok (.aload_n 0, 1) := by decide +kernel
theorem dX6_mean_30 : decode cX6_mean 30 = .ok (.getfield 10, 3) := by decide +kernel
theorem dX6_mean_33 : decode cX6_mean 33 = .ok (.getfield 148, 3) := by decide +kernel
theorem dX6_mean_36 : decode cX6_mean 36 = .ok (.iconst 1, 1) := by decide +kernel
theorem dX6_mean_37 : decode cX6_mean 37 = .ok (.invokestatic 293, 3) := by decide +kernel
theorem dX6_mean_40 : decode cX6_mean 40 = .ok (.i2l, 1) := by decide +kernel
theorem dX6_mean_41 : decode cX6_mean 41 = .ok (.iload_n 1, 1) := by decide +kernel
theorem dX6_mean_42 : decode cX6_mean 42 = .ok (.invokestatic 263, 3) := by decide +kernel
theorem dX6_mean_45 : decode cX6_mean 45 = .ok (.lreturn, 1) := by decide +kernel
theorem dX6_early_0 : decode cX6_early 0 = .ok (.aload_n 0, 1) := by decide +kernel
theorem dX6_early_1 : decode cX6_early 1 = .ok (.invokevirtual 184, 3) := by decide +kernel
theorem dX6_early_4 : decode cX6_early 4 = .ok (.astore_n 1, 1) := by decide +kernel
theorem dX6_early_5 : decode cX6_early 5 = .ok (.iconst 0, 1) := by decide +kernel
theorem dX6_early_6 : decode cX6_early 6 = .ok (.istore_n 2, 1) := by decide +kernel
theorem dX6_early_7 : decode cX6_early 7 = .ok (.iconst 0, 1) := by decide +kernel
theorem dX6_early_8 : decode cX6_early 8 = .ok (.istore_n 3, 1) := by decide +kernel
theorem dX6_early_9 : decode cX6_early 9 = .ok (.iload_n 3, 1) := by decide +kernel
theorem dX6_early_10 : decode cX6_early 10 = .ok (.aload_n 1, 1) := by decide +kernel
theorem dX6_early_11 : decode cX6_early 11 = .ok (.getfield 148, 3) := by decide +kernel
theorem dX6_early_14 : decode cX6_early 14 = .ok (.if_icmp .ge 30, 3) := by decide +kernel
theorem dX6_early_17 : decode cX6_early 17 = .ok (.aload_n 1, 1) := by decide +kernel
theorem dX6_early_18 : decode cX6_early 18 = .ok (.getfield 187, 3) := by decide +kernel
theorem dX6_early_21 : decode cX6_early 21 = .ok (.iload_n 3, 1) := by decide +kernel
theorem dX6_early_22 : decode cX6_early 22 = .ok (.iaload, 1) := by decide +kernel
theorem dX6_early_23 : decode cX6_early 23 = .ok (.aload_n 1, 1) := by decide +kernel
theorem dX6_early_24 : decode cX6_early 24 = .ok (.getfield 104, 3) := by decide +kernel
theorem dX6_early_27 : decode cX6_early 27 = .ok (.iload_n 3, 1) := by decide +kernel
theorem dX6_early_28 : decode cX6_early 28 = .ok (.iaload, 1) := by decide +kernel
theorem dX6_early_29 : decode cX6_early 29 = .ok (.if_icmp .ge 9, 3) := by decide +kernel
theorem dX6_early_32 : decode cX6_early 32 = .ok (.iload_n 2, 1) := by decide +kernel
theorem dX6_early_33 : decode cX6_early 33 = .ok (.iconst 1, 1) := by decide +kernel
theorem dX6_early_34 : decode cX6_early 34 = .ok (.iload_n 3, 1) := by decide +kernel
theorem dX6_early_35 : decode cX6_early 35 = .ok (.ishl, 1) := by decide +kernel
theorem dX6_early_36 : decode cX6_early 36 = .ok (.ior, 1) := by decide +kernel
theorem dX6_early_37 : decode cX6_early 37 = .ok (.istore_n 2, 1) := by decide +kernel
theorem dX6_early_38 : decode cX6_early 38 = .ok (.iinc 3 1, 3) := by decide +kernel
theorem dX6_early_41 : decode cX6_early 41 = .ok (.goto (-32), 3) := by decide +kernel
theorem dX6_early_44 : decode cX6_early 44 = .ok (.iload_n 2, 1) := by decide +kernel
theorem dX6_early_45 : decode cX6_early 45 = .ok (.ireturn, 1) := by decide +kernel
theorem dX6_worst_0 : decode cX6_worst 0 = .ok (.aload_n 0, 1) := by decide +kernel
theorem dX6_worst_1 : decode cX6_worst 1 = .ok (.invokevirtual 184, 3) := by decide +kernel
theorem dX6_worst_4 : decode cX6_worst 4 = .ok (.astore_n 1, 1) := by decide +kernel
theorem dX6_worst_5 : decode cX6_worst 5 = .ok (.iconst 0, 1) := by decide +kernel
theorem dX6_worst_6 : decode cX6_worst 6 = .ok (.istore_n 2, 1) := by decide +kernel
theorem dX6_worst_7 : decode cX6_worst 7 = .ok (.bipush (-9), 2) := by decide +kernel
theorem dX6_worst_9 : decode cX6_worst 9 = .ok (.istore_n 3, 1) := by decide +kernel
theorem dX6_worst_10 : decode cX6_worst 10 = .ok (.iconst 0, 1) := by decide +kernel
theorem dX6_worst_11 : decode cX6_worst 11 = .ok (.istore 4, 2) := by decide +kernel
theorem dX6_worst_13 : decode cX6_worst 13 = .ok (.iload 4, 2) := by decide +kernel
theorem dX6_worst_15 : decode cX6_worst 15 = .ok (.aload_n 1, 1) := by decide +kernel
theorem dX6_worst_16 : decode cX6_worst 16 = .ok (.getfield 148, 3) := by decide +kernel
theorem dX6_worst_19 : decode cX6_worst 19 = .ok (.if_icmp .ge 29, 3) := by decide +kernel
theorem dX6_worst_22 : decode cX6_worst 22 = .ok (.aload_n 1, 1) := by decide +kernel
theorem dX6_worst_23 : decode cX6_worst 23 = .ok (.iload 4, 2) := by decide +kernel
theorem dX6_worst_25 : decode cX6_worst 25 = .ok (.invokevirtual 193, 3) := by decide +kernel
theorem dX6_worst_28 : decode cX6_worst 28 = .ok (.iload_n 2, 1) := by decide +kernel
theorem dX6_worst_29 : decode cX6_worst 29 = .ok (.if_icmp .le 13, 3) := by decide +kernel
theorem dX6_worst_32 : decode cX6_worst 32 = .ok (.aload_n 1, 1) := by decide +kernel
theorem dX6_worst_33 : decode cX6_worst 33 = .ok (.iload 4, 2) := by decide +kernel
theorem dX6_worst_35 : decode cX6_worst 35 = .ok (.invokevirtual 193, 3) := by decide +kernel
theorem dX6_worst_38 : decode cX6_worst 38 = .ok (.istore_n 2, 1) := by decide +kernel
theorem dX6_worst_39 : decode cX6_worst 39 = .ok (.iload 4, 2) := by decide +kernel
theorem dX6_worst_41 : decode cX6_worst 41 = .ok (.istore_n 3, 1) := by decide +kernel
theorem dX6_worst_42 : decode cX6_worst 42 = .ok (.iinc 4 1, 3) := by decide +kernel
theorem dX6_worst_45 : decode cX6_worst 45 = .ok (.goto (-32), 3) := by decide +kernel
theorem dX6_worst_48 : decode cX6_worst 48 = .ok (.iload_n 3, 1) := by decide +kernel
theorem dX6_worst_49 : decode cX6_worst 49 = .ok (.ireturn, 1) := by decide +kernel
theorem dX6_idle_0 : decode cX6_idle 0 = .ok (.aload_n 0, 1) := by decide +kernel
theorem dX6_idle_1 : decode cX6_idle 1 = .ok (.invokevirtual 184, 3) := by decide +kernel
theorem dX6_idle_4 : decode cX6_idle 4 = .ok (.astore_n 1, 1) := by decide +kernel
theorem dX6_idle_5 : decode cX6_idle 5 = .ok (.aload_n 1, 1) := by decide +kernel
theorem dX6_idle_6 : decode cX6_idle 6 = .ok (.invokevirtual 203, 3) := by decide +kernel
theorem dX6_idle_9 : decode cX6_idle 9 = .ok (.istore_n 2, 1) := by decide +kernel
theorem dX6_idle_10 : decode cX6_idle 10 = .ok (.iconst 0, 1) := by decide +kernel
theorem dX6_idle_11 : decode cX6_idle 11 = .ok (.istore_n 3, 1) := by decide +kernel
theorem dX6_idle_12 : decode cX6_idle 12 = .ok (.iconst 0, 1) := by decide +kernel
theorem dX6_idle_13 : decode cX6_idle 13 = .ok (.istore 4, 2) := by decide +kernel
theorem dX6_idle_15 : decode cX6_idle 15 = .ok (.iload 4, 2) := by decide +kernel
theorem dX6_idle_17 : decode cX6_idle 17 = .ok (.iload_n 2, 1) := by decide +kernel
theorem dX6_idle_18 : decode cX6_idle 18 = .ok (.if_icmp .ge 21, 3) := by decide +kernel
theorem dX6_idle_21 : decode cX6_idle 21 = .ok (.aload_n 1, 1) := by decide +kernel
theorem dX6_idle_22 : decode cX6_idle 22 = .ok (.iload 4, 2) := by decide +kernel
theorem dX6_idle_24 : decode cX6_idle 24 = .ok (.invokevirtual 238, 3) := by decide +kernel
theorem dX6_idle_27 : decode cX6_idle 27 = .ok (.ifCond .ne 6, 3) := by decide +kernel
theorem dX6_idle_30 : decode cX6_idle 30 = .ok (.iinc 3 1, 3) := by decide +kernel
theorem dX6_idle_33 : decode cX6_idle 33 = .ok (.iinc 4 1, 3) := by decide +kernel
theorem dX6_idle_36 : decode cX6_idle 36 = .ok (.goto (-21), 3) := by decide +kernel
theorem dX6_idle_39 : decode cX6_idle 39 = .ok (.iload_n 3, 1) := by decide +kernel
theorem dX6_idle_40 : decode cX6_idle 40 = .ok (.ireturn, 1) := by decide +kernel
theorem dX6_span_0 : decode cX6_span 0 = .ok (.aload_n 0, 1) := by decide +kernel
theorem dX6_span_1 : decode cX6_span 1 = .ok (.invokevirtual 184, 3) := by decide +kernel
theorem dX6_span_4 : decode cX6_span 4 = .ok (.astore_n 1, 1) := by decide +kernel
theorem dX6_span_5 : decode cX6_span 5 = .ok (.iconst 0, 1) := by decide +kernel
theorem dX6_span_6 : decode cX6_span 6 = .ok (.istore_n 2, 1) := by decide +kernel
theorem dX6_span_7 : decode cX6_span 7 = .ok (.iconst 0, 1) := by decide +kernel
theorem dX6_span_8 : decode cX6_span 8 = .ok (.istore_n 3, 1) := by decide +kernel
theorem dX6_span_9 : decode cX6_span 9 = .ok (.iload_n 3, 1) := by decide +kernel
theorem dX6_span_10 : decode cX6_span 10 = .ok (.aload_n 1, 1) := by decide +kernel
theorem dX6_span_11 : decode cX6_span 11 = .ok (.getfield 148, 3) := by decide +kernel
theorem dX6_span_14 : decode cX6_span 14 = .ok (.if_icmp .ge 19, 3) := by decide +kernel
theorem dX6_span_17 : decode cX6_span 17 = .ok (.iload_n 2, 1) := by decide +kernel
theorem dX6_span_18 : decode cX6_span 18 = .ok (.aload_n 1, 1) := by decide +kernel
theorem dX6_span_19 : decode cX6_span 19 = .ok (.iload_n 3, 1) := by decide +kernel
theorem dX6_span_20 : decode cX6_span 20 = .ok (.invokevirtual 197, 3) := by decide +kernel
theorem dX6_span_23 : decode cX6_span 23 = .ok (.invokestatic 293, 3) := by decide +kernel
theorem dX6_span_26 : decode cX6_span 26 = .ok (.istore_n 2, 1) := by decide +kernel
theorem dX6_span_27 : decode cX6_span 27 = .ok (.iinc 3 1, 3) := by decide +kernel
theorem dX6_span_30 : decode cX6_span 30 = .ok (.goto (-21), 3) := by decide +kernel
theorem dX6_span_33 : decode cX6_span 33 = .ok (.iload_n 2, 1) := by decide +kernel
theorem dX6_span_34 : decode cX6_span 34 = .ok (.ireturn, 1) := by decide +kernel
theorem dX6_swap_0 : decode cX6_swap 0 = .ok (.aload_n 0, 1) := by decide +kernel
theorem dX6_swap_1 : decode cX6_swap 1 = .ok (.invokevirtual 184, 3) := by decide +kernel
theorem dX6_swap_4 : decode cX6_swap 4 = .ok (.invokevirtual 200, 3) := by decide +kernel
theorem dX6_swap_7 : decode cX6_swap 7 = .ok (.istore_n 1, 1) := by decide +kernel
theorem dX6_swap_8 : decode cX6_swap 8 = .ok (.bipush (-9), 2) := by decide +kernel
theorem dX6_swap_10 : decode cX6_swap 10 = .ok (.istore_n 2, 1) := by decide +kernel
theorem dX6_swap_11 : decode cX6_swap 11 = .ok (.iconst 0, 1) := by decide +kernel
theorem dX6_swap_12 : decode cX6_swap 12 = .ok (.istore_n 3, 1) := by decide +kernel
theorem dX6_swap_13 : decode cX6_swap 13 = .ok (.iload_n 3, 1) := by decide +kernel
theorem dX6_swap_14 : decode cX6_swap 14 = .ok (.aload_n 0, 1) := by decide +kernel
theorem dX6_swap_15 : decode cX6_swap 15 = .ok (.getfield 10, 3) := by decide +kernel
theorem dX6_swap_18 : decode cX6_swap 18 = .ok (.getfield 148, 3) := by decide +kernel
theorem dX6_swap_21 : decode cX6_swap 21 = .ok (.if_icmp .ge 93, 3) := by decide +kernel
theorem dX6_swap_24 : decode cX6_swap 24 = .ok (.iload_n 3, 1) := by decide +kernel
theorem dX6_swap_25 : decode cX6_swap 25 = .ok (.iconst 1, 1) := by decide +kernel
theorem dX6_swap_26 : decode cX6_swap 26 = .ok (.iadd, 1) := by decide +kernel
theorem dX6_swap_27 : decode cX6_swap 27 = .ok (.istore 4, 2) := by decide +kernel
theorem dX6_swap_29 : decode cX6_swap 29 = .ok (.iload 4, 2) := by decide +kernel
theorem dX6_swap_31 : decode cX6_swap 31 = .ok (.aload_n 0, 1) := by decide +kernel
theorem dX6_swap_32 : decode cX6_swap 32 = .ok (.getfield 10, 3) := by decide +kernel
theorem dX6_swap_35 : decode cX6_swap 35 = .ok (.getfield 148, 3) := by decide +kernel
theorem dX6_swap_38 : decode cX6_swap 38 = .ok (.if_icmp .ge 70, 3) := by decide +kernel
theorem dX6_swap_41 : decode cX6_swap 41 = .ok (.aload_n 0, 1) := by decide +kernel
theorem dX6_swap_42 : decode cX6_swap 42 = .ok (.getfield 10, 3) := by decide +kernel
theorem dX6_swap_45 : decode cX6_swap 45 = .ok (.iload_n 3, 1) := by decide +kernel
theorem dX6_swap_46 : decode cX6_swap 46 = .ok (.invokevirtual 107, 3) := by decide +kernel
theorem dX6_swap_49 : decode cX6_swap 49 = .ok (.ifCond .ne 53, 3) := by decide +kernel
theorem dX6_swap_52 : decode cX6_swap 52 = .ok (.aload_n 0, 1) := by decide +kernel
theorem dX6_swap_53 : decode cX6_swap 53 = .ok (.getfield 10, 3) := by decide +kernel
theorem dX6_swap_56 : decode cX6_swap 56 = .ok (.iload 4, 2) := by decide +kernel
theorem dX6_swap_58 : decode cX6_swap 58 = .ok (.invokevirtual 107, 3) := by decide +kernel
theorem dX6_swap_61 : decode cX6_swap 61 = .ok (.ifCond .ne 41, 3) := by decide +kernel
theorem dX6_swap_64 : decode cX6_swap 64 = .ok (.aload_n 0, 1) := by decide +kernel
theorem dX6_swap_65 : decode cX6_swap 65 = .ok (.invokevirtual 80, 3) := by decide +kernel
theorem dX6_swap_68 : decode cX6_swap 68 = .ok (.astore 5, 2) := by decide +kernel
theorem dX6_swap_70 : decode cX6_swap 70 = .ok (.aload 5, 2) := by decide +kernel
theorem dX6_swap_72 : decode cX6_swap 72 = .ok (.iload_n 3, 1) := by decide +kernel
theorem dX6_swap_73 : decode cX6_swap 73 = .ok (.iload 4, 2) := by decide +kernel
theorem dX6_swap_75 : decode cX6_swap 75 = .ok (.invokevirtual 296, 3) := by decide +kernel
theorem dX6_swap_78 : decode cX6_swap 78 = .ok (.aload 5, 2) := by decide +kernel
theorem dX6_swap_80 : decode cX6_swap 80 = .ok (.invokestatic 223, 3) := by decide +kernel
theorem dX6_swap_83 : decode cX6_swap 83 = .ok (.istore 6, 2) := by decide +kernel
theorem dX6_swap_85 : decode cX6_swap 85 = .ok (.iload 6, 2) := by decide +kernel
theorem dX6_swap_87 : decode cX6_swap 87 = .ok (.iload_n 1, 1) := by decide +kernel
theorem dX6_swap_88 : decode cX6_swap 88 = .ok (.if_icmp .ge 14, 3) := by decide +kernel
theorem dX6_swap_91 : decode cX6_swap 91 = .ok (.iload 6, 2) := by decide +kernel
theorem dX6_swap_93 : decode cX6_swap 93 = .ok (.istore_n 1, 1) := by decide +kernel
theorem dX6_swap_94 : decode cX6_swap 94 = .ok (.bipush 10, 2) := by decide +kernel
theorem dX6_swap_96 : decode cX6_swap 96 = .ok (.iload_n 3, 1) := by decide +kernel
theorem dX6_swap_97 : decode cX6_swap 97 = .ok (.imul, 1) := by decide +kernel
theorem dX6_swap_98 : decode cX6_swap 98 = .ok (.iload 4, 2) := by decide +kernel
theorem dX6_swap_100 : decode cX6_swap 100 = .ok (.iadd, 1) := by decide +kernel
theorem dX6_swap_101 : decode cX6_swap 101 = .ok (.istore_n 2, 1) := by decide +kernel
theorem dX6_swap_102 : decode cX6_swap 102 = .ok (.iinc 4 1, 3) := by decide +kernel
theorem dX6_swap_105 : decode cX6_swap 105 = .ok (.goto (-76), 3) := by decide +kernel
theorem dX6_swap_108 : decode cX6_swap 108 = .ok (.iinc 3 1, 3) := by decide +kernel
theorem dX6_swap_111 : decode cX6_swap 111 = .ok (.goto (-98), 3) := by decide +kernel
theorem dX6_swap_114 : decode cX6_swap 114 = .ok (.iload_n 2, 1) := by decide +kernel
theorem dX6_swap_115 : decode cX6_swap 115 = .ok (.ireturn, 1) := by decide +kernel
theorem dX6_turned_0 : decode cX6_turned 0 = .ok (.aload_n 0, 1) := by decide +kernel
theorem dX6_turned_1 : decode cX6_turned 1 = .ok (.invokevirtual 80, 3) := by decide +kernel
theorem dX6_turned_4 : decode cX6_turned 4 = .ok (.astore_n 1, 1) := by decide +kernel
theorem dX6_turned_5 : decode cX6_turned 5 = .ok (.iconst 0, 1) := by decide +kernel
theorem dX6_turned_6 : decode cX6_turned 6 = .ok (.istore_n 2, 1) := by decide +kernel
theorem dX6_turned_7 : decode cX6_turned 7 = .ok (.iload_n 2, 1) := by decide +kernel
theorem dX6_turned_8 : decode cX6_turned 8 = .ok (.aload_n 0, 1) := by decide +kernel
theorem dX6_turned_9 : decode cX6_turned 9 = .ok (.getfield 10, 3) := by decide +kernel
theorem dX6_turned_12 : decode cX6_turned 12 = .ok (.getfield 125, 3) := by decide +kernel
theorem dX6_turned_15 : decode cX6_turned 15 = .ok (.if_icmp .ge 34, 3) := by decide +kernel
theorem dX6_turned_18 : decode cX6_turned 18 = .ok (.aload_n 1, 1) := by decide +kernel
theorem dX6_turned_19 : decode cX6_turned 19 = .ok (.getfield 128, 3) := by decide +kernel
theorem dX6_turned_22 : decode cX6_turned 22 = .ok (.iload_n 2, 1) := by decide +kernel
theorem dX6_turned_23 : decode cX6_turned 23 = .ok (.aload_n 0, 1) := by decide +kernel
theorem dX6_turned_24 : decode cX6_turned 24 = .ok (.getfield 10, 3) := by decide +kernel
theorem dX6_turned_27 : decode cX6_turned 27 = .ok (.getfield 128, 3) := by decide +kernel
theorem dX6_turned_30 : decode cX6_turned 30 = .ok (.aload_n 0, 1) := by decide +kernel
theorem dX6_turned_31 : decode cX6_turned 31 = .ok (.getfield 10, 3) := by decide +kernel
theorem dX6_turned_34 : decode cX6_turned 34 = .ok (.getfield 125, 3) := by decide +kernel
theorem dX6_turned_37 : decode cX6_turned 37 = .ok (.iconst 1, 1) := by decide +kernel
theorem dX6_turned_38 : decode cX6_turned 38 = .ok (.isub, 1) := by decide +kernel
theorem dX6_turned_39 : decode cX6_turned 39 = .ok (.iload_n 2, 1) := by decide +kernel
theorem dX6_turned_40 : decode cX6_turned 40 = .ok (.isub, 1) := by decide +kernel
theorem dX6_turned_41 : decode cX6_turned 41 = .ok (.iaload, 1) := by decide +kernel
theorem dX6_turned_42 : decode cX6_turned 42 = .ok (.iastore, 1) := by decide +kernel
theorem dX6_turned_43 : decode cX6_turned 43 = .ok (.iinc 2 1, 3) := by decide +kernel
theorem dX6_turned_46 : decode cX6_turned 46 = .ok (.goto (-39), 3) := by decide +kernel
theorem dX6_turned_49 : decode cX6_turned 49 = .ok (.aload_n 1, 1) := by decide +kernel
theorem dX6_turned_50 : decode cX6_turned 50 = .ok (.invokestatic 223, 3) := by decide +kernel
theorem dX6_turned_53 : decode cX6_turned 53 = .ok (.ireturn, 1) := by decide +kernel
theorem dX6_shift_0 : decode cX6_shift 0 = .ok (.iconst 0, 1) := by decide +kernel
theorem dX6_shift_1 : decode cX6_shift 1 = .ok (.istore_n 1, 1) := by decide +kernel
theorem dX6_shift_2 : decode cX6_shift 2 = .ok (.iload_n 1, 1) := by decide +kernel
theorem dX6_shift_3 : decode cX6_shift 3 = .ok (.bipush 60, 2) := by decide +kernel
theorem dX6_shift_5 : decode cX6_shift 5 = .ok (.if_icmp .gt 74, 3) := by decide +kernel
theorem dX6_shift_8 : decode cX6_shift 8 = .ok (.aload_n 0, 1) := by decide +kernel
theorem dX6_shift_9 : decode cX6_shift 9 = .ok (.invokevirtual 80, 3) := by decide +kernel
theorem dX6_shift_12 : decode cX6_shift 12 = .ok (.astore_n 2, 1) := by decide +kernel
theorem dX6_shift_13 : decode cX6_shift 13 = .ok (.iconst 0, 1) := by decide +kernel
theorem dX6_shift_14 : decode cX6_shift 14 = .ok (.istore_n 3, 1) := by decide +kernel
theorem dX6_shift_15 : decode cX6_shift 15 = .ok (.iload_n 3, 1) := by decide +kernel
theorem dX6_shift_16 : decode cX6_shift 16 = .ok (.aload_n 0, 1) := by decide +kernel
theorem dX6_shift_17 : decode cX6_shift 17 = .ok (.getfield 10, 3) := by decide +kernel
theorem dX6_shift_20 : decode cX6_shift 20 = .ok (.getfield 148, 3) := by decide +kernel
theorem dX6_shift_23 : decode cX6_shift 23 = .ok (.if_icmp .ge 30, 3) := by decide +kernel
theorem dX6_shift_26 : decode cX6_shift 26 = .ok (.aload_n 0, 1) := by decide +kernel
theorem dX6_shift_27 : decode cX6_shift 27 = .ok (.getfield 10, 3) := by decide +kernel
theorem dX6_shift_30 : decode cX6_shift 30 = .ok (.iload_n 3, 1) := by decide +kernel
theorem dX6_shift_31 : decode cX6_shift 31 = .ok (.invokevirtual 107, 3) := by decide +kernel
theorem dX6_shift_34 : decode cX6_shift 34 = .ok (.ifCond .ne 13, 3) := by decide +kernel
theorem dX6_shift_37 : decode cX6_shift 37 = .ok (.aload_n 2, 1) := by decide +kernel
theorem dX6_shift_38 : decode cX6_shift 38 = .ok (.getfield 104, 3) := by decide +kernel
theorem dX6_shift_41 : decode cX6_shift 41 = .ok (.iload_n 3, 1) := by decide +kernel
theorem dX6_shift_42 : decode cX6_shift 42 = .ok (.dup2, 1) := by decide +kernel
theorem dX6_shift_43 : decode cX6_shift 43 = .ok (.iaload, 1) := by decide +kernel
theorem dX6_shift_44 : decode cX6_shift 44 = .ok (.iload_n 1, 1) := by decide +kernel
theorem dX6_shift_45 : decode cX6_shift 45 = .ok (.iadd, 1) := by decide +kernel
theorem dX6_shift_46 : decode cX6_shift 46 = .ok (.iastore, 1) := by decide +kernel
theorem dX6_shift_47 : decode cX6_shift 47 = .ok (.iinc 3 1, 3) := by decide +kernel
theorem dX6_shift_50 : decode cX6_shift 50 = .ok (.goto (-35), 3) := by decide +kernel
theorem dX6_shift_53 : decode cX6_shift 53 = .ok (.aload_n 2, 1) := by decide +kernel
theorem dX6_shift_54 : decode cX6_shift 54 = .ok (.invokevirtual 226, 3) := by decide +kernel
theorem dX6_shift_57 : decode cX6_shift 57 = .ok (.aload_n 2, 1) := by decide +kernel
theorem dX6_shift_58 : decode cX6_shift 58 = .ok (.invokevirtual 200, 3) := by decide +kernel
theorem dX6_shift_61 : decode cX6_shift 61 = .ok (.aload_n 0, 1) := by decide +kernel
theorem dX6_shift_62 : decode cX6_shift 62 = .ok (.getfield 10, 3) := by decide +kernel
theorem dX6_shift_65 : decode cX6_shift 65 = .ok (.invokevirtual 300, 3) := by decide +kernel
theorem dX6_shift_68 : decode cX6_shift 68 = .ok (.if_icmp .ne 5, 3) := by decide +kernel
theorem dX6_shift_71 : decode cX6_shift 71 = .ok (.iload_n 1, 1) := by decide +kernel
theorem dX6_shift_72 : decode cX6_shift 72 = .ok (.ireturn, 1) := by decide +kernel
theorem dX6_shift_73 : decode cX6_shift 73 = .ok (.iinc 1 1, 3) := by decide +kernel
theorem dX6_shift_76 : decode cX6_shift 76 = .ok (.goto (-74), 3) := by decide +kernel
theorem dX6_shift_79 : decode cX6_shift 79 = .ok (.bipush (-9), 2) := by decide +kernel
theorem dX6_shift_81 : decode cX6_shift 81 = .ok (.ireturn, 1) := by decide +kernel
theorem dX6_row_0 : decode cX6_row 0 = .ok (.iload_n 1, 1) := by decide +kernel
theorem dX6_row_1 : decode cX6_row 1 = .ok (.ifCond .ge 10, 3) := by decide +kernel
theorem dX6_row_4 : decode cX6_row 4 = .ok (.aload_n 0, 1) := by decide +kernel
theorem dX6_row_5 : decode cX6_row 5 = .ok (.bipush (-4), 2) := by decide +kernel
theorem dX6_row_7 : decode cX6_row 7 = .ok (.invokevirtual 65, 3) := by decide +kernel
theorem dX6_row_10 : decode cX6_row 10 = .ok (.ireturn, 1) := by decide +kernel
theorem dX6_row_11 : decode cX6_row 11 = .ok (.iload_n 1, 1) := by decide +kernel
theorem dX6_row_12 : decode cX6_row 12 = .ok (.sipush 999, 3) := by decide +kernel
theorem dX6_row_15 : decode cX6_row 15 = .ok (.if_icmp .gt 12, 3) := by decide +kernel
theorem dX6_row_18 : decode cX6_row 18 = .ok (.aload_n 0, 1) := by decide +kernel
theorem dX6_row_19 : decode cX6_row 19 = .ok (.getfield 58, 3) := by decide +kernel
theorem dX6_row_22 : decode cX6_row 22 = .ok (.bipush 12, 2) := by decide +kernel
theorem dX6_row_24 : decode cX6_row 24 = .ok (.if_icmp .lt 10, 3) := by decide +kernel
theorem dX6_row_27 : decode cX6_row 27 = .ok (.aload_n 0, 1) := by decide +kernel
theorem dX6_row_28 : decode cX6_row 28 = .ok (.bipush (-6), 2) := by decide +kernel
theorem dX6_row_30 : decode cX6_row 30 = .ok (.invokevirtual 65, 3) := by decide +kernel
theorem dX6_row_33 : decode cX6_row 33 = .ok (.ireturn, 1) := by decide +kernel
theorem dX6_row_34 : decode cX6_row 34 = .ok (.aload_n 0, 1) := by decide +kernel
theorem dX6_row_35 : decode cX6_row 35 = .ok (.getfield 54, 3) := by decide +kernel
theorem dX6_row_38 : decode cX6_row 38 = .ok (.aload_n 0, 1) := by decide +kernel
theorem dX6_row_39 : decode cX6_row 39 = .ok (.getfield 58, 3) := by decide +kernel
theorem dX6_row_42 : decode cX6_row 42 = .ok (.iload_n 1, 1) := by decide +kernel
theorem dX6_row_43 : decode cX6_row 43 = .ok (.iastore, 1) := by decide +kernel
theorem dX6_row_44 : decode cX6_row 44 = .ok (.aload_n 0, 1) := by decide +kernel
theorem dX6_row_45 : decode cX6_row 45 = .ok (.dup, 1) := by decide +kernel
theorem dX6_row_46 : decode cX6_row 46 = .ok (.getfield 58, 3) := by decide +kernel
theorem dX6_row_49 : decode cX6_row 49 = .ok (.iconst 1, 1) := by decide +kernel
theorem dX6_row_50 : decode cX6_row 50 = .ok (.iadd, 1) := by decide +kernel
theorem dX6_row_51 : decode cX6_row 51 = .ok (.putfield 58, 3) := by decide +kernel
theorem dX6_row_54 : decode cX6_row 54 = .ok (.aload_n 0, 1) := by decide +kernel
theorem dX6_row_55 : decode cX6_row 55 = .ok (.getfield 58, 3) := by decide +kernel
theorem dX6_row_58 : decode cX6_row 58 = .ok (.ireturn, 1) := by decide +kernel
theorem dX6_judge_0 : decode cX6_judge 0 = .ok (.aload_n 0, 1) := by decide +kernel
theorem dX6_judge_1 : decode cX6_judge 1 = .ok (.invokevirtual 184, 3) := by decide +kernel
theorem dX6_judge_4 : decode cX6_judge 4 = .ok (.astore_n 1, 1) := by decide +kernel
theorem dX6_judge_5 : decode cX6_judge 5 = .ok (.bipush (-9), 2) := by decide +kernel
theorem dX6_judge_7 : decode cX6_judge 7 = .ok (.istore_n 2, 1) := by decide +kernel
theorem dX6_judge_8 : decode cX6_judge 8 = .ok (.iconst 0, 1) := by decide +kernel
theorem dX6_judge_9 : decode cX6_judge 9 = .ok (.istore_n 3, 1) := by decide +kernel
theorem dX6_judge_10 : decode cX6_judge 10 = .ok (.iload_n 3, 1) := by decide +kernel
theorem dX6_judge_11 : decode cX6_judge 11 = .ok (.aload_n 0, 1) := by decide +kernel
theorem dX6_judge_12 : decode cX6_judge 12 = .ok (.getfield 58, 3) := by decide +kernel
theorem dX6_judge_15 : decode cX6_judge 15 = .ok (.if_icmp .ge 40, 3) := by decide +kernel
theorem dX6_judge_18 : decode cX6_judge 18 = .ok (.iload_n 2, 1) := by decide +kernel
theorem dX6_judge_19 : decode cX6_judge 19 = .ok (.bipush (-9), 2) := by decide +kernel
theorem dX6_judge_21 : decode cX6_judge 21 = .ok (.if_icmp .ne 34, 3) := by decide +kernel
theorem dX6_judge_24 : decode cX6_judge 24 = .ok (.aload_n 1, 1) := by decide +kernel
theorem dX6_judge_25 : decode cX6_judge 25 = .ok (.iload_n 3, 1) := by decide +kernel
theorem dX6_judge_26 : decode cX6_judge 26 = .ok (.invokevirtual 95, 3) := by decide +kernel
theorem dX6_judge_29 : decode cX6_judge 29 = .ok (.ifCond .eq 18, 3) := by decide +kernel
theorem dX6_judge_32 : decode cX6_judge 32 = .ok (.aload_n 1, 1) := by decide +kernel
theorem dX6_judge_33 : decode cX6_judge 33 = .ok (.getfield 187, 3) := by decide +kernel
theorem dX6_judge_36 : decode cX6_judge 36 = .ok (.iload_n 3, 1) := by decide +kernel
theorem dX6_judge_37 : decode cX6_judge 37 = .ok (.iaload, 1) := by decide +kernel
theorem dX6_judge_38 : decode cX6_judge 38 = .ok (.aload_n 0, 1) := by decide +kernel
theorem dX6_judge_39 : decode cX6_judge 39 = .ok (.getfield 54, 3) := by decide +kernel
theorem dX6_judge_42 : decode cX6_judge 42 = .ok (.iload_n 3, 1) := by decide +kernel
theorem dX6_judge_43 : decode cX6_judge 43 = .ok (.iaload, 1) := by decide +kernel
theorem dX6_judge_44 : decode cX6_judge 44 = .ok (.if_icmp .eq 5, 3) := by decide +kernel
theorem dX6_judge_47 : decode cX6_judge 47 = .ok (.iload_n 3, 1) := by decide +kernel
theorem dX6_judge_48 : decode cX6_judge 48 = .ok (.istore_n 2, 1) := by decide +kernel
theorem dX6_judge_49 : decode cX6_judge 49 = .ok (.iinc 3 1, 3) := by decide +kernel
theorem dX6_judge_52 : decode cX6_judge 52 = .ok (.goto (-42), 3) := by decide +kernel
theorem dX6_judge_55 : decode cX6_judge 55 = .ok (.aload_n 0, 1) := by decide +kernel
theorem dX6_judge_56 : decode cX6_judge 56 = .ok (.iconst 0, 1) := by decide +kernel
theorem dX6_judge_57 : decode cX6_judge 57 = .ok (.putfield 58, 3) := by decide +kernel
theorem dX6_judge_60 : decode cX6_judge 60 = .ok (.iload_n 2, 1) := by decide +kernel
theorem dX6_judge_61 : decode cX6_judge 61 = .ok (.ireturn, 1) := by decide +kernel
theorem dX6_clear_0 : decode cX6_clear 0 = .ok (.aload_n 0, 1) := by decide +kernel
theorem dX6_clear_1 : decode cX6_clear 1 = .ok (.getfield 58, 3) := by decide +kernel
theorem dX6_clear_4 : decode cX6_clear 4 = .ok (.istore_n 1, 1) := by decide +kernel
theorem dX6_clear_5 : decode cX6_clear 5 = .ok (.aload_n 0, 1) := by decide +kernel
theorem dX6_clear_6 : decode cX6_clear 6 = .ok (.iconst 0, 1) := by decide +kernel
theorem dX6_clear_7 : decode cX6_clear 7 = .ok (.putfield 58, 3) := by decide +kernel
theorem dX6_clear_10 : decode cX6_clear 10 = .ok (.iload_n 1, 1) := by decide +kernel
theorem dX6_clear_11 : decode cX6_clear 11 = .ok (.ireturn, 1) := by decide +kernel
theorem dX6_lots_0 : decode cX6_lots 0 = .ok (.iload_n 1, 1) := by decide +kernel
theorem dX6_lots_1 : decode cX6_lots 1 = .ok (.iconst 1, 1) := by decide +kernel
theorem dX6_lots_2 : decode cX6_lots 2 = .ok (.if_icmp .ge 10, 3) := by decide +kernel
theorem dX6_lots_5 : decode cX6_lots 5 = .ok (.aload_n 0, 1) := by decide +kernel
theorem dX6_lots_6 : decode cX6_lots 6 = .ok (.bipush (-4), 2) := by decide +kernel
theorem dX6_lots_8 : decode cX6_lots 8 = .ok (.invokevirtual 65, 3) := by decide +kernel
theorem dX6_lots_11 : decode cX6_lots 11 = .ok (.ireturn, 1) := by decide +kernel
theorem dX6_lots_12 : decode cX6_lots 12 = .ok (.iload_n 1, 1) := by decide +kernel
theorem dX6_lots_13 : decode cX6_lots 13 = .ok (.bipush 20, 2) := by decide +kernel
theorem dX6_lots_15 : decode cX6_lots 15 = .ok (.if_icmp .le 10, 3) := by decide +kernel
theorem dX6_lots_18 : decode cX6_lots 18 = .ok (.aload_n 0, 1) := by decide +kernel
theorem dX6_lots_19 : decode cX6_lots 19 = .ok (.bipush (-6), 2) := by decide +kernel
theorem dX6_lots_21 : decode cX6_lots 21 = .ok (.invokevirtual 65, 3) := by decide +kernel
theorem dX6_lots_24 : decode cX6_lots 24 = .ok (.ireturn, 1) := by decide +kernel
theorem dX6_lots_25 : decode cX6_lots 25 = .ok (.iload_n 3, 1) := by decide +kernel
theorem dX6_lots_26 : decode cX6_lots 26 = .ok (.ifCond .eq 15, 3) := by decide +kernel
theorem dX6_lots_29 : decode cX6_lots 29 = .ok (.iload_n 3, 1) := by decide +kernel
theorem dX6_lots_30 : decode cX6_lots 30 = .ok (.iconst 1, 1) := by decide +kernel
theorem dX6_lots_31 : decode cX6_lots 31 = .ok (.if_icmp .eq 10, 3) := by decide +kernel
theorem dX6_lots_34 : decode cX6_lots 34 = .ok (.aload_n 0, 1) := by decide +kernel
theorem dX6_lots_35 : decode cX6_lots 35 = .ok (.bipush (-2), 2) := by decide +kernel
theorem dX6_lots_37 : decode cX6_lots 37 = .ok (.invokevirtual 65, 3) := by decide +kernel
theorem dX6_lots_40 : decode cX6_lots 40 = .ok (.ireturn, 1) := by decide +kernel
theorem dX6_lots_41 : decode cX6_lots 41 = .ok (.iconst 0, 1) := by decide +kernel
theorem dX6_lots_42 : decode cX6_lots 42 = .ok (.istore 4, 2) := by decide +kernel
theorem dX6_lots_44 : decode cX6_lots 44 = .ok (.iload_n 2, 1) := by decide +kernel
theorem dX6_lots_45 : decode cX6_lots 45 = .ok (.istore 5, 2) := by decide +kernel
theorem dX6_lots_47 : decode cX6_lots 47 = .ok (.iconst 0, 1) := by decide +kernel
theorem dX6_lots_48 : decode cX6_lots 48 = .ok (.istore 6, 2) := by decide +kernel
theorem dX6_lots_50 : decode cX6_lots 50 = .ok (.iload 6, 2) := by decide +kernel
theorem dX6_lots_52 : decode cX6_lots 52 = .ok (.iload_n 1, 1) := by decide +kernel
theorem dX6_lots_53 : decode cX6_lots 53 = .ok (.if_icmp .ge 108, 3) := by decide +kernel
theorem dX6_lots_56 : decode cX6_lots 56 = .ok (.aload_n 0, 1) := by decide +kernel
theorem dX6_lots_57 : decode cX6_lots 57 = .ok (.invokevirtual 80, 3) := by decide +kernel
theorem dX6_lots_60 : decode cX6_lots 60 = .ok (.astore 7, 2) := by decide +kernel
theorem dX6_lots_62 : decode cX6_lots 62 = .ok (.iconst 0, 1) := by decide +kernel
theorem dX6_lots_63 : decode cX6_lots 63 = .ok (.istore 8, 2) := by decide +kernel
theorem dX6_lots_65 : decode cX6_lots 65 = .ok (.iload 8, 2) := by decide +kernel
theorem dX6_lots_67 : decode cX6_lots 67 = .ok (.aload_n 0, 1) := by decide +kernel
theorem dX6_lots_68 : decode cX6_lots 68 = .ok (.getfield 10, 3) := by decide +kernel
theorem dX6_lots_71 : decode cX6_lots 71 = .ok (.getfield 148, 3) := by decide +kernel
theorem dX6_lots_74 : decode cX6_lots 74 = .ok (.if_icmp .ge 54, 3) := by decide +kernel
theorem dX6_lots_77 : decode cX6_lots 77 = .ok (.aload_n 0, 1) := by decide +kernel
theorem dX6_lots_78 : decode cX6_lots 78 = .ok (.getfield 10, 3) := by decide +kernel
theorem dX6_lots_81 : decode cX6_lots 81 = .ok (.iload 8, 2) := by decide +kernel
theorem dX6_lots_83 : decode cX6_lots 83 = .ok (.invokevirtual 107, 3) := by decide +kernel
theorem dX6_lots_86 : decode cX6_lots 86 = .ok (.ifCond .ne 36, 3) := by decide +kernel
theorem dX6_lots_89 : decode cX6_lots 89 = .ok (.iload 5, 2) := by decide +kernel
theorem dX6_lots_91 : decode cX6_lots 91 = .ok (.ldc_w 303, 3) := by decide +kernel
theorem dX6_lots_94 : decode cX6_lots 94 = .ok (.imul, 1) := by decide +kernel
theorem dX6_lots_95 : decode cX6_lots 95 = .ok (.sipush 12345, 3) := by decide +kernel
theorem dX6_lots_98 : decode cX6_lots 98 = .ok (.iadd, 1) := by decide +kernel
theorem dX6_lots_99 : decode cX6_lots 99 = .ok (.istore 5, 2) := by decide +kernel
theorem dX6_lots_101 : decode cX6_lots 101 = .ok (.aload 7, 2) := by decide +kernel
theorem dX6_lots_103 : decode cX6_lots 103 = .ok (.getfield 101, 3) := by decide +kernel
theorem dX6_lots_106 : decode cX6_lots 106 = .ok (.iload 8, 2) := by decide +kernel
theorem dX6_lots_108 : decode cX6_lots 108 = .ok (.iload 5, 2) := by decide +kernel
theorem dX6_lots_110 : decode cX6_lots 110 = .ok (.ldc_w 304, 3) := by decide +kernel
theorem dX6_lots_113 : decode cX6_lots 113 = .ok (.iand, 1) := by decide +kernel
theorem dX6_lots_114 : decode cX6_lots 114 = .ok (.ldc_w 305, 3) := by decide +kernel
theorem dX6_lots_117 : decode cX6_lots 117 = .ok (.idiv, 1) := by decide +kernel
theorem dX6_lots_118 : decode cX6_lots 118 = .ok (.bipush 10, 2) := by decide +kernel
theorem dX6_lots_120 : decode cX6_lots 120 = .ok (.irem, 1) := by decide +kernel
theorem dX6_lots_121 : decode cX6_lots 121 = .ok (.iastore, 1) := by decide +kernel
theorem dX6_lots_122 : decode cX6_lots 122 = .ok (.iinc 8 1, 3) := by decide +kernel
theorem dX6_lots_125 : decode cX6_lots 125 = .ok (.goto (-60), 3) := by decide +kernel
theorem dX6_lots_128 : decode cX6_lots 128 = .ok (.aload 7, 2) := by decide +kernel
theorem dX6_lots_130 : decode cX6_lots 130 = .ok (.invokevirtual 226, 3) := by decide +kernel
theorem dX6_lots_133 : decode cX6_lots 133 = .ok (.iload 4, 2) := by decide +kernel
theorem dX6_lots_135 : decode cX6_lots 135 = .ok (.iload_n 3, 1) := by decide +kernel
theorem dX6_lots_136 : decode cX6_lots 136 = .ok (.ifCond .ne 11, 3) := by decide +kernel
theorem dX6_lots_139 : decode cX6_lots 139 = .ok (.aload 7, 2) := by decide +kernel
theorem dX6_lots_141 : decode cX6_lots 141 = .ok (.invokevirtual 200, 3) := by decide +kernel
theorem dX6_lots_144 : decode cX6_lots 144 = .ok (.goto 8, 3) := by decide +kernel
theorem dX6_lots_147 : decode cX6_lots 147 = .ok (.aload 7, 2) := by decide +kernel
theorem dX6_lots_149 : decode cX6_lots 149 = .ok (.invokevirtual 206, 3) := by decide +kernel
theorem dX6_lots_152 : decode cX6_lots 152 = .ok (.iadd, 1) := by decide +kernel
theorem dX6_lots_153 : decode cX6_lots 153 = .ok (.istore 4, 2) := by decide +kernel
theorem dX6_lots_155 : decode cX6_lots 155 = .ok (.iinc 6 1, 3) := by decide +kernel
theorem dX6_lots_158 : decode cX6_lots 158 = .ok (.goto (-108), 3) := by decide +kernel
theorem dX6_lots_161 : decode cX6_lots 161 = .ok (.iload 4, 2) := by decide +kernel
theorem dX6_lots_163 : decode cX6_lots 163 = .ok (.ireturn, 1) := by decide +kernel
theorem dX6_image_0 : decode cX6_image 0 = .ok (.aload_n 0, 1) := by decide +kernel
theorem dX6_image_1 : decode cX6_image 1 = .ok (.getfield 19, 3) := by decide +kernel
theorem dX6_image_4 : decode cX6_image 4 = .ok (.aload_n 0, 1) := by decide +kernel
theorem dX6_image_5 : decode cX6_image 5 = .ok (.getfield 10, 3) := by decide +kernel
theorem dX6_image_8 : decode cX6_image 8 = .ok (.invokevirtual 88, 3) := by decide +kernel
theorem dX6_image_11 : decode cX6_image 11 = .ok (.aload_n 0, 1) := by decide +kernel
theorem dX6_image_12 : decode cX6_image 12 = .ok (.iconst 1, 1) := by decide +kernel
theorem dX6_image_13 : decode cX6_image 13 = .ok (.putfield 22, 3) := by decide +kernel
theorem dX6_image_16 : decode cX6_image 16 = .ok (.aload_n 0, 1) := by decide +kernel
theorem dX6_image_17 : decode cX6_image 17 = .ok (.getfield 10, 3) := by decide +kernel
theorem dX6_image_20 : decode cX6_image 20 = .ok (.getfield 125, 3) := by decide +kernel
theorem dX6_image_23 : decode cX6_image 23 = .ok (.ireturn, 1) := by decide +kernel
theorem dX6_restore_0 : decode cX6_restore 0 = .ok (.aload_n 0, 1) := by decide +kernel
theorem dX6_restore_1 : decode cX6_restore 1 = .ok (.getfield 22, 3) := by decide +kernel
theorem dX6_restore_4 : decode cX6_restore 4 = .ok (.ifCond .ne 10, 3) := by decide +kernel
theorem dX6_restore_7 : decode cX6_restore 7 = .ok (.aload_n 0, 1) := by decide +kernel
theorem dX6_restore_8 : decode cX6_restore 8 = .ok (.bipush (-3), 2) := by decide +kernel
theorem dX6_restore_10 : decode cX6_restore 10 = .ok (.invokevirtual 65, 3) := by decide +kernel
theorem dX6_restore_13 : decode cX6_restore 13 = .ok (.ireturn, 1) := by decide +kernel
theorem dX6_restore_14 : decode cX6_restore 14 = .ok (.aload_n 0, 1) := by decide +kernel
theorem dX6_restore_15 : decode cX6_restore 15 = .ok (.getfield 10, 3) := by decide +kernel
theorem dX6_restore_18 : decode cX6_restore 18 = .ok (.aload_n 0, 1) := by decide +kernel
theorem dX6_restore_19 : decode cX6_restore 19 = .ok (.getfield 19, 3) := by decide +kernel
theorem dX6_restore_22 : decode cX6_restore 22 = .ok (.invokevirtual 88, 3) := by decide +kernel
theorem dX6_restore_25 : decode cX6_restore 25 = .ok (.aload_n 0, 1) := by decide +kernel
theorem dX6_restore_26 : decode cX6_restore 26 = .ok (.getfield 29, 3) := by decide +kernel
theorem dX6_restore_29 : decode cX6_restore 29 = .ok (.invokevirtual 92, 3) := by decide +kernel
theorem dX6_restore_32 : decode cX6_restore 32 = .ok (.aload_n 0, 1) := by decide +kernel
theorem dX6_restore_33 : decode cX6_restore 33 = .ok (.getfield 10, 3) := by decide +kernel
theorem dX6_restore_36 : decode cX6_restore 36 = .ok (.getfield 125, 3) := by decide +kernel
theorem dX6_restore_39 : decode cX6_restore 39 = .ok (.ireturn, 1) := by decide +kernel
theorem dX6_count_0 : decode cX6_count 0 = .ok (.iload_n 1, 1) := by decide +kernel
theorem dX6_count_1 : decode cX6_count 1 = .ok (.tableswitch 120 0 8 #[51, 59, 67, 75, 83, 91, 99, 107, 112], 51) := by decide +kernel
theorem dX6_count_52 : decode cX6_count 52 = .ok (.aload_n 0, 1) := by decide +kernel
theorem dX6_count_53 : decode cX6_count 53 = .ok (.getfield 10, 3) := by decide +kernel
theorem dX6_count_56 : decode cX6_count 56 = .ok (.getfield 148, 3) := by decide +kernel
theorem dX6_count_59 : decode cX6_count 59 = .ok (.ireturn, 1) := by decide +kernel
theorem dX6_count_60 : decode cX6_count 60 = .ok (.aload_n 0, 1) := by decide +kernel
theorem dX6_count_61 : decode cX6_count 61 = .ok (.getfield 10, 3) := by decide +kernel
theorem dX6_count_64 : decode cX6_count 64 = .ok (.getfield 125, 3) := by decide +kernel
theorem dX6_count_67 : decode cX6_count 67 = .ok (.ireturn, 1) := by decide +kernel
theorem dX6_count_68 : decode cX6_count 68 = .ok (.aload_n 0, 1) := by decide +kernel
theorem dX6_count_69 : decode cX6_count 69 = .ok (.getfield 10, 3) := by decide +kernel
theorem dX6_count_72 : decode cX6_count 72 = .ok (.getfield 306, 3) := by decide +kernel
theorem dX6_count_75 : decode cX6_count 75 = .ok (.ireturn, 1) := by decide +kernel
theorem dX6_count_76 : decode cX6_count 76 = .ok (.aload_n 0, 1) := by decide +kernel
theorem dX6_count_77 : decode cX6_count 77 = .ok (.getfield 10, 3) := by decide +kernel
theorem dX6_count_80 : decode cX6_count 80 = .ok (.getfield 131, 3) := by decide +kernel
theorem dX6_count_83 : decode cX6_count 83 = .ok (.ireturn, 1) := by decide +kernel
theorem dX6_count_84 : decode cX6_count 84 = .ok (.aload_n 0, 1) := by decide +kernel
theorem dX6_count_85 : decode cX6_count 85 = .ok (.getfield 10, 3) := by decide +kernel
theorem dX6_count_88 : decode cX6_count 88 = .ok (.getfield 173, 3) := by decide +kernel
theorem dX6_count_91 : decode cX6_count 91 = .ok (.ireturn, 1) := by decide +kernel
theorem dX6_count_92 : decode cX6_count 92 = .ok (.aload_n 0, 1) := by decide +kernel
theorem dX6_count_93 : decode cX6_count 93 = .ok (.getfield 10, 3) := by decide +kernel
theorem dX6_count_96 : decode cX6_count 96 = .ok (.getfield 170, 3) := by decide +kernel
theorem dX6_count_99 : decode cX6_count 99 = .ok (.ireturn, 1) := by decide +kernel
theorem dX6_count_100 : decode cX6_count 100 = .ok (.aload_n 0, 1) := by decide +kernel
theorem dX6_count_101 : decode cX6_count 101 = .ok (.getfield 36, 3) := by decide +kernel
theorem dX6_count_104 : decode cX6_count 104 = .ok (.getfield 73, 3) := by decide +kernel
theorem dX6_count_107 : decode cX6_count 107 = .ok (.ireturn, 1) := by decide +kernel
theorem dX6_count_108 : decode cX6_count 108 = .ok (.aload_n 0, 1) := by decide +kernel
theorem dX6_count_109 : decode cX6_count 109 = .ok (.getfield 58, 3) := by decide +kernel
theorem dX6_count_112 : decode cX6_count 112 = .ok (.ireturn, 1) := by decide +kernel
theorem dX6_count_113 : decode cX6_count 113 = .ok (.aload_n 0, 1) := by decide +kernel
theorem dX6_count_114 : decode cX6_count 114 = .ok (.getfield 29, 3) := by decide +kernel
theorem dX6_count_117 : decode cX6_count 117 = .ok (.getfield 183, 3) := by decide +kernel
theorem dX6_count_120 : decode cX6_count 120 = .ok (.ireturn, 1) := by decide +kernel
theorem dX6_count_121 : decode cX6_count 121 = .ok (.iload_n 1, 1) := by decide +kernel
theorem dX6_count_122 : decode cX6_count 122 = .ok (.bipush 11, 2) := by decide +kernel
theorem dX6_count_124 : decode cX6_count 124 = .ok (.if_icmp .lt 21, 3) := by decide +kernel
theorem dX6_count_127 : decode cX6_count 127 = .ok (.iload_n 1, 1) := by decide +kernel
theorem dX6_count_128 : decode cX6_count 128 = .ok (.bipush 16, 2) := by decide +kernel
theorem dX6_count_130 : decode cX6_count 130 = .ok (.if_icmp .gt 15, 3) := by decide +kernel
theorem dX6_count_133 : decode cX6_count 133 = .ok (.aload_n 0, 1) := by decide +kernel
theorem dX6_count_134 : decode cX6_count 134 = .ok (.getfield 62, 3) := by decide +kernel
theorem dX6_count_137 : decode cX6_count 137 = .ok (.iload_n 1, 1) := by decide +kernel
theorem dX6_count_138 : decode cX6_count 138 = .ok (.bipush 10, 2) := by decide +kernel
theorem dX6_count_140 : decode cX6_count 140 = .ok (.isub, 1) := by decide +kernel
theorem dX6_count_141 : decode cX6_count 141 = .ok (.iaload, 1) := by decide +kernel
theorem dX6_count_142 : decode cX6_count 142 = .ok (.goto 5, 3) := by decide +kernel
theorem dX6_count_145 : decode cX6_count 145 = .ok (.bipush (-9), 2) := by decide +kernel
theorem dX6_count_147 : decode cX6_count 147 = .ok (.ireturn, 1) := by decide +kernel
theorem dX6_refused_0 : decode cX6_refused 0 = .ok (.iload_n 1, 1) := by decide +kernel
theorem dX6_refused_1 : decode cX6_refused 1 = .ok (.ineg, 1) := by decide +kernel
theorem dX6_refused_2 : decode cX6_refused 2 = .ok (.istore_n 2, 1) := by decide +kernel
theorem dX6_refused_3 : decode cX6_refused 3 = .ok (.iload_n 2, 1) := by decide +kernel
theorem dX6_refused_4 : decode cX6_refused 4 = .ok (.ifCond .lt 22, 3) := by decide +kernel
theorem dX6_refused_7 : decode cX6_refused 7 = .ok (.iload_n 2, 1) := by decide +kernel
theorem dX6_refused_8 : decode cX6_refused 8 = .ok (.aload_n 0, 1) := by decide +kernel
theorem dX6_refused_9 : decode cX6_refused 9 = .ok (.getfield 62, 3) := by decide +kernel
theorem dX6_refused_12 : decode cX6_refused 12 = .ok (.arraylength, 1) := by decide +kernel
theorem dX6_refused_13 : decode cX6_refused 13 = .ok (.if_icmp .ge 13, 3) := by decide +kernel
theorem dX6_refused_16 : decode cX6_refused 16 = .ok (.aload_n 0, 1) := by decide +kernel
theorem dX6_refused_17 : decode cX6_refused 17 = .ok (.getfield 62, 3) := by decide +kernel
theorem dX6_refused_20 : decode cX6_refused 20 = .ok (.iload_n 2, 1) := by decide +kernel
theorem dX6_refused_21 : decode cX6_refused 21 = .ok (.dup2, 1) := by decide +kernel
theorem dX6_refused_22 : decode cX6_refused 22 = .ok (.iaload, 1) := by decide +kernel
theorem dX6_refused_23 : decode cX6_refused 23 = .ok (.iconst 1, 1) := by decide +kernel
theorem dX6_refused_24 : decode cX6_refused 24 = .ok (.iadd, 1) := by decide +kernel
theorem dX6_refused_25 : decode cX6_refused 25 = .ok (.iastore, 1) := by decide +kernel
theorem dX6_refused_26 : decode cX6_refused 26 = .ok (.iload_n 1, 1) := by decide +kernel
theorem dX6_refused_27 : decode cX6_refused 27 = .ok (.ireturn, 1) := by decide +kernel
theorem dX6_asNow_0 : decode cX6_asNow 0 = .ok (.aload_n 0, 1) := by decide +kernel
theorem dX6_asNow_1 : decode cX6_asNow 1 = .ok (.getfield 16, 3) := by decide +kernel
theorem dX6_asNow_4 : decode cX6_asNow 4 = .ok (.aload_n 0, 1) := by decide +kernel
theorem dX6_asNow_5 : decode cX6_asNow 5 = .ok (.getfield 10, 3) := by decide +kernel
theorem dX6_asNow_8 : decode cX6_asNow 8 = .ok (.invokevirtual 88, 3) := by decide +kernel
theorem dX6_asNow_11 : decode cX6_asNow 11 = .ok (.aload_n 0, 1) := by decide +kernel
theorem dX6_asNow_12 : decode cX6_asNow 12 = .ok (.getfield 16, 3) := by decide +kernel
theorem dX6_asNow_15 : decode cX6_asNow 15 = .ok (.areturn, 1) := by decide +kernel
theorem dX6_inMind_0 : decode cX6_inMind 0 = .ok (.aload_n 0, 1) := by decide +kernel
theorem dX6_inMind_1 : decode cX6_inMind 1 = .ok (.invokevirtual 80, 3) := by decide +kernel
theorem dX6_inMind_4 : decode cX6_inMind 4 = .ok (.astore_n 1, 1) := by decide +kernel
theorem dX6_inMind_5 : decode cX6_inMind 5 = .ok (.aload_n 1, 1) := by decide +kernel
theorem dX6_inMind_6 : decode cX6_inMind 6 = .ok (.invokevirtual 226, 3) := by decide +kernel
theorem dX6_inMind_9 : decode cX6_inMind 9 = .ok (.aload_n 1, 1) := by decide +kernel
theorem dX6_inMind_10 : decode cX6_inMind 10 = .ok (.areturn, 1) := by decide +kernel
theorem dX6_lateBy_0 : decode cX6_lateBy 0 = .ok (.aload_n 0, 1) := by decide +kernel
theorem dX6_lateBy_1 : decode cX6_lateBy 1 = .ok (.invokevirtual 226, 3) := by decide +kernel
theorem dX6_lateBy_4 : decode cX6_lateBy 4 = .ok (.aload_n 0, 1) := by decide +kernel
theorem dX6_lateBy_5 : decode cX6_lateBy 5 = .ok (.invokevirtual 200, 3) := by decide +kernel
theorem dX6_lateBy_8 : decode cX6_lateBy 8 = .ok (.ireturn, 1) := by decide +kernel
theorem dX6_askedBy_0 : decode cX6_askedBy 0 = .ok (.aload_n 0, 1) := by decide +kernel
theorem dX6_askedBy_1 : decode cX6_askedBy 1 = .ok (.invokevirtual 80, 3) := by decide +kernel
theorem dX6_askedBy_4 : decode cX6_askedBy 4 = .ok (.astore 5, 2) := by decide +kernel
theorem dX6_askedBy_6 : decode cX6_askedBy 6 = .ok (.iload 4, 2) := by decide +kernel
theorem dX6_askedBy_8 : decode cX6_askedBy 8 = .ok (.iconst 1, 1) := by decide +kernel
theorem dX6_askedBy_9 : decode cX6_askedBy 9 = .ok (.if_icmp .ne 9, 3) := by decide +kernel
theorem dX6_askedBy_12 : decode cX6_askedBy 12 = .ok (.aload 5, 2) := by decide +kernel
theorem dX6_askedBy_14 : decode cX6_askedBy 14 = .ok (.iload_n 2, 1) := by decide +kernel
theorem dX6_askedBy_15 : decode cX6_askedBy 15 = .ok (.invokevirtual 167, 3) := by decide +kernel
theorem dX6_askedBy_18 : decode cX6_askedBy 18 = .ok (.iload_n 3, 1) := by decide +kernel
theorem dX6_askedBy_19 : decode cX6_askedBy 19 = .ok (.iconst 1, 1) := by decide +kernel
theorem dX6_askedBy_20 : decode cX6_askedBy 20 = .ok (.if_icmp .ne 9, 3) := by decide +kernel
theorem dX6_askedBy_23 : decode cX6_askedBy 23 = .ok (.aload 5, 2) := by decide +kernel
theorem dX6_askedBy_25 : decode cX6_askedBy 25 = .ok (.iload_n 1, 1) := by decide +kernel
theorem dX6_askedBy_26 : decode cX6_askedBy 26 = .ok (.invokevirtual 167, 3) := by decide +kernel
theorem dX6_askedBy_29 : decode cX6_askedBy 29 = .ok (.aload 5, 2) := by decide +kernel
theorem dX6_askedBy_31 : decode cX6_askedBy 31 = .ok (.invokevirtual 226, 3) := by decide +kernel
theorem dX6_askedBy_34 : decode cX6_askedBy 34 = .ok (.aload 5, 2) := by decide +kernel
theorem dX6_askedBy_36 : decode cX6_askedBy 36 = .ok (.areturn, 1) := by decide +kernel
theorem dX6_oneIsContent_0 : decode cX6_oneIsContent 0 = .ok (.aload_n 0, 1) := by decide +kernel
theorem dX6_oneIsContent_1 : decode cX6_oneIsContent 1 = .ok (.iload_n 1, 1) := by decide +kernel
theorem dX6_oneIsContent_2 : decode cX6_oneIsContent 2 = .ok (.iload_n 2, 1) := by decide +kernel
theorem dX6_oneIsContent_3 : decode cX6_oneIsContent 3 = .ok (.iload_n 3, 1) := by decide +kernel
theorem dX6_oneIsContent_4 : decode cX6_oneIsContent 4 = .ok (.iload 4, 2) := by decide +kernel
theorem dX6_oneIsContent_6 : decode cX6_oneIsContent 6 = .ok (.invokevirtual 309, 3) := by decide +kernel
theorem dX6_oneIsContent_9 : decode cX6_oneIsContent 9 = .ok (.iload_n 1, 1) := by decide +kernel
theorem dX6_oneIsContent_10 : decode cX6_oneIsContent 10 = .ok (.invokevirtual 193, 3) := by decide +kernel
theorem dX6_oneIsContent_13 : decode cX6_oneIsContent 13 = .ok (.iconst 4, 1) := by decide +kernel
theorem dX6_oneIsContent_14 : decode cX6_oneIsContent 14 = .ok (.iload_n 3, 1) := by decide +kernel
theorem dX6_oneIsContent_15 : decode cX6_oneIsContent 15 = .ok (.imul, 1) := by decide +kernel
theorem dX6_oneIsContent_16 : decode cX6_oneIsContent 16 = .ok (.iadd, 1) := by decide +kernel
theorem dX6_oneIsContent_17 : decode cX6_oneIsContent 17 = .ok (.istore 5, 2) := by decide +kernel
theorem dX6_oneIsContent_19 : decode cX6_oneIsContent 19 = .ok (.aload_n 0, 1) := by decide +kernel
theorem dX6_oneIsContent_20 : decode cX6_oneIsContent 20 = .ok (.iload_n 1, 1) := by decide +kernel
theorem dX6_oneIsContent_21 : decode cX6_oneIsContent 21 = .ok (.iload_n 2, 1) := by decide +kernel
theorem dX6_oneIsContent_22 : decode cX6_oneIsContent 22 = .ok (.iconst 1, 1) := by decide +kernel
theorem dX6_oneIsContent_23 : decode cX6_oneIsContent 23 = .ok (.iload_n 3, 1) := by decide +kernel
theorem dX6_oneIsContent_24 : decode cX6_oneIsContent 24 = .ok (.isub, 1) := by decide +kernel
theorem dX6_oneIsContent_25 : decode cX6_oneIsContent 25 = .ok (.iload 4, 2) := by decide +kernel
theorem dX6_oneIsContent_27 : decode cX6_oneIsContent 27 = .ok (.invokevirtual 309, 3) := by decide +kernel
theorem dX6_oneIsContent_30 : decode cX6_oneIsContent 30 = .ok (.iload_n 1, 1) := by decide +kernel
theorem dX6_oneIsContent_31 : decode cX6_oneIsContent 31 = .ok (.invokevirtual 193, 3) := by decide +kernel
theorem dX6_oneIsContent_34 : decode cX6_oneIsContent 34 = .ok (.iconst 4, 1) := by decide +kernel
theorem dX6_oneIsContent_35 : decode cX6_oneIsContent 35 = .ok (.iconst 1, 1) := by decide +kernel
theorem dX6_oneIsContent_36 : decode cX6_oneIsContent 36 = .ok (.iload_n 3, 1) := by decide +kernel
theorem dX6_oneIsContent_37 : decode cX6_oneIsContent 37 = .ok (.isub, 1) := by decide +kernel
theorem dX6_oneIsContent_38 : decode cX6_oneIsContent 38 = .ok (.imul, 1) := by decide +kernel
theorem dX6_oneIsContent_39 : decode cX6_oneIsContent 39 = .ok (.iadd, 1) := by decide +kernel
theorem dX6_oneIsContent_40 : decode cX6_oneIsContent 40 = .ok (.istore 6, 2) := by decide +kernel
theorem dX6_oneIsContent_42 : decode cX6_oneIsContent 42 = .ok (.iload 5, 2) := by decide +kernel
theorem dX6_oneIsContent_44 : decode cX6_oneIsContent 44 = .ok (.iload 6, 2) := by decide +kernel
theorem dX6_oneIsContent_46 : decode cX6_oneIsContent 46 = .ok (.if_icmp .gt 7, 3) := by decide +kernel
theorem dX6_oneIsContent_49 : decode cX6_oneIsContent 49 = .ok (.iconst 1, 1) := by decide +kernel
theorem dX6_oneIsContent_50 : decode cX6_oneIsContent 50 = .ok (.goto 4, 3) := by decide +kernel
theorem dX6_oneIsContent_53 : decode cX6_oneIsContent 53 = .ok (.iconst 0, 1) := by decide +kernel
theorem dX6_oneIsContent_54 : decode cX6_oneIsContent 54 = .ok (.ireturn, 1) := by decide +kernel
theorem dX6_otherIsContent_0 : decode cX6_otherIsContent 0 = .ok (.aload_n 0, 1) := by decide +kernel
theorem dX6_otherIsContent_1 : decode cX6_otherIsContent 1 = .ok (.iload_n 1, 1) := by decide +kernel
theorem dX6_otherIsContent_2 : decode cX6_otherIsContent 2 = .ok (.iload_n 2, 1) := by decide +kernel
theorem dX6_otherIsContent_3 : decode cX6_otherIsContent 3 = .ok (.iload_n 3, 1) := by decide +kernel
theorem dX6_otherIsContent_4 : decode cX6_otherIsContent 4 = .ok (.iload 4, 2) := by decide +kernel
theorem dX6_otherIsContent_6 : decode cX6_otherIsContent 6 = .ok (.invokevirtual 309, 3) := by decide +kernel
theorem dX6_otherIsContent_9 : decode cX6_otherIsContent 9 = .ok (.iload_n 2, 1) := by decide +kernel
theorem dX6_otherIsContent_10 : decode cX6_otherIsContent 10 = .ok (.invokevirtual 193, 3) := by decide +kernel
theorem dX6_otherIsContent_13 : decode cX6_otherIsContent 13 = .ok (.iconst 4, 1) := by decide +kernel
theorem dX6_otherIsContent_14 : decode cX6_otherIsContent 14 = .ok (.iload 4, 2) := by decide +kernel
theorem dX6_otherIsContent_16 : decode cX6_otherIsContent 16 = .ok (.imul, 1) := by decide +kernel
theorem dX6_otherIsContent_17 : decode cX6_otherIsContent 17 = .ok (.iadd, 1) := by decide +kernel
theorem dX6_otherIsContent_18 : decode cX6_otherIsContent 18 = .ok (.istore 5, 2) := by decide +kernel
theorem dX6_otherIsContent_20 : decode cX6_otherIsContent 20 = .ok (.aload_n 0, 1) := by decide +kernel
theorem dX6_otherIsContent_21 : decode cX6_otherIsContent 21 = .ok (.iload_n 1, 1) := by decide +kernel
theorem dX6_otherIsContent_22 : decode cX6_otherIsContent 22 = .ok (.iload_n 2, 1) := by decide +kernel
theorem dX6_otherIsContent_23 : decode cX6_otherIsContent 23 = .ok (.iload_n 3, 1) := by decide +kernel
theorem dX6_otherIsContent_24 : decode cX6_otherIsContent 24 = .ok (.iconst 1, 1) := by decide +kernel
theorem dX6_otherIsContent_25 : decode cX6_otherIsContent 25 = .ok (.iload 4, 2) := by decide +kernel
theorem dX6_otherIsContent_27 : decode cX6_otherIsContent 27 = .ok (.isub, 1) := by decide +kernel
theorem dX6_otherIsContent_28 : decode cX6_otherIsContent 28 = .ok (.invokevirtual 309, 3) := by decide +kernel
theorem dX6_otherIsContent_31 : decode cX6_otherIsContent 31 = .ok (.iload_n 2, 1) := by decide +kernel
theorem dX6_otherIsContent_32 : decode cX6_otherIsContent 32 = .ok (.invokevirtual 193, 3) := by decide +kernel
theorem dX6_otherIsContent_35 : decode cX6_otherIsContent 35 = .ok (.iconst 4, 1) := by decide +kernel
theorem dX6_otherIsContent_36 : decode cX6_otherIsContent 36 = .ok (.iconst 1, 1) := by decide +kernel
theorem dX6_otherIsContent_37 : decode cX6_otherIsContent 37 = .ok (.iload 4, 2) := by decide +kernel
theorem dX6_otherIsContent_39 : decode cX6_otherIsContent 39 = .ok (.isub, 1) := by decide +kernel
theorem dX6_otherIsContent_40 : decode cX6_otherIsContent 40 = .ok (.imul, 1) := by decide +kernel
theorem dX6_otherIsContent_41 : decode cX6_otherIsContent 41 = .ok (.iadd, 1) := by decide +kernel
theorem dX6_otherIsContent_42 : decode cX6_otherIsContent 42 = .ok (.istore 6, 2) := by decide +kernel
theorem dX6_otherIsContent_44 : decode cX6_otherIsContent 44 = .ok (.iload 5, 2) := by decide +kernel
theorem dX6_otherIsContent_46 : decode cX6_otherIsContent 46 = .ok (.iload 6, 2) := by decide +kernel
theorem dX6_otherIsContent_48 : decode cX6_otherIsContent 48 = .ok (.if_icmp .gt 7, 3) := by decide +kernel
theorem dX6_otherIsContent_51 : decode cX6_otherIsContent 51 = .ok (.iconst 1, 1) := by decide +kernel
theorem dX6_otherIsContent_52 : decode cX6_otherIsContent 52 = .ok (.goto 4, 3) := by decide +kernel
theorem dX6_otherIsContent_55 : decode cX6_otherIsContent 55 = .ok (.iconst 0, 1) := by decide +kernel
theorem dX6_otherIsContent_56 : decode cX6_otherIsContent 56 = .ok (.ireturn, 1) := by decide +kernel
theorem dX6_kindsTold_0 : decode cX6_kindsTold 0 = .ok (.iconst 0, 1) := by decide +kernel
theorem dX6_kindsTold_1 : decode cX6_kindsTold 1 = .ok (.istore_n 2, 1) := by decide +kernel
theorem dX6_kindsTold_2 : decode cX6_kindsTold 2 = .ok (.iconst 0, 1) := by decide +kernel
theorem dX6_kindsTold_3 : decode cX6_kindsTold 3 = .ok (.istore_n 3, 1) := by decide +kernel
theorem dX6_kindsTold_4 : decode cX6_kindsTold 4 = .ok (.iload_n 3, 1) := by decide +kernel
theorem dX6_kindsTold_5 : decode cX6_kindsTold 5 = .ok (.bipush 6, 2) := by decide +kernel
theorem dX6_kindsTold_7 : decode cX6_kindsTold 7 = .ok (.if_icmp .ge 38, 3) := by decide +kernel
theorem dX6_kindsTold_10 : decode cX6_kindsTold 10 = .ok (.aload_n 0, 1) := by decide +kernel
theorem dX6_kindsTold_11 : decode cX6_kindsTold 11 = .ok (.invokevirtual 80, 3) := by decide +kernel
theorem dX6_kindsTold_14 : decode cX6_kindsTold 14 = .ok (.astore 4, 2) := by decide +kernel
theorem dX6_kindsTold_16 : decode cX6_kindsTold 16 = .ok (.aload 4, 2) := by decide +kernel
theorem dX6_kindsTold_18 : decode cX6_kindsTold 18 = .ok (.getfield 98, 3) := by decide +kernel
theorem dX6_kindsTold_21 : decode cX6_kindsTold 21 = .ok (.iload_n 1, 1) := by decide +kernel
theorem dX6_kindsTold_22 : decode cX6_kindsTold 22 = .ok (.iload_n 3, 1) := by decide +kernel
theorem dX6_kindsTold_23 : decode cX6_kindsTold 23 = .ok (.iastore, 1) := by decide +kernel
theorem dX6_kindsTold_24 : decode cX6_kindsTold 24 = .ok (.aload_n 0, 1) := by decide +kernel
theorem dX6_kindsTold_25 : decode cX6_kindsTold 25 = .ok (.aload 4, 2) := by decide +kernel
theorem dX6_kindsTold_27 : decode cX6_kindsTold 27 = .ok (.invokevirtual 313, 3) := by decide +kernel
theorem dX6_kindsTold_30 : decode cX6_kindsTold 30 = .ok (.ifCond .eq 9, 3) := by decide +kernel
theorem dX6_kindsTold_33 : decode cX6_kindsTold 33 = .ok (.iload_n 2, 1) := by decide +kernel
theorem dX6_kindsTold_34 : decode cX6_kindsTold 34 = .ok (.iconst 1, 1) := by decide +kernel
theorem dX6_kindsTold_35 : decode cX6_kindsTold 35 = .ok (.iload_n 3, 1) := by decide +kernel
theorem dX6_kindsTold_36 : decode cX6_kindsTold 36 = .ok (.ishl, 1) := by decide +kernel
theorem dX6_kindsTold_37 : decode cX6_kindsTold 37 = .ok (.ior, 1) := by decide +kernel
theorem dX6_kindsTold_38 : decode cX6_kindsTold 38 = .ok (.istore_n 2, 1) := by decide +kernel
theorem dX6_kindsTold_39 : decode cX6_kindsTold 39 = .ok (.iinc 3 1, 3) := by decide +kernel
theorem dX6_kindsTold_42 : decode cX6_kindsTold 42 = .ok (.goto (-38), 3) := by decide +kernel
theorem dX6_kindsTold_45 : decode cX6_kindsTold 45 = .ok (.iload_n 2, 1) := by decide +kernel
theorem dX6_kindsTold_46 : decode cX6_kindsTold 46 = .ok (.ireturn, 1) := by decide +kernel
theorem dX6_figuresTold_0 : decode cX6_figuresTold 0 = .ok (.iconst 0, 1) := by decide +kernel
theorem dX6_figuresTold_1 : decode cX6_figuresTold 1 = .ok (.istore_n 2, 1) := by decide +kernel
theorem dX6_figuresTold_2 : decode cX6_figuresTold 2 = .ok (.iconst 0, 1) := by decide +kernel
theorem dX6_figuresTold_3 : decode cX6_figuresTold 3 = .ok (.istore_n 3, 1) := by decide +kernel
theorem dX6_figuresTold_4 : decode cX6_figuresTold 4 = .ok (.iload_n 3, 1) := by decide +kernel
theorem dX6_figuresTold_5 : decode cX6_figuresTold 5 = .ok (.bipush 9, 2) := by decide +kernel
theorem dX6_figuresTold_7 : decode cX6_figuresTold 7 = .ok (.if_icmp .gt 38, 3) := by decide +kernel
theorem dX6_figuresTold_10 : decode cX6_figuresTold 10 = .ok (.aload_n 0, 1) := by decide +kernel
theorem dX6_figuresTold_11 : decode cX6_figuresTold 11 = .ok (.invokevirtual 80, 3) := by decide +kernel
theorem dX6_figuresTold_14 : decode cX6_figuresTold 14 = .ok (.astore 4, 2) := by decide +kernel
theorem dX6_figuresTold_16 : decode cX6_figuresTold 16 = .ok (.aload 4, 2) := by decide +kernel
theorem dX6_figuresTold_18 : decode cX6_figuresTold 18 = .ok (.getfield 101, 3) := by decide +kernel
theorem dX6_figuresTold_21 : decode cX6_figuresTold 21 = .ok (.iload_n 1, 1) := by decide +kernel
theorem dX6_figuresTold_22 : decode cX6_figuresTold 22 = .ok (.iload_n 3, 1) := by decide +kernel
theorem dX6_figuresTold_23 : decode cX6_figuresTold 23 = .ok (.iastore, 1) := by decide +kernel
theorem dX6_figuresTold_24 : decode cX6_figuresTold 24 = .ok (.aload_n 0, 1) := by decide +kernel
theorem dX6_figuresTold_25 : decode cX6_figuresTold 25 = .ok (.aload 4, 2) := by decide +kernel
theorem dX6_figuresTold_27 : decode cX6_figuresTold 27 = .ok (.invokevirtual 313, 3) := by decide +kernel
theorem dX6_figuresTold_30 : decode cX6_figuresTold 30 = .ok (.ifCond .eq 9, 3) := by decide +kernel
theorem dX6_figuresTold_33 : decode cX6_figuresTold 33 = .ok (.iload_n 2, 1) := by decide +kernel
theorem dX6_figuresTold_34 : decode cX6_figuresTold 34 = .ok (.iconst 1, 1) := by decide +kernel
theorem dX6_figuresTold_35 : decode cX6_figuresTold 35 = .ok (.iload_n 3, 1) := by decide +kernel
theorem dX6_figuresTold_36 : decode cX6_figuresTold 36 = .ok (.ishl, 1) := by decide +kernel
theorem dX6_figuresTold_37 : decode cX6_figuresTold 37 = .ok (.ior, 1) := by decide +kernel
theorem dX6_figuresTold_38 : decode cX6_figuresTold 38 = .ok (.istore_n 2, 1) := by decide +kernel
theorem dX6_figuresTold_39 : decode cX6_figuresTold 39 = .ok (.iinc 3 1, 3) := by decide +kernel
theorem dX6_figuresTold_42 : decode cX6_figuresTold 42 = .ok (.goto (-38), 3) := by decide +kernel
theorem dX6_figuresTold_45 : decode cX6_figuresTold 45 = .ok (.iload_n 2, 1) := by decide +kernel
theorem dX6_figuresTold_46 : decode cX6_figuresTold 46 = .ok (.ireturn, 1) := by decide +kernel
theorem dX6_minutesTold_0 : decode cX6_minutesTold 0 = .ok (.iconst 0, 1) := by decide +kernel
theorem dX6_minutesTold_1 : decode cX6_minutesTold 1 = .ok (.istore_n 3, 1) := by decide +kernel
theorem dX6_minutesTold_2 : decode cX6_minutesTold 2 = .ok (.iconst 0, 1) := by decide +kernel
theorem dX6_minutesTold_3 : decode cX6_minutesTold 3 = .ok (.istore 4, 2) := by decide +kernel
theorem dX6_minutesTold_5 : decode cX6_minutesTold 5 = .ok (.iload 4, 2) := by decide +kernel
theorem dX6_minutesTold_7 : decode cX6_minutesTold 7 = .ok (.sipush 240, 3) := by decide +kernel
theorem dX6_minutesTold_10 : decode cX6_minutesTold 10 = .ok (.if_icmp .gt 43, 3) := by decide +kernel
theorem dX6_minutesTold_13 : decode cX6_minutesTold 13 = .ok (.aload_n 0, 1) := by decide +kernel
theorem dX6_minutesTold_14 : decode cX6_minutesTold 14 = .ok (.invokevirtual 80, 3) := by decide +kernel
theorem dX6_minutesTold_17 : decode cX6_minutesTold 17 = .ok (.astore 5, 2) := by decide +kernel
theorem dX6_minutesTold_19 : decode cX6_minutesTold 19 = .ok (.aload 5, 2) := by decide +kernel
theorem dX6_minutesTold_21 : decode cX6_minutesTold 21 = .ok (.getfield 104, 3) := by decide +kernel
theorem dX6_minutesTold_24 : decode cX6_minutesTold 24 = .ok (.iload_n 1, 1) := by decide +kernel
theorem dX6_minutesTold_25 : decode cX6_minutesTold 25 = .ok (.iload 4, 2) := by decide +kernel
theorem dX6_minutesTold_27 : decode cX6_minutesTold 27 = .ok (.iastore, 1) := by decide +kernel
theorem dX6_minutesTold_28 : decode cX6_minutesTold 28 = .ok (.aload_n 0, 1) := by decide +kernel
theorem dX6_minutesTold_29 : decode cX6_minutesTold 29 = .ok (.aload 5, 2) := by decide +kernel
theorem dX6_minutesTold_31 : decode cX6_minutesTold 31 = .ok (.invokevirtual 313, 3) := by decide +kernel
theorem dX6_minutesTold_34 : decode cX6_minutesTold 34 = .ok (.ifCond .eq 13, 3) := by decide +kernel
theorem dX6_minutesTold_37 : decode cX6_minutesTold 37 = .ok (.iload_n 2, 1) := by decide +kernel
theorem dX6_minutesTold_38 : decode cX6_minutesTold 38 = .ok (.ifCond .eq 6, 3) := by decide +kernel
theorem dX6_minutesTold_41 : decode cX6_minutesTold 41 = .ok (.iload 4, 2) := by decide +kernel
theorem dX6_minutesTold_43 : decode cX6_minutesTold 43 = .ok (.ireturn, 1) := by decide +kernel
theorem dX6_minutesTold_44 : decode cX6_minutesTold 44 = .ok (.iinc 3 1, 3) := by decide +kernel
theorem dX6_minutesTold_47 : decode cX6_minutesTold 47 = .ok (.iinc 4 1, 3) := by decide +kernel
theorem dX6_minutesTold_50 : decode cX6_minutesTold 50 = .ok (.goto (-45), 3) := by decide +kernel
theorem dX6_minutesTold_53 : decode cX6_minutesTold 53 = .ok (.iload_n 2, 1) := by decide +kernel
theorem dX6_minutesTold_54 : decode cX6_minutesTold 54 = .ok (.ifCond .eq 8, 3) := by decide +kernel
theorem dX6_minutesTold_57 : decode cX6_minutesTold 57 = .ok (.bipush (-9), 2) := by decide +kernel
theorem dX6_minutesTold_59 : decode cX6_minutesTold 59 = .ok (.goto 4, 3) := by decide +kernel
theorem dX6_minutesTold_62 : decode cX6_minutesTold 62 = .ok (.iload_n 3, 1) := by decide +kernel
theorem dX6_minutesTold_63 : decode cX6_minutesTold 63 = .ok (.ireturn, 1) := by decide +kernel
theorem dX6_endsAsTold_0 : decode cX6_endsAsTold 0 = .ok (.aload_n 1, 1) := by decide +kernel
theorem dX6_endsAsTold_1 : decode cX6_endsAsTold 1 = .ok (.invokevirtual 226, 3) := by decide +kernel
theorem dX6_endsAsTold_4 : decode cX6_endsAsTold 4 = .ok (.iconst 0, 1) := by decide +kernel
theorem dX6_endsAsTold_5 : decode cX6_endsAsTold 5 = .ok (.istore_n 2, 1) := by decide +kernel
theorem dX6_endsAsTold_6 : decode cX6_endsAsTold 6 = .ok (.iload_n 2, 1) := by decide +kernel
theorem dX6_endsAsTold_7 : decode cX6_endsAsTold 7 = .ok (.aload_n 0, 1) := by decide +kernel
theorem dX6_endsAsTold_8 : decode cX6_endsAsTold 8 = .ok (.getfield 58, 3) := by decide +kernel
theorem dX6_endsAsTold_11 : decode cX6_endsAsTold 11 = .ok (.if_icmp .ge 34, 3) := by decide +kernel
theorem dX6_endsAsTold_14 : decode cX6_endsAsTold 14 = .ok (.aload_n 1, 1) := by decide +kernel
theorem dX6_endsAsTold_15 : decode cX6_endsAsTold 15 = .ok (.iload_n 2, 1) := by decide +kernel
theorem dX6_endsAsTold_16 : decode cX6_endsAsTold 16 = .ok (.invokevirtual 95, 3) := by decide +kernel
theorem dX6_endsAsTold_19 : decode cX6_endsAsTold 19 = .ok (.ifCond .eq 18, 3) := by decide +kernel
theorem dX6_endsAsTold_22 : decode cX6_endsAsTold 22 = .ok (.aload_n 1, 1) := by decide +kernel
theorem dX6_endsAsTold_23 : decode cX6_endsAsTold 23 = .ok (.getfield 161, 3) := by decide +kernel
theorem dX6_endsAsTold_26 : decode cX6_endsAsTold 26 = .ok (.iload_n 2, 1) := by decide +kernel
theorem dX6_endsAsTold_27 : decode cX6_endsAsTold 27 = .ok (.iaload, 1) := by decide +kernel
theorem dX6_endsAsTold_28 : decode cX6_endsAsTold 28 = .ok (.aload_n 0, 1) := by decide +kernel
theorem dX6_endsAsTold_29 : decode cX6_endsAsTold 29 = .ok (.getfield 54, 3) := by decide +kernel
theorem dX6_endsAsTold_32 : decode cX6_endsAsTold 32 = .ok (.iload_n 2, 1) := by decide +kernel
theorem dX6_endsAsTold_33 : decode cX6_endsAsTold 33 = .ok (.iaload, 1) := by decide +kernel
theorem dX6_endsAsTold_34 : decode cX6_endsAsTold 34 = .ok (.if_icmp .eq 5, 3) := by decide +kernel
theorem dX6_endsAsTold_37 : decode cX6_endsAsTold 37 = .ok (.iconst 0, 1) := by decide +kernel
theorem dX6_endsAsTold_38 : decode cX6_endsAsTold 38 = .ok (.ireturn, 1) := by decide +kernel
theorem dX6_endsAsTold_39 : decode cX6_endsAsTold 39 = .ok (.iinc 2 1, 3) := by decide +kernel
theorem dX6_endsAsTold_42 : decode cX6_endsAsTold 42 = .ok (.goto (-36), 3) := by decide +kernel
theorem dX6_endsAsTold_45 : decode cX6_endsAsTold 45 = .ok (.iconst 1, 1) := by decide +kernel
theorem dX6_endsAsTold_46 : decode cX6_endsAsTold 46 = .ok (.ireturn, 1) := by decide +kernel
theorem dX6_power_0 : decode cX6_power 0 = .ok (.lconst 1, 1) := by decide +kernel
theorem dX6_power_1 : decode cX6_power 1 = .ok (.lstore_n 2, 1) := by decide +kernel
theorem dX6_power_2 : decode cX6_power 2 = .ok (.iconst 0, 1) := by decide +kernel
theorem dX6_power_3 : decode cX6_power 3 = .ok (.istore 4, 2) := by decide +kernel
theorem dX6_power_5 : decode cX6_power 5 = .ok (.iload 4, 2) := by decide +kernel
theorem dX6_power_7 : decode cX6_power 7 = .ok (.iload_n 1, 1) := by decide +kernel
theorem dX6_power_8 : decode cX6_power 8 = .ok (.if_icmp .ge 14, 3) := by decide +kernel
theorem dX6_power_11 : decode cX6_power 11 = .ok (.lload_n 2, 1) := by decide +kernel
theorem dX6_power_12 : decode cX6_power 12 = .ok (.iload_n 0, 1) := by decide +kernel
theorem dX6_power_13 : decode cX6_power 13 = .ok (.i2l, 1) := by decide +kernel
theorem dX6_power_14 : decode cX6_power 14 = .ok (.lmul, 1) := by decide +kernel
theorem dX6_power_15 : decode cX6_power 15 = .ok (.lstore_n 2, 1) := by decide +kernel
theorem dX6_power_16 : decode cX6_power 16 = .ok (.iinc 4 1, 3) := by decide +kernel
theorem dX6_power_19 : decode cX6_power 19 = .ok (.goto (-14), 3) := by decide +kernel
theorem dX6_power_22 : decode cX6_power 22 = .ok (.lload_n 2, 1) := by decide +kernel
theorem dX6_power_23 : decode cX6_power 23 = .ok (.lreturn, 1) := by decide +kernel
theorem dX6_lowest_0 : decode cX6_lowest 0 = .ok (.lload_n 0, 1) := by decide +kernel
theorem dX6_lowest_1 : decode cX6_lowest 1 = .ok (.lstore 5, 2) := by decide +kernel
theorem dX6_lowest_3 : decode cX6_lowest 3 = .ok (.lload_n 2, 1) := by decide +kernel
theorem dX6_lowest_4 : decode cX6_lowest 4 = .ok (.lstore 7, 2) := by decide +kernel
theorem dX6_lowest_6 : decode cX6_lowest 6 = .ok (.iconst 0, 1) := by decide +kernel
theorem dX6_lowest_7 : decode cX6_lowest 7 = .ok (.istore 9, 2) := by decide +kernel
theorem dX6_lowest_9 : decode cX6_lowest 9 = .ok (.iload 9, 2) := by decide +kernel
theorem dX6_lowest_11 : decode cX6_lowest 11 = .ok (.bipush 100, 2) := by decide +kernel
theorem dX6_lowest_13 : decode cX6_lowest 13 = .ok (.if_icmp .ge 31, 3) := by decide +kernel
theorem dX6_lowest_16 : decode cX6_lowest 16 = .ok (.lload 7, 2) := by decide +kernel
theorem dX6_lowest_18 : decode cX6_lowest 18 = .ok (.lconst 0, 1) := by decide +kernel
theorem dX6_lowest_19 : decode cX6_lowest 19 = .ok (.lcmp, 1) := by decide +kernel
theorem dX6_lowest_20 : decode cX6_lowest 20 = .ok (.ifCond .le 24, 3) := by decide +kernel
theorem dX6_lowest_23 : decode cX6_lowest 23 = .ok (.lload 5, 2) := by decide +kernel
theorem dX6_lowest_25 : decode cX6_lowest 25 = .ok (.lload 7, 2) := by decide +kernel
theorem dX6_lowest_27 : decode cX6_lowest 27 = .ok (.lrem, 1) := by decide +kernel
theorem dX6_lowest_28 : decode cX6_lowest 28 = .ok (.lstore 10, 2) := by decide +kernel
theorem dX6_lowest_30 : decode cX6_lowest 30 = .ok (.lload 7, 2) := by decide +kernel
theorem dX6_lowest_32 : decode cX6_lowest 32 = .ok (.lstore 5, 2) := by decide +kernel
theorem dX6_lowest_34 : decode cX6_lowest 34 = .ok (.lload 10, 2) := by decide +kernel
theorem dX6_lowest_36 : decode cX6_lowest 36 = .ok (.lstore 7, 2) := by decide +kernel
theorem dX6_lowest_38 : decode cX6_lowest 38 = .ok (.iinc 9 1, 3) := by decide +kernel
theorem dX6_lowest_41 : decode cX6_lowest 41 = .ok (.goto (-32), 3) := by decide +kernel
theorem dX6_lowest_44 : decode cX6_lowest 44 = .ok (.lload 5, 2) := by decide +kernel
theorem dX6_lowest_46 : decode cX6_lowest 46 = .ok (.lconst 1, 1) := by decide +kernel
theorem dX6_lowest_47 : decode cX6_lowest 47 = .ok (.invokestatic 316, 3) := by decide +kernel
theorem dX6_lowest_50 : decode cX6_lowest 50 = .ok (.lstore 9, 2) := by decide +kernel
theorem dX6_lowest_52 : decode cX6_lowest 52 = .ok (.iload 4, 2) := by decide +kernel
theorem dX6_lowest_54 : decode cX6_lowest 54 = .ok (.ifCond .ne 7, 3) := by decide +kernel
theorem dX6_lowest_57 : decode cX6_lowest 57 = .ok (.lload_n 0, 1) := by decide +kernel
theorem dX6_lowest_58 : decode cX6_lowest 58 = .ok (.goto 4, 3) := by decide +kernel
theorem dX6_lowest_61 : decode cX6_lowest 61 = .ok (.lload_n 2, 1) := by decide +kernel
theorem dX6_lowest_62 : decode cX6_lowest 62 = .ok (.lload 9, 2) := by decide +kernel
theorem dX6_lowest_64 : decode cX6_lowest 64 = .ok (.ldiv, 1) := by decide +kernel
theorem dX6_lowest_65 : decode cX6_lowest 65 = .ok (.lreturn, 1) := by decide +kernel
theorem dX7_init_0 : decode cX7_init 0 = .ok (.aload_n 0, 1) := by decide +kernel
theorem dX7_init_1 : decode cX7_init 1 = .ok (.invokespecial 1, 3) := by decide +kernel
theorem dX7_init_4 : decode cX7_init 4 = .ok (.aload_n 0, 1) := by decide +kernel
theorem dX7_init_5 : decode cX7_init 5 = .ok (.bipush 7, 2) := by decide +kernel
theorem dX7_init_7 : decode cX7_init 7 = .ok (.newarray .int, 2) := by decide +kernel
theorem dX7_init_9 : decode cX7_init 9 = .ok (.putfield 7, 3) := by decide +kernel
theorem dX7_init_12 : decode cX7_init 12 = .ok (.aload_n 0, 1) := by decide +kernel
theorem dX7_init_13 : decode cX7_init 13 = .ok (.bipush 7, 2) := by decide +kernel
theorem dX7_init_15 : decode cX7_init 15 = .ok (.newarray .int, 2) := by decide +kernel
theorem dX7_init_17 : decode cX7_init 17 = .ok (.putfield 13, 3) := by decide +kernel
theorem dX7_init_20 : decode cX7_init 20 = .ok (.aload_n 0, 1) := by decide +kernel
theorem dX7_init_21 : decode cX7_init 21 = .ok (.bipush 7, 2) := by decide +kernel
theorem dX7_init_23 : decode cX7_init 23 = .ok (.newarray .int, 2) := by decide +kernel
theorem dX7_init_25 : decode cX7_init 25 = .ok (.putfield 16, 3) := by decide +kernel
theorem dX7_init_28 : decode cX7_init 28 = .ok (.aload_n 0, 1) := by decide +kernel
theorem dX7_init_29 : decode cX7_init 29 = .ok (.bipush 7, 2) := by decide +kernel
theorem dX7_init_31 : decode cX7_init 31 = .ok (.newarray .int, 2) := by decide +kernel
theorem dX7_init_33 : decode cX7_init 33 = .ok (.putfield 19, 3) := by decide +kernel
theorem dX7_init_36 : decode cX7_init 36 = .ok (.aload_n 0, 1) := by decide +kernel
theorem dX7_init_37 : decode cX7_init 37 = .ok (.bipush 7, 2) := by decide +kernel
theorem dX7_init_39 : decode cX7_init 39 = .ok (.newarray .int, 2) := by decide +kernel
theorem dX7_init_41 : decode cX7_init 41 = .ok (.putfield 22, 3) := by decide +kernel
theorem dX7_init_44 : decode cX7_init 44 = .ok (.aload_n 0, 1) := by decide +kernel
theorem dX7_init_45 : decode cX7_init 45 = .ok (.bipush 7, 2) := by decide +kernel
theorem dX7_init_47 : decode cX7_init 47 = .ok (.newarray .int, 2) := by decide +kernel
theorem dX7_init_49 : decode cX7_init 49 = .ok (.putfield 25, 3) := by decide +kernel
theorem dX7_init_52 : decode cX7_init 52 = .ok (.aload_n 0, 1) := by decide +kernel
theorem dX7_init_53 : decode cX7_init 53 = .ok (.bipush 7, 2) := by decide +kernel
theorem dX7_init_55 : decode cX7_init 55 = .ok (.newarray .int, 2) := by decide +kernel
theorem dX7_init_57 : decode cX7_init 57 = .ok (.putfield 28, 3) := by decide +kernel
theorem dX7_init_60 : decode cX7_init 60 = .ok (.aload_n 0, 1) := by decide +kernel
theorem dX7_init_61 : decode cX7_init 61 = .ok (.bipush 7, 2) := by decide +kernel
theorem dX7_init_63 : decode cX7_init 63 = .ok (.newarray .int, 2) := by decide +kernel
theorem dX7_init_65 : decode cX7_init 65 = .ok (.putfield 31, 3) := by decide +kernel
theorem dX7_init_68 : decode cX7_init 68 = .ok (.aload_n 0, 1) := by decide +kernel
theorem dX7_init_69 : decode cX7_init 69 = .ok (.iconst 2, 1) := by decide +kernel
theorem dX7_init_70 : decode cX7_init 70 = .ok (.newarray .int, 2) := by decide +kernel
theorem dX7_init_72 : decode cX7_init 72 = .ok (.putfield 34, 3) := by decide +kernel
theorem dX7_init_75 : decode cX7_init 75 = .ok (.aload_n 0, 1) := by decide +kernel
theorem dX7_init_76 : decode cX7_init 76 = .ok (.bipush 7, 2) := by decide +kernel
theorem dX7_init_78 : decode cX7_init 78 = .ok (.newarray .int, 2) := by decide +kernel
theorem dX7_init_80 : decode cX7_init 80 = .ok (.putfield 37, 3) := by decide +kernel
theorem dX7_init_83 : decode cX7_init 83 = .ok (.aload_n 0, 1) := by decide +kernel
theorem dX7_init_84 : decode cX7_init 84 = .ok (.bipush 96, 2) := by decide +kernel
theorem dX7_init_86 : decode cX7_init 86 = .ok (.newarray .int, 2) := by decide +kernel
theorem dX7_init_88 : decode cX7_init 88 = .ok (.putfield 40, 3) := by decide +kernel
theorem dX7_init_91 : decode cX7_init 91 = .ok (.aload_n 0, 1) := by decide +kernel
theorem dX7_init_92 : decode cX7_init 92 = .ok (.bipush 49, 2) := by decide +kernel
theorem dX7_init_94 : decode cX7_init 94 = .ok (.newarray .int, 2) := by decide +kernel
theorem dX7_init_96 : decode cX7_init 96 = .ok (.putfield 43, 3) := by decide +kernel
theorem dX7_init_99 : decode cX7_init 99 = .ok (.aload_n 0, 1) := by decide +kernel
theorem dX7_init_100 : decode cX7_init 100 = .ok (.bipush 49, 2) := by decide +kernel
theorem dX7_init_102 : decode cX7_init 102 = .ok (.newarray .int, 2) := by decide +kernel
theorem dX7_init_104 : decode cX7_init 104 = .ok (.putfield 46, 3) := by decide +kernel
theorem dX7_init_107 : decode cX7_init 107 = .ok (.aload_n 0, 1) := by decide +kernel
theorem dX7_init_108 : decode cX7_init 108 = .ok (.sipush 147, 3) := by decide +kernel
theorem dX7_init_111 : decode cX7_init 111 = .ok (.newarray .int, 2) := by decide +kernel
theorem dX7_init_113 : decode cX7_init 113 = .ok (.putfield 49, 3) := by decide +kernel
theorem dX7_init_116 : decode cX7_init 116 = .ok (.aload_n 0, 1) := by decide +kernel
theorem dX7_init_117 : decode cX7_init 117 = .ok (.bipush 63, 2) := by decide +kernel
theorem dX7_init_119 : decode cX7_init 119 = .ok (.newarray .int, 2) := by decide +kernel
theorem dX7_init_121 : decode cX7_init 121 = .ok (.putfield 52, 3) := by decide +kernel
theorem dX7_init_124 : decode cX7_init 124 = .ok (.aload_n 0, 1) := by decide +kernel
theorem dX7_init_125 : decode cX7_init 125 = .ok (.bipush 63, 2) := by decide +kernel
theorem dX7_init_127 : decode cX7_init 127 = .ok (.newarray .int, 2) := by decide +kernel
theorem dX7_init_129 : decode cX7_init 129 = .ok (.putfield 55, 3) := by decide +kernel
theorem dX7_init_132 : decode cX7_init 132 = .ok (.aload_n 0, 1) := by decide +kernel
theorem dX7_init_133 : decode cX7_init 133 = .ok (.sipush 504, 3) := by decide +kernel
theorem dX7_init_136 : decode cX7_init 136 = .ok (.newarray .int, 2) := by decide +kernel
theorem dX7_init_138 : decode cX7_init 138 = .ok (.putfield 58, 3) := by decide +kernel
theorem dX7_init_141 : decode cX7_init 141 = .ok (.aload_n 0, 1) := by decide +kernel
theorem dX7_init_142 : decode cX7_init 142 = .ok (.bipush 63, 2) := by decide +kernel
theorem dX7_init_144 : decode cX7_init 144 = .ok (.newarray .int, 2) := by decide +kernel
theorem dX7_init_146 : decode cX7_init 146 = .ok (.putfield 61, 3) := by decide +kernel
theorem dX7_init_149 : decode cX7_init 149 = .ok (.aload_n 0, 1) := by decide +kernel
theorem dX7_init_150 : decode cX7_init 150 = .ok (.bipush 7, 2) := by decide +kernel
theorem dX7_init_152 : decode cX7_init 152 = .ok (.newarray .int, 2) := by decide +kernel
theorem dX7_init_154 : decode cX7_init 154 = .ok (.putfield 64, 3) := by decide +kernel
theorem dX7_init_157 : decode cX7_init 157 = .ok (.aload_n 0, 1) := by decide +kernel
theorem dX7_init_158 : decode cX7_init 158 = .ok (.bipush 7, 2) := by decide +kernel
theorem dX7_init_160 : decode cX7_init 160 = .ok (.newarray .int, 2) := by decide +kernel
theorem dX7_init_162 : decode cX7_init 162 = .ok (.putfield 67, 3) := by decide +kernel
theorem dX7_init_165 : decode cX7_init 165 = .ok (.aload_n 0, 1) := by decide +kernel
theorem dX7_init_166 : decode cX7_init 166 = .ok (.bipush 8, 2) := by decide +kernel
theorem dX7_init_168 : decode cX7_init 168 = .ok (.newarray .int, 2) := by decide +kernel
theorem dX7_init_170 : decode cX7_init 170 = .ok (.putfield 70, 3) := by decide +kernel
theorem dX7_init_173 : decode cX7_init 173 = .ok (.aload_n 0, 1) := by decide +kernel
theorem dX7_init_174 : decode cX7_init 174 = .ok (.bipush 12, 2) := by decide +kernel
theorem dX7_init_176 : decode cX7_init 176 = .ok (.newarray .int, 2) := by decide +kernel
theorem dX7_init_178 : decode cX7_init 178 = .ok (.putfield 73, 3) := by decide +kernel
theorem dX7_init_181 : decode cX7_init 181 = .ok (.aload_n 0, 1) := by decide +kernel
theorem dX7_init_182 : decode cX7_init 182 = .ok (.iconst 0, 1) := by decide +kernel
theorem dX7_init_183 : decode cX7_init 183 = .ok (.putfield 76, 3) := by decide +kernel
theorem dX7_init_186 : decode cX7_init 186 = .ok (.aload_n 0, 1) := by decide +kernel
theorem dX7_init_187 : decode cX7_init 187 = .ok (.iconst 1, 1) := by decide +kernel
theorem dX7_init_188 : decode cX7_init 188 = .ok (.putfield 80, 3) := by decide +kernel
theorem dX7_init_191 : decode cX7_init 191 = .ok (.return_, 1) := by decide +kernel
theorem dX7_in_0 : decode cX7_in 0 = .ok (.lload_n 0, 1) := by decide +kernel
theorem dX7_in_1 : decode cX7_in 1 = .ok (.lload_n 2, 1) := by decide +kernel
theorem dX7_in_2 : decode cX7_in 2 = .ok (.lcmp, 1) := by decide +kernel
theorem dX7_in_3 : decode cX7_in 3 = .ok (.ifCond .lt 14, 3) := by decide +kernel
theorem dX7_in_6 : decode cX7_in 6 = .ok (.lload_n 0, 1) := by decide +kernel
theorem dX7_in_7 : decode cX7_in 7 = .ok (.lload 4, 2) := by decide +kernel
theorem dX7_in_9 : decode cX7_in 9 = .ok (.lcmp, 1) := by decide +kernel
theorem dX7_in_10 : decode cX7_in 10 = .ok (.ifCond .gt 7, 3) := by decide +kernel
theorem dX7_in_13 : decode cX7_in 13 = .ok (.iconst 1, 1) := by decide +kernel
theorem dX7_in_14 : decode cX7_in 14 = .ok (.goto 4, 3) := by decide +kernel
theorem dX7_in_17 : decode cX7_in 17 = .ok (.iconst 0, 1) := by decide +kernel
theorem dX7_in_18 : decode cX7_in 18 = .ok (.ireturn, 1) := by decide +kernel
theorem dX7_refuse_0 : decode cX7_refuse 0 = .ok (.aload_n 0, 1) := by decide +kernel
theorem dX7_refuse_1 : decode cX7_refuse 1 = .ok (.getfield 37, 3) := by decide +kernel
theorem dX7_refuse_4 : decode cX7_refuse 4 = .ok (.iload_n 1, 1) := by decide +kernel
theorem dX7_refuse_5 : decode cX7_refuse 5 = .ok (.ineg, 1) := by decide +kernel
theorem dX7_refuse_6 : decode cX7_refuse 6 = .ok (.dup2, 1) := by decide +kernel
theorem dX7_refuse_7 : decode cX7_refuse 7 = .ok (.iaload, 1) := by decide +kernel
theorem dX7_refuse_8 : decode cX7_refuse 8 = .ok (.iconst 1, 1) := by decide +kernel
theorem dX7_refuse_9 : decode cX7_refuse 9 = .ok (.iadd, 1) := by decide +kernel
theorem dX7_refuse_10 : decode cX7_refuse 10 = .ok (.iastore, 1) := by decide +kernel
theorem dX7_refuse_11 : decode cX7_refuse 11 = .ok (.iload_n 1, 1) := by decide +kernel
theorem dX7_refuse_12 : decode cX7_refuse 12 = .ok (.ireturn, 1) := by decide +kernel
theorem dX7_isCouple_0 : decode cX7_isCouple 0 = .ok (.iload_n 1, 1) := by decide +kernel
theorem dX7_isCouple_1 : decode cX7_isCouple 1 = .ok (.i2l, 1) := by decide +kernel
theorem dX7_isCouple_2 : decode cX7_isCouple 2 = .ok (.lconst 0, 1) := by decide +kernel
theorem dX7_isCouple_3 : decode cX7_isCouple 3 = .ok (.aload_n 0, 1) := by decide +kernel
theorem dX7_isCouple_4 : decode cX7_isCouple 4 = .ok (.getfield 83, 3) := by decide +kernel
theorem dX7_isCouple_7 : decode cX7_isCouple 7 = .ok (.iconst 1, 1) := by decide +kernel
theorem dX7_isCouple_8 : decode cX7_isCouple 8 = .ok (.isub, 1) := by decide +kernel
theorem dX7_isCouple_9 : decode cX7_isCouple 9 = .ok (.i2l, 1) := by decide +kernel
theorem dX7_isCouple_10 : decode cX7_isCouple 10 = .ok (.invokestatic 86, 3) := by decide +kernel
theorem dX7_isCouple_13 : decode cX7_isCouple 13 = .ok (.ireturn, 1) := by decide +kernel
theorem dX7_wrongNumber_0 : decode cX7_wrongNumber 0 = .ok (.iload_n 0, 1) := by decide +kernel
theorem dX7_wrongNumber_1 : decode cX7_wrongNumber 1 = .ok (.iload_n 1, 1) := by decide +kernel
theorem dX7_wrongNumber_2 : decode cX7_wrongNumber 2 = .ok (.if_icmp .ge 8, 3) := by decide +kernel
theorem dX7_wrongNumber_5 : decode cX7_wrongNumber 5 = .ok (.bipush (-4), 2) := by decide +kernel
theorem dX7_wrongNumber_7 : decode cX7_wrongNumber 7 = .ok (.goto 14, 3) := by decide +kernel
theorem dX7_wrongNumber_10 : decode cX7_wrongNumber 10 = .ok (.iload_n 0, 1) := by decide +kernel
theorem dX7_wrongNumber_11 : decode cX7_wrongNumber 11 = .ok (.iload_n 2, 1) := by decide +kernel
theorem dX7_wrongNumber_12 : decode cX7_wrongNumber 12 = .ok (.if_icmp .le 8, 3) := by decide +kernel
theorem dX7_wrongNumber_15 : decode cX7_wrongNumber 15 = .ok (.bipush (-6), 2) := by decide +kernel
theorem dX7_wrongNumber_17 : decode cX7_wrongNumber 17 = .ok (.goto 4, 3) := by decide +kernel
theorem dX7_wrongNumber_20 : decode cX7_wrongNumber 20 = .ok (.iconst 0, 1) := by decide +kernel
theorem dX7_wrongNumber_21 : decode cX7_wrongNumber 21 = .ok (.ireturn, 1) := by decide +kernel
theorem dX7_wrongBit_0 : decode cX7_wrongBit 0 = .ok (.iload_n 0, 1) := by decide +kernel
theorem dX7_wrongBit_1 : decode cX7_wrongBit 1 = .ok (.ifCond .ne 19, 3) := by decide +kernel
theorem dX7_wrongBit_4 : decode cX7_wrongBit 4 = .ok (.iload_n 1, 1) := by decide +kernel
theorem dX7_wrongBit_5 : decode cX7_wrongBit 5 = .ok (.i2l, 1) := by decide +kernel
theorem dX7_wrongBit_6 : decode cX7_wrongBit 6 = .ok (.lconst 0, 1) := by decide +kernel
theorem dX7_wrongBit_7 : decode cX7_wrongBit 7 = .ok (.iload_n 2, 1) := by decide +kernel
theorem dX7_wrongBit_8 : decode cX7_wrongBit 8 = .ok (.i2l, 1) := by decide +kernel
theorem dX7_wrongBit_9 : decode cX7_wrongBit 9 = .ok (.invokestatic 86, 3) := by decide +kernel
theorem dX7_wrongBit_12 : decode cX7_wrongBit 12 = .ok (.ifCond .ne 8, 3) := by decide +kernel
theorem dX7_wrongBit_15 : decode cX7_wrongBit 15 = .ok (.bipush (-2), 2) := by decide +kernel
theorem dX7_wrongBit_17 : decode cX7_wrongBit 17 = .ok (.goto 4, 3) := by decide +kernel
theorem dX7_wrongBit_20 : decode cX7_wrongBit 20 = .ok (.iload_n 0, 1) := by decide +kernel
theorem dX7_wrongBit_21 : decode cX7_wrongBit 21 = .ok (.ireturn, 1) := by decide +kernel
theorem dX7_hasBit_0 : decode cX7_hasBit 0 = .ok (.iload_n 0, 1) := by decide +kernel
theorem dX7_hasBit_1 : decode cX7_hasBit 1 = .ok (.iload_n 1, 1) := by decide +kernel
theorem dX7_hasBit_2 : decode cX7_hasBit 2 = .ok (.ishr, 1) := by decide +kernel
theorem dX7_hasBit_3 : decode cX7_hasBit 3 = .ok (.iconst 1, 1) := by decide +kernel
theorem dX7_hasBit_4 : decode cX7_hasBit 4 = .ok (.iand, 1) := by decide +kernel
theorem dX7_hasBit_5 : decode cX7_hasBit 5 = .ok (.iconst 1, 1) := by decide +kernel
theorem dX7_hasBit_6 : decode cX7_hasBit 6 = .ok (.if_icmp .ne 7, 3) := by decide +kernel
theorem dX7_hasBit_9 : decode cX7_hasBit 9 = .ok (.iconst 1, 1) := by decide +kernel
theorem dX7_hasBit_10 : decode cX7_hasBit 10 = .ok (.goto 4, 3) := by decide +kernel
theorem dX7_hasBit_13 : decode cX7_hasBit 13 = .ok (.iconst 0, 1) := by decide +kernel
theorem dX7_hasBit_14 : decode cX7_hasBit 14 = .ok (.ireturn, 1) := by decide +kernel
theorem dX7_least_0 : decode cX7_least 0 = .ok (.iload_n 0, 1) := by decide +kernel
theorem dX7_least_1 : decode cX7_least 1 = .ok (.iload_n 1, 1) := by decide +kernel
theorem dX7_least_2 : decode cX7_least 2 = .ok (.if_icmp .ge 7, 3) := by decide +kernel
theorem dX7_least_5 : decode cX7_least 5 = .ok (.iload_n 0, 1) := by decide +kernel
theorem dX7_least_6 : decode cX7_least 6 = .ok (.goto 4, 3) := by decide +kernel
theorem dX7_least_9 : decode cX7_least 9 = .ok (.iload_n 1, 1) := by decide +kernel
theorem dX7_least_10 : decode cX7_least 10 = .ok (.ireturn, 1) := by decide +kernel
theorem dX7_most_0 : decode cX7_most 0 = .ok (.iload_n 0, 1) := by decide +kernel
theorem dX7_most_1 : decode cX7_most 1 = .ok (.iload_n 1, 1) := by decide +kernel
theorem dX7_most_2 : decode cX7_most 2 = .ok (.if_icmp .le 7, 3) := by decide +kernel
theorem dX7_most_5 : decode cX7_most 5 = .ok (.iload_n 0, 1) := by decide +kernel
theorem dX7_most_6 : decode cX7_most 6 = .ok (.goto 4, 3) := by decide +kernel
theorem dX7_most_9 : decode cX7_most 9 = .ok (.iload_n 1, 1) := by decide +kernel
theorem dX7_most_10 : decode cX7_most 10 = .ok (.ireturn, 1) := by decide +kernel
theorem dX7_lastsBy_0 : decode cX7_lastsBy 0 = .ok (.iload_n 0, 1) := by decide +kernel
theorem dX7_lastsBy_1 : decode cX7_lastsBy 1 = .ok (.tableswitch 59 1 5 #[35, 42, 59, 47, 54], 35) := by decide +kernel
theorem dX7_lastsBy_36 : decode cX7_lastsBy 36 = .ok (.bipush 10, 2) := by decide +kernel
theorem dX7_lastsBy_38 : decode cX7_lastsBy 38 = .ok (.iload_n 1, 1) := by decide +kernel
theorem dX7_lastsBy_39 : decode cX7_lastsBy 39 = .ok (.iconst 2, 1) := by decide +kernel
theorem dX7_lastsBy_40 : decode cX7_lastsBy 40 = .ok (.idiv, 1) := by decide +kernel
theorem dX7_lastsBy_41 : decode cX7_lastsBy 41 = .ok (.iadd, 1) := by decide +kernel
theorem dX7_lastsBy_42 : decode cX7_lastsBy 42 = .ok (.ireturn, 1) := by decide +kernel
theorem dX7_lastsBy_43 : decode cX7_lastsBy 43 = .ok (.bipush 23, 2) := by decide +kernel
theorem dX7_lastsBy_45 : decode cX7_lastsBy 45 = .ok (.iload_n 1, 1) := by decide +kernel
theorem dX7_lastsBy_46 : decode cX7_lastsBy 46 = .ok (.iadd, 1) := by decide +kernel
theorem dX7_lastsBy_47 : decode cX7_lastsBy 47 = .ok (.ireturn, 1) := by decide +kernel
theorem dX7_lastsBy_48 : decode cX7_lastsBy 48 = .ok (.bipush 8, 2) := by decide +kernel
theorem dX7_lastsBy_50 : decode cX7_lastsBy 50 = .ok (.iload_n 1, 1) := by decide +kernel
theorem dX7_lastsBy_51 : decode cX7_lastsBy 51 = .ok (.iconst 2, 1) := by decide +kernel
theorem dX7_lastsBy_52 : decode cX7_lastsBy 52 = .ok (.idiv, 1) := by decide +kernel
theorem dX7_lastsBy_53 : decode cX7_lastsBy 53 = .ok (.iadd, 1) := by decide +kernel
theorem dX7_lastsBy_54 : decode cX7_lastsBy 54 = .ok (.ireturn, 1) := by decide +kernel
theorem dX7_lastsBy_55 : decode cX7_lastsBy 55 = .ok (.bipush 28, 2) := by decide +kernel
theorem dX7_lastsBy_57 : decode cX7_lastsBy 57 = .ok (.iload_n 1, 1) := by decide +kernel
theorem dX7_lastsBy_58 : decode cX7_lastsBy 58 = .ok (.iadd, 1) := by decide +kernel
theorem dX7_lastsBy_59 : decode cX7_lastsBy 59 = .ok (.ireturn, 1) := by decide +kernel
theorem dX7_lastsBy_60 : decode cX7_lastsBy 60 = .ok (.bipush 15, 2) := by decide +kernel
theorem dX7_lastsBy_62 : decode cX7_lastsBy 62 = .ok (.iload_n 1, 1) := by decide +kernel
theorem dX7_lastsBy_63 : decode cX7_lastsBy 63 = .ok (.iadd, 1) := by decide +kernel
theorem dX7_lastsBy_64 : decode cX7_lastsBy 64 = .ok (.ireturn, 1) := by decide +kernel
theorem dX7_readyOf_0 : decode cX7_readyOf 0 = .ok (.aload_n 0, 1) := by decide +kernel
theorem dX7_readyOf_1 : decode cX7_readyOf 1 = .ok (.getfield 16, 3) := by decide +kernel
theorem dX7_readyOf_4 : decode cX7_readyOf 4 = .ok (.iload_n 1, 1) := by decide +kernel
theorem dX7_readyOf_5 : decode cX7_readyOf 5 = .ok (.iaload, 1) := by decide +kernel
theorem dX7_readyOf_6 : decode cX7_readyOf 6 = .ok (.istore_n 2, 1) := by decide +kernel
theorem dX7_readyOf_7 : decode cX7_readyOf 7 = .ok (.aload_n 0, 1) := by decide +kernel
theorem dX7_readyOf_8 : decode cX7_readyOf 8 = .ok (.getfield 7, 3) := by decide +kernel
theorem dX7_readyOf_11 : decode cX7_readyOf 11 = .ok (.iload_n 1, 1) := by decide +kernel
theorem dX7_readyOf_12 : decode cX7_readyOf 12 = .ok (.iaload, 1) := by decide +kernel
theorem dX7_readyOf_13 : decode cX7_readyOf 13 = .ok (.tableswitch 66 0 4 #[35, 37, 66, 45, 57], 35) := by decide +kernel
theorem dX7_readyOf_48 : decode cX7_readyOf 48 = .ok (.iload_n 2, 1) := by decide +kernel
theorem dX7_readyOf_49 : decode cX7_readyOf 49 = .ok (.ireturn, 1) := by decide +kernel
theorem dX7_readyOf_50 : decode cX7_readyOf 50 = .ok (.iconst 0, 1) := by decide +kernel
theorem dX7_readyOf_51 : decode cX7_readyOf 51 = .ok (.iload_n 2, 1) := by decide +kernel
theorem dX7_readyOf_52 : decode cX7_readyOf 52 = .ok (.iconst 5, 1) := by decide +kernel
theorem dX7_readyOf_53 : decode cX7_readyOf 53 = .ok (.isub, 1) := by decide +kernel
theorem dX7_readyOf_54 : decode cX7_readyOf 54 = .ok (.invokestatic 90, 3) := by decide +kernel
theorem dX7_readyOf_57 : decode cX7_readyOf 57 = .ok (.ireturn, 1) := by decide +kernel
theorem dX7_readyOf_58 : decode cX7_readyOf 58 = .ok (.iload_n 2, 1) := by decide +kernel
theorem dX7_readyOf_59 : decode cX7_readyOf 59 = .ok (.aload_n 0, 1) := by decide +kernel
theorem dX7_readyOf_60 : decode cX7_readyOf 60 = .ok (.getfield 13, 3) := by decide +kernel
theorem dX7_readyOf_63 : decode cX7_readyOf 63 = .ok (.iload_n 1, 1) := by decide +kernel
theorem dX7_readyOf_64 : decode cX7_readyOf 64 = .ok (.iaload, 1) := by decide +kernel
theorem dX7_readyOf_65 : decode cX7_readyOf 65 = .ok (.iadd, 1) := by decide +kernel
theorem dX7_readyOf_66 : decode cX7_readyOf 66 = .ok (.bipush 7, 2) := by decide +kernel
theorem dX7_readyOf_68 : decode cX7_readyOf 68 = .ok (.iadd, 1) := by decide +kernel
theorem dX7_readyOf_69 : decode cX7_readyOf 69 = .ok (.ireturn, 1) := by decide +kernel
theorem dX7_readyOf_70 : decode cX7_readyOf 70 = .ok (.iconst 0, 1) := by decide +kernel
theorem dX7_readyOf_71 : decode cX7_readyOf 71 = .ok (.iload_n 2, 1) := by decide +kernel
theorem dX7_readyOf_72 : decode cX7_readyOf 72 = .ok (.bipush 20, 2) := by decide +kernel
theorem dX7_readyOf_74 : decode cX7_readyOf 74 = .ok (.isub, 1) := by decide +kernel
theorem dX7_readyOf_75 : decode cX7_readyOf 75 = .ok (.invokestatic 90, 3) := by decide +kernel
theorem dX7_readyOf_78 : decode cX7_readyOf 78 = .ok (.ireturn, 1) := by decide +kernel
theorem dX7_readyOf_79 : decode cX7_readyOf 79 = .ok (.iload_n 2, 1) := by decide +kernel
theorem dX7_readyOf_80 : decode cX7_readyOf 80 = .ok (.aload_n 0, 1) := by decide +kernel
theorem dX7_readyOf_81 : decode cX7_readyOf 81 = .ok (.getfield 13, 3) := by decide +kernel
theorem dX7_readyOf_84 : decode cX7_readyOf 84 = .ok (.iload_n 1, 1) := by decide +kernel
theorem dX7_readyOf_85 : decode cX7_readyOf 85 = .ok (.iaload, 1) := by decide +kernel
theorem dX7_readyOf_86 : decode cX7_readyOf 86 = .ok (.iconst 2, 1) := by decide +kernel
theorem dX7_readyOf_87 : decode cX7_readyOf 87 = .ok (.idiv, 1) := by decide +kernel
theorem dX7_readyOf_88 : decode cX7_readyOf 88 = .ok (.iadd, 1) := by decide +kernel
theorem dX7_readyOf_89 : decode cX7_readyOf 89 = .ok (.ireturn, 1) := by decide +kernel
theorem dX7_guestsOf_0 : decode cX7_guestsOf 0 = .ok (.aload_n 0, 1) := by decide +kernel
theorem dX7_guestsOf_1 : decode cX7_guestsOf 1 = .ok (.getfield 13, 3) := by decide +kernel
theorem dX7_guestsOf_4 : decode cX7_guestsOf 4 = .ok (.iload_n 1, 1) := by decide +kernel
theorem dX7_guestsOf_5 : decode cX7_guestsOf 5 = .ok (.iaload, 1) := by decide +kernel
theorem dX7_guestsOf_6 : decode cX7_guestsOf 6 = .ok (.iconst 4, 1) := by decide +kernel
theorem dX7_guestsOf_7 : decode cX7_guestsOf 7 = .ok (.iadd, 1) := by decide +kernel
theorem dX7_guestsOf_8 : decode cX7_guestsOf 8 = .ok (.istore_n 2, 1) := by decide +kernel
theorem dX7_guestsOf_9 : decode cX7_guestsOf 9 = .ok (.aload_n 0, 1) := by decide +kernel
theorem dX7_guestsOf_10 : decode cX7_guestsOf 10 = .ok (.getfield 7, 3) := by decide +kernel
theorem dX7_guestsOf_13 : decode cX7_guestsOf 13 = .ok (.iload_n 1, 1) := by decide +kernel
theorem dX7_guestsOf_14 : decode cX7_guestsOf 14 = .ok (.iaload, 1) := by decide +kernel
theorem dX7_guestsOf_15 : decode cX7_guestsOf 15 = .ok (.tableswitch 47 1 5 #[33, 37, 47, 33, 41], 33) := by decide +kernel
theorem dX7_guestsOf_48 : decode cX7_guestsOf 48 = .ok (.iload_n 2, 1) := by decide +kernel
theorem dX7_guestsOf_49 : decode cX7_guestsOf 49 = .ok (.iconst 2, 1) := by decide +kernel
theorem dX7_guestsOf_50 : decode cX7_guestsOf 50 = .ok (.idiv, 1) := by decide +kernel
theorem dX7_guestsOf_51 : decode cX7_guestsOf 51 = .ok (.ireturn, 1) := by decide +kernel
theorem dX7_guestsOf_52 : decode cX7_guestsOf 52 = .ok (.iconst 2, 1) := by decide +kernel
theorem dX7_guestsOf_53 : decode cX7_guestsOf 53 = .ok (.iload_n 2, 1) := by decide +kernel
theorem dX7_guestsOf_54 : decode cX7_guestsOf 54 = .ok (.imul, 1) := by decide +kernel
theorem dX7_guestsOf_55 : decode cX7_guestsOf 55 = .ok (.ireturn, 1) := by decide +kernel
theorem dX7_guestsOf_56 : decode cX7_guestsOf 56 = .ok (.iconst 2, 1) := by decide +kernel
theorem dX7_guestsOf_57 : decode cX7_guestsOf 57 = .ok (.iload_n 2, 1) := by decide +kernel
theorem dX7_guestsOf_58 : decode cX7_guestsOf 58 = .ok (.imul, 1) := by decide +kernel
theorem dX7_guestsOf_59 : decode cX7_guestsOf 59 = .ok (.iconst 3, 1) := by decide +kernel
theorem dX7_guestsOf_60 : decode cX7_guestsOf 60 = .ok (.isub, 1) := by decide +kernel
theorem dX7_guestsOf_61 : decode cX7_guestsOf 61 = .ok (.ireturn, 1) := by decide +kernel
theorem dX7_guestsOf_62 : decode cX7_guestsOf 62 = .ok (.iload_n 2, 1) := by decide +kernel
theorem dX7_guestsOf_63 : decode cX7_guestsOf 63 = .ok (.ireturn, 1) := by decide +kernel
theorem dX7_posesOf_0 : decode cX7_posesOf 0 = .ok (.aload_n 0, 1) := by decide +kernel
theorem dX7_posesOf_1 : decode cX7_posesOf 1 = .ok (.getfield 7, 3) := by decide +kernel
theorem dX7_posesOf_4 : decode cX7_posesOf 4 = .ok (.iload_n 1, 1) := by decide +kernel
theorem dX7_posesOf_5 : decode cX7_posesOf 5 = .ok (.iaload, 1) := by decide +kernel
theorem dX7_posesOf_6 : decode cX7_posesOf 6 = .ok (.iconst 2, 1) := by decide +kernel
theorem dX7_posesOf_7 : decode cX7_posesOf 7 = .ok (.if_icmp .eq 13, 3) := by decide +kernel
theorem dX7_posesOf_10 : decode cX7_posesOf 10 = .ok (.aload_n 0, 1) := by decide +kernel
theorem dX7_posesOf_11 : decode cX7_posesOf 11 = .ok (.getfield 7, 3) := by decide +kernel
theorem dX7_posesOf_14 : decode cX7_posesOf 14 = .ok (.iload_n 1, 1) := by decide +kernel
theorem dX7_posesOf_15 : decode cX7_posesOf 15 = .ok (.iaload, 1) := by decide +kernel
theorem dX7_posesOf_16 : decode cX7_posesOf 16 = .ok (.iconst 5, 1) := by decide +kernel
theorem dX7_posesOf_17 : decode cX7_posesOf 17 = .ok (.if_icmp .ne 14, 3) := by decide +kernel
theorem dX7_posesOf_20 : decode cX7_posesOf 20 = .ok (.iconst 3, 1) := by decide +kernel
theorem dX7_posesOf_21 : decode cX7_posesOf 21 = .ok (.aload_n 0, 1) := by decide +kernel
theorem dX7_posesOf_22 : decode cX7_posesOf 22 = .ok (.getfield 13, 3) := by decide +kernel
theorem dX7_posesOf_25 : decode cX7_posesOf 25 = .ok (.iload_n 1, 1) := by decide +kernel
theorem dX7_posesOf_26 : decode cX7_posesOf 26 = .ok (.iaload, 1) := by decide +kernel
theorem dX7_posesOf_27 : decode cX7_posesOf 27 = .ok (.iadd, 1) := by decide +kernel
theorem dX7_posesOf_28 : decode cX7_posesOf 28 = .ok (.goto 4, 3) := by decide +kernel
theorem dX7_posesOf_31 : decode cX7_posesOf 31 = .ok (.iconst 3, 1) := by decide +kernel
theorem dX7_posesOf_32 : decode cX7_posesOf 32 = .ok (.ireturn, 1) := by decide +kernel
theorem dX7_restFor_0 : decode cX7_restFor 0 = .ok (.aload_n 0, 1) := by decide +kernel
theorem dX7_restFor_1 : decode cX7_restFor 1 = .ok (.iconst 0, 1) := by decide +kernel
theorem dX7_restFor_2 : decode cX7_restFor 2 = .ok (.putfield 94, 3) := by decide +kernel
theorem dX7_restFor_5 : decode cX7_restFor 5 = .ok (.iconst 0, 1) := by decide +kernel
theorem dX7_restFor_6 : decode cX7_restFor 6 = .ok (.istore_n 2, 1) := by decide +kernel
theorem dX7_restFor_7 : decode cX7_restFor 7 = .ok (.iload_n 2, 1) := by decide +kernel
theorem dX7_restFor_8 : decode cX7_restFor 8 = .ok (.aload_n 0, 1) := by decide +kernel
theorem dX7_restFor_9 : decode cX7_restFor 9 = .ok (.getfield 80, 3) := by decide +kernel
theorem dX7_restFor_12 : decode cX7_restFor 12 = .ok (.if_icmp .ge 29, 3) := by decide +kernel
theorem dX7_restFor_15 : decode cX7_restFor 15 = .ok (.aload_n 0, 1) := by decide +kernel
theorem dX7_restFor_16 : decode cX7_restFor 16 = .ok (.getfield 34, 3) := by decide +kernel
theorem dX7_restFor_19 : decode cX7_restFor 19 = .ok (.iload_n 2, 1) := by decide +kernel
theorem dX7_restFor_20 : decode cX7_restFor 20 = .ok (.sipush 999, 3) := by decide +kernel
theorem dX7_restFor_23 : decode cX7_restFor 23 = .ok (.aload_n 0, 1) := by decide +kernel
theorem dX7_restFor_24 : decode cX7_restFor 24 = .ok (.getfield 34, 3) := by decide +kernel
theorem dX7_restFor_27 : decode cX7_restFor 27 = .ok (.iload_n 2, 1) := by decide +kernel
theorem dX7_restFor_28 : decode cX7_restFor 28 = .ok (.iaload, 1) := by decide +kernel
theorem dX7_restFor_29 : decode cX7_restFor 29 = .ok (.iload_n 1, 1) := by decide +kernel
theorem dX7_restFor_30 : decode cX7_restFor 30 = .ok (.iadd, 1) := by decide +kernel
theorem dX7_restFor_31 : decode cX7_restFor 31 = .ok (.invokestatic 97, 3) := by decide +kernel
theorem dX7_restFor_34 : decode cX7_restFor 34 = .ok (.iastore, 1) := by decide +kernel
theorem dX7_restFor_35 : decode cX7_restFor 35 = .ok (.iinc 2 1, 3) := by decide +kernel
theorem dX7_restFor_38 : decode cX7_restFor 38 = .ok (.goto (-31), 3) := by decide +kernel
theorem dX7_restFor_41 : decode cX7_restFor 41 = .ok (.return_, 1) := by decide +kernel
theorem dX7_firstOff_0 : decode cX7_firstOff 0 = .ok (.aload_n 0, 1) := by decide +kernel
theorem dX7_firstOff_1 : decode cX7_firstOff 1 = .ok (.getfield 31, 3) := by decide +kernel
theorem dX7_firstOff_4 : decode cX7_firstOff 4 = .ok (.iconst 0, 1) := by decide +kernel
theorem dX7_firstOff_5 : decode cX7_firstOff 5 = .ok (.iaload, 1) := by decide +kernel
theorem dX7_firstOff_6 : decode cX7_firstOff 6 = .ok (.istore_n 1, 1) := by decide +kernel
theorem dX7_firstOff_7 : decode cX7_firstOff 7 = .ok (.iconst 1, 1) := by decide +kernel
theorem dX7_firstOff_8 : decode cX7_firstOff 8 = .ok (.istore_n 2, 1) := by decide +kernel
theorem dX7_firstOff_9 : decode cX7_firstOff 9 = .ok (.iload_n 2, 1) := by decide +kernel
theorem dX7_firstOff_10 : decode cX7_firstOff 10 = .ok (.aload_n 0, 1) := by decide +kernel
theorem dX7_firstOff_11 : decode cX7_firstOff 11 = .ok (.getfield 100, 3) := by decide +kernel
theorem dX7_firstOff_14 : decode cX7_firstOff 14 = .ok (.if_icmp .ge 23, 3) := by decide +kernel
theorem dX7_firstOff_17 : decode cX7_firstOff 17 = .ok (.aload_n 0, 1) := by decide +kernel
theorem dX7_firstOff_18 : decode cX7_firstOff 18 = .ok (.getfield 31, 3) := by decide +kernel
theorem dX7_firstOff_21 : decode cX7_firstOff 21 = .ok (.iload_n 2, 1) := by decide +kernel
theorem dX7_firstOff_22 : decode cX7_firstOff 22 = .ok (.iconst 1, 1) := by decide +kernel
theorem dX7_firstOff_23 : decode cX7_firstOff 23 = .ok (.isub, 1) := by decide +kernel
theorem dX7_firstOff_24 : decode cX7_firstOff 24 = .ok (.aload_n 0, 1) := by decide +kernel
theorem dX7_firstOff_25 : decode cX7_firstOff 25 = .ok (.getfield 31, 3) := by decide +kernel
theorem dX7_firstOff_28 : decode cX7_firstOff 28 = .ok (.iload_n 2, 1) := by decide +kernel
theorem dX7_firstOff_29 : decode cX7_firstOff 29 = .ok (.iaload, 1) := by decide +kernel
theorem dX7_firstOff_30 : decode cX7_firstOff 30 = .ok (.iastore, 1) := by decide +kernel
theorem dX7_firstOff_31 : decode cX7_firstOff 31 = .ok (.iinc 2 1, 3) := by decide +kernel
theorem dX7_firstOff_34 : decode cX7_firstOff 34 = .ok (.goto (-25), 3) := by decide +kernel
theorem dX7_firstOff_37 : decode cX7_firstOff 37 = .ok (.aload_n 0, 1) := by decide +kernel
theorem dX7_firstOff_38 : decode cX7_firstOff 38 = .ok (.dup, 1) := by decide +kernel
theorem dX7_firstOff_39 : decode cX7_firstOff 39 = .ok (.getfield 100, 3) := by decide +kernel
theorem dX7_firstOff_42 : decode cX7_firstOff 42 = .ok (.iconst 1, 1) := by decide +kernel
theorem dX7_firstOff_43 : decode cX7_firstOff 43 = .ok (.isub, 1) := by decide +kernel
theorem dX7_firstOff_44 : decode cX7_firstOff 44 = .ok (.putfield 100, 3) := by decide +kernel
theorem dX7_firstOff_47 : decode cX7_firstOff 47 = .ok (.iload_n 1, 1) := by decide +kernel
theorem dX7_firstOff_48 : decode cX7_firstOff 48 = .ok (.ireturn, 1) := by decide +kernel
theorem dX7_wedOne_0 : decode cX7_wedOne 0 = .ok (.aload_n 0, 1) := by decide +kernel
theorem dX7_wedOne_1 : decode cX7_wedOne 1 = .ok (.invokevirtual 103, 3) := by decide +kernel
theorem dX7_wedOne_4 : decode cX7_wedOne 4 = .ok (.istore_n 2, 1) := by decide +kernel
theorem dX7_wedOne_5 : decode cX7_wedOne 5 = .ok (.aload_n 0, 1) := by decide +kernel
theorem dX7_wedOne_6 : decode cX7_wedOne 6 = .ok (.getfield 80, 3) := by decide +kernel
theorem dX7_wedOne_9 : decode cX7_wedOne 9 = .ok (.iconst 2, 1) := by decide +kernel
theorem dX7_wedOne_10 : decode cX7_wedOne 10 = .ok (.if_icmp .ne 22, 3) := by decide +kernel
theorem dX7_wedOne_13 : decode cX7_wedOne 13 = .ok (.aload_n 0, 1) := by decide +kernel
theorem dX7_wedOne_14 : decode cX7_wedOne 14 = .ok (.getfield 34, 3) := by decide +kernel
theorem dX7_wedOne_17 : decode cX7_wedOne 17 = .ok (.iconst 1, 1) := by decide +kernel
theorem dX7_wedOne_18 : decode cX7_wedOne 18 = .ok (.iaload, 1) := by decide +kernel
theorem dX7_wedOne_19 : decode cX7_wedOne 19 = .ok (.aload_n 0, 1) := by decide +kernel
theorem dX7_wedOne_20 : decode cX7_wedOne 20 = .ok (.getfield 34, 3) := by decide +kernel
theorem dX7_wedOne_23 : decode cX7_wedOne 23 = .ok (.iconst 0, 1) := by decide +kernel
theorem dX7_wedOne_24 : decode cX7_wedOne 24 = .ok (.iaload, 1) := by decide +kernel
theorem dX7_wedOne_25 : decode cX7_wedOne 25 = .ok (.if_icmp .ge 7, 3) := by decide +kernel
theorem dX7_wedOne_28 : decode cX7_wedOne 28 = .ok (.iconst 1, 1) := by decide +kernel
theorem dX7_wedOne_29 : decode cX7_wedOne 29 = .ok (.goto 4, 3) := by decide +kernel
theorem dX7_wedOne_32 : decode cX7_wedOne 32 = .ok (.iconst 0, 1) := by decide +kernel
theorem dX7_wedOne_33 : decode cX7_wedOne 33 = .ok (.istore_n 3, 1) := by decide +kernel
theorem dX7_wedOne_34 : decode cX7_wedOne 34 = .ok (.aload_n 0, 1) := by decide +kernel
theorem dX7_wedOne_35 : decode cX7_wedOne 35 = .ok (.getfield 34, 3) := by decide +kernel
theorem dX7_wedOne_38 : decode cX7_wedOne 38 = .ok (.iload_n 3, 1) := by decide +kernel
theorem dX7_wedOne_39 : decode cX7_wedOne 39 = .ok (.iaload, 1) := by decide +kernel
theorem dX7_wedOne_40 : decode cX7_wedOne 40 = .ok (.aload_n 0, 1) := by decide +kernel
theorem dX7_wedOne_41 : decode cX7_wedOne 41 = .ok (.iload_n 2, 1) := by decide +kernel
theorem dX7_wedOne_42 : decode cX7_wedOne 42 = .ok (.invokevirtual 107, 3) := by decide +kernel
theorem dX7_wedOne_45 : decode cX7_wedOne 45 = .ok (.invokestatic 90, 3) := by decide +kernel
theorem dX7_wedOne_48 : decode cX7_wedOne 48 = .ok (.istore 4, 2) := by decide +kernel
theorem dX7_wedOne_50 : decode cX7_wedOne 50 = .ok (.aload_n 0, 1) := by decide +kernel
theorem dX7_wedOne_51 : decode cX7_wedOne 51 = .ok (.getfield 7, 3) := by decide +kernel
theorem dX7_wedOne_54 : decode cX7_wedOne 54 = .ok (.iload_n 2, 1) := by decide +kernel
theorem dX7_wedOne_55 : decode cX7_wedOne 55 = .ok (.iaload, 1) := by decide +kernel
theorem dX7_wedOne_56 : decode cX7_wedOne 56 = .ok (.iconst 4, 1) := by decide +kernel
theorem dX7_wedOne_57 : decode cX7_wedOne 57 = .ok (.if_icmp .ne 8, 3) := by decide +kernel
theorem dX7_wedOne_60 : decode cX7_wedOne 60 = .ok (.iload 4, 2) := by decide +kernel
theorem dX7_wedOne_62 : decode cX7_wedOne 62 = .ok (.goto 14, 3) := by decide +kernel
theorem dX7_wedOne_65 : decode cX7_wedOne 65 = .ok (.iload 4, 2) := by decide +kernel
theorem dX7_wedOne_67 : decode cX7_wedOne 67 = .ok (.aload_n 0, 1) := by decide +kernel
theorem dX7_wedOne_68 : decode cX7_wedOne 68 = .ok (.getfield 16, 3) := by decide +kernel
theorem dX7_wedOne_71 : decode cX7_wedOne 71 = .ok (.iload_n 2, 1) := by decide +kernel
theorem dX7_wedOne_72 : decode cX7_wedOne 72 = .ok (.iaload, 1) := by decide +kernel
theorem dX7_wedOne_73 : decode cX7_wedOne 73 = .ok (.invokestatic 90, 3) := by decide +kernel
theorem dX7_wedOne_76 : decode cX7_wedOne 76 = .ok (.istore 4, 2) := by decide +kernel
theorem dX7_wedOne_78 : decode cX7_wedOne 78 = .ok (.aload_n 0, 1) := by decide +kernel
theorem dX7_wedOne_79 : decode cX7_wedOne 79 = .ok (.getfield 7, 3) := by decide +kernel
theorem dX7_wedOne_82 : decode cX7_wedOne 82 = .ok (.iload_n 2, 1) := by decide +kernel
theorem dX7_wedOne_83 : decode cX7_wedOne 83 = .ok (.iaload, 1) := by decide +kernel
theorem dX7_wedOne_84 : decode cX7_wedOne 84 = .ok (.aload_n 0, 1) := by decide +kernel
theorem dX7_wedOne_85 : decode cX7_wedOne 85 = .ok (.getfield 13, 3) := by decide +kernel
theorem dX7_wedOne_88 : decode cX7_wedOne 88 = .ok (.iload_n 2, 1) := by decide +kernel
theorem dX7_wedOne_89 : decode cX7_wedOne 89 = .ok (.iaload, 1) := by decide +kernel
theorem dX7_wedOne_90 : decode cX7_wedOne 90 = .ok (.invokestatic 111, 3) := by decide +kernel
theorem dX7_wedOne_93 : decode cX7_wedOne 93 = .ok (.aload_n 0, 1) := by decide +kernel
theorem dX7_wedOne_94 : decode cX7_wedOne 94 = .ok (.getfield 94, 3) := by decide +kernel
theorem dX7_wedOne_97 : decode cX7_wedOne 97 = .ok (.bipush 30, 2) := by decide +kernel
theorem dX7_wedOne_99 : decode cX7_wedOne 99 = .ok (.if_icmp .lt 7, 3) := by decide +kernel
theorem dX7_wedOne_102 : decode cX7_wedOne 102 = .ok (.iconst 2, 1) := by decide +kernel
theorem dX7_wedOne_103 : decode cX7_wedOne 103 = .ok (.goto 4, 3) := by decide +kernel
theorem dX7_wedOne_106 : decode cX7_wedOne 106 = .ok (.iconst 0, 1) := by decide +kernel
theorem dX7_wedOne_107 : decode cX7_wedOne 107 = .ok (.iadd, 1) := by decide +kernel
theorem dX7_wedOne_108 : decode cX7_wedOne 108 = .ok (.iload_n 1, 1) := by decide +kernel
theorem dX7_wedOne_109 : decode cX7_wedOne 109 = .ok (.iadd, 1) := by decide +kernel
theorem dX7_wedOne_110 : decode cX7_wedOne 110 = .ok (.istore 5, 2) := by decide +kernel
theorem dX7_wedOne_112 : decode cX7_wedOne 112 = .ok (.aload_n 0, 1) := by decide +kernel
theorem dX7_wedOne_113 : decode cX7_wedOne 113 = .ok (.getfield 19, 3) := by decide +kernel
theorem dX7_wedOne_116 : decode cX7_wedOne 116 = .ok (.iload_n 2, 1) := by decide +kernel
theorem dX7_wedOne_117 : decode cX7_wedOne 117 = .ok (.iconst 1, 1) := by decide +kernel
theorem dX7_wedOne_118 : decode cX7_wedOne 118 = .ok (.iastore, 1) := by decide +kernel
theorem dX7_wedOne_119 : decode cX7_wedOne 119 = .ok (.aload_n 0, 1) := by decide +kernel
theorem dX7_wedOne_120 : decode cX7_wedOne 120 = .ok (.getfield 22, 3) := by decide +kernel
theorem dX7_wedOne_123 : decode cX7_wedOne 123 = .ok (.iload_n 2, 1) := by decide +kernel
theorem dX7_wedOne_124 : decode cX7_wedOne 124 = .ok (.iload 4, 2) := by decide +kernel
theorem dX7_wedOne_126 : decode cX7_wedOne 126 = .ok (.iastore, 1) := by decide +kernel
theorem dX7_wedOne_127 : decode cX7_wedOne 127 = .ok (.aload_n 0, 1) := by decide +kernel
theorem dX7_wedOne_128 : decode cX7_wedOne 128 = .ok (.getfield 25, 3) := by decide +kernel
theorem dX7_wedOne_131 : decode cX7_wedOne 131 = .ok (.iload_n 2, 1) := by decide +kernel
theorem dX7_wedOne_132 : decode cX7_wedOne 132 = .ok (.sipush 999, 3) := by decide +kernel
theorem dX7_wedOne_135 : decode cX7_wedOne 135 = .ok (.iload 4, 2) := by decide +kernel
theorem dX7_wedOne_137 : decode cX7_wedOne 137 = .ok (.iload 5, 2) := by decide +kernel
theorem dX7_wedOne_139 : decode cX7_wedOne 139 = .ok (.iadd, 1) := by decide +kernel
theorem dX7_wedOne_140 : decode cX7_wedOne 140 = .ok (.invokestatic 97, 3) := by decide +kernel
theorem dX7_wedOne_143 : decode cX7_wedOne 143 = .ok (.iastore, 1) := by decide +kernel
theorem dX7_wedOne_144 : decode cX7_wedOne 144 = .ok (.aload_n 0, 1) := by decide +kernel
theorem dX7_wedOne_145 : decode cX7_wedOne 145 = .ok (.getfield 28, 3) := by decide +kernel
theorem dX7_wedOne_148 : decode cX7_wedOne 148 = .ok (.iload_n 2, 1) := by decide +kernel
theorem dX7_wedOne_149 : decode cX7_wedOne 149 = .ok (.iload_n 3, 1) := by decide +kernel
theorem dX7_wedOne_150 : decode cX7_wedOne 150 = .ok (.iastore, 1) := by decide +kernel
theorem dX7_wedOne_151 : decode cX7_wedOne 151 = .ok (.aload_n 0, 1) := by decide +kernel
theorem dX7_wedOne_152 : decode cX7_wedOne 152 = .ok (.getfield 34, 3) := by decide +kernel
theorem dX7_wedOne_155 : decode cX7_wedOne 155 = .ok (.iload_n 3, 1) := by decide +kernel
theorem dX7_wedOne_156 : decode cX7_wedOne 156 = .ok (.sipush 999, 3) := by decide +kernel
theorem dX7_wedOne_159 : decode cX7_wedOne 159 = .ok (.aload_n 0, 1) := by decide +kernel
theorem dX7_wedOne_160 : decode cX7_wedOne 160 = .ok (.getfield 25, 3) := by decide +kernel
theorem dX7_wedOne_163 : decode cX7_wedOne 163 = .ok (.iload_n 2, 1) := by decide +kernel
theorem dX7_wedOne_164 : decode cX7_wedOne 164 = .ok (.iaload, 1) := by decide +kernel
theorem dX7_wedOne_165 : decode cX7_wedOne 165 = .ok (.aload_n 0, 1) := by decide +kernel
theorem dX7_wedOne_166 : decode cX7_wedOne 166 = .ok (.getfield 114, 3) := by decide +kernel
theorem dX7_wedOne_169 : decode cX7_wedOne 169 = .ok (.iadd, 1) := by decide +kernel
theorem dX7_wedOne_170 : decode cX7_wedOne 170 = .ok (.invokestatic 97, 3) := by decide +kernel
theorem dX7_wedOne_173 : decode cX7_wedOne 173 = .ok (.iastore, 1) := by decide +kernel
theorem dX7_wedOne_174 : decode cX7_wedOne 174 = .ok (.aload_n 0, 1) := by decide +kernel
theorem dX7_wedOne_175 : decode cX7_wedOne 175 = .ok (.bipush 99, 2) := by decide +kernel
theorem dX7_wedOne_177 : decode cX7_wedOne 177 = .ok (.aload_n 0, 1) := by decide +kernel
theorem dX7_wedOne_178 : decode cX7_wedOne 178 = .ok (.getfield 94, 3) := by decide +kernel
theorem dX7_wedOne_181 : decode cX7_wedOne 181 = .ok (.iload 5, 2) := by decide +kernel
theorem dX7_wedOne_183 : decode cX7_wedOne 183 = .ok (.iconst 4, 1) := by decide +kernel
theorem dX7_wedOne_184 : decode cX7_wedOne 184 = .ok (.idiv, 1) := by decide +kernel
theorem dX7_wedOne_185 : decode cX7_wedOne 185 = .ok (.iadd, 1) := by decide +kernel
theorem dX7_wedOne_186 : decode cX7_wedOne 186 = .ok (.invokestatic 97, 3) := by decide +kernel
theorem dX7_wedOne_189 : decode cX7_wedOne 189 = .ok (.putfield 94, 3) := by decide +kernel
theorem dX7_wedOne_192 : decode cX7_wedOne 192 = .ok (.return_, 1) := by decide +kernel
theorem dX7_wedAll_0 : decode cX7_wedAll 0 = .ok (.aload_n 0, 1) := by decide +kernel
theorem dX7_wedAll_1 : decode cX7_wedAll 1 = .ok (.getfield 100, 3) := by decide +kernel
theorem dX7_wedAll_4 : decode cX7_wedAll 4 = .ok (.ifCond .le 11, 3) := by decide +kernel
theorem dX7_wedAll_7 : decode cX7_wedAll 7 = .ok (.aload_n 0, 1) := by decide +kernel
theorem dX7_wedAll_8 : decode cX7_wedAll 8 = .ok (.iconst 0, 1) := by decide +kernel
theorem dX7_wedAll_9 : decode cX7_wedAll 9 = .ok (.invokevirtual 117, 3) := by decide +kernel
theorem dX7_wedAll_12 : decode cX7_wedAll 12 = .ok (.goto (-12), 3) := by decide +kernel
theorem dX7_wedAll_15 : decode cX7_wedAll 15 = .ok (.return_, 1) := by decide +kernel
theorem dX7_lateOf_0 : decode cX7_lateOf 0 = .ok (.iconst 0, 1) := by decide +kernel
theorem dX7_lateOf_1 : decode cX7_lateOf 1 = .ok (.aload_n 0, 1) := by decide +kernel
theorem dX7_lateOf_2 : decode cX7_lateOf 2 = .ok (.getfield 22, 3) := by decide +kernel
theorem dX7_lateOf_5 : decode cX7_lateOf 5 = .ok (.iload_n 1, 1) := by decide +kernel
theorem dX7_lateOf_6 : decode cX7_lateOf 6 = .ok (.iaload, 1) := by decide +kernel
theorem dX7_lateOf_7 : decode cX7_lateOf 7 = .ok (.aload_n 0, 1) := by decide +kernel
theorem dX7_lateOf_8 : decode cX7_lateOf 8 = .ok (.getfield 16, 3) := by decide +kernel
theorem dX7_lateOf_11 : decode cX7_lateOf 11 = .ok (.iload_n 1, 1) := by decide +kernel
theorem dX7_lateOf_12 : decode cX7_lateOf 12 = .ok (.iaload, 1) := by decide +kernel
theorem dX7_lateOf_13 : decode cX7_lateOf 13 = .ok (.isub, 1) := by decide +kernel
theorem dX7_lateOf_14 : decode cX7_lateOf 14 = .ok (.invokestatic 90, 3) := by decide +kernel
theorem dX7_lateOf_17 : decode cX7_lateOf 17 = .ok (.ireturn, 1) := by decide +kernel
theorem dX7_allLate_0 : decode cX7_allLate 0 = .ok (.iconst 0, 1) := by decide +kernel
theorem dX7_allLate_1 : decode cX7_allLate 1 = .ok (.istore_n 1, 1) := by decide +kernel
theorem dX7_allLate_2 : decode cX7_allLate 2 = .ok (.iconst 0, 1) := by decide +kernel
theorem dX7_allLate_3 : decode cX7_allLate 3 = .ok (.istore_n 2, 1) := by decide +kernel
theorem dX7_allLate_4 : decode cX7_allLate 4 = .ok (.iload_n 2, 1) := by decide +kernel
theorem dX7_allLate_5 : decode cX7_allLate 5 = .ok (.aload_n 0, 1) := by decide +kernel
theorem dX7_allLate_6 : decode cX7_allLate 6 = .ok (.getfield 83, 3) := by decide +kernel
theorem dX7_allLate_9 : decode cX7_allLate 9 = .ok (.if_icmp .ge 17, 3) := by decide +kernel
theorem dX7_allLate_12 : decode cX7_allLate 12 = .ok (.iload_n 1, 1) := by decide +kernel
theorem dX7_allLate_13 : decode cX7_allLate 13 = .ok (.aload_n 0, 1) := by decide +kernel
theorem dX7_allLate_14 : decode cX7_allLate 14 = .ok (.iload_n 2, 1) := by decide +kernel
theorem dX7_allLate_15 : decode cX7_allLate 15 = .ok (.invokevirtual 121, 3) := by decide +kernel
theorem dX7_allLate_18 : decode cX7_allLate 18 = .ok (.iadd, 1) := by decide +kernel
theorem dX7_allLate_19 : decode cX7_allLate 19 = .ok (.istore_n 1, 1) := by decide +kernel
theorem dX7_allLate_20 : decode cX7_allLate 20 = .ok (.iinc 2 1, 3) := by decide +kernel
theorem dX7_allLate_23 : decode cX7_allLate 23 = .ok (.goto (-19), 3) := by decide +kernel
theorem dX7_allLate_26 : decode cX7_allLate 26 = .ok (.iload_n 1, 1) := by decide +kernel
theorem dX7_allLate_27 : decode cX7_allLate 27 = .ok (.ireturn, 1) := by decide +kernel
theorem dX7_lastEnd_0 : decode cX7_lastEnd 0 = .ok (.iconst 0, 1) := by decide +kernel
theorem dX7_lastEnd_1 : decode cX7_lastEnd 1 = .ok (.istore_n 1, 1) := by decide +kernel
theorem dX7_lastEnd_2 : decode cX7_lastEnd 2 = .ok (.iconst 0, 1) := by decide +kernel
theorem dX7_lastEnd_3 : decode cX7_lastEnd 3 = .ok (.istore_n 2, 1) := by decide +kernel
theorem dX7_lastEnd_4 : decode cX7_lastEnd 4 = .ok (.iload_n 2, 1) := by decide +kernel
theorem dX7_lastEnd_5 : decode cX7_lastEnd 5 = .ok (.aload_n 0, 1) := by decide +kernel
theorem dX7_lastEnd_6 : decode cX7_lastEnd 6 = .ok (.getfield 83, 3) := by decide +kernel
theorem dX7_lastEnd_9 : decode cX7_lastEnd 9 = .ok (.if_icmp .ge 20, 3) := by decide +kernel
theorem dX7_lastEnd_12 : decode cX7_lastEnd 12 = .ok (.iload_n 1, 1) := by decide +kernel
theorem dX7_lastEnd_13 : decode cX7_lastEnd 13 = .ok (.aload_n 0, 1) := by decide +kernel
theorem dX7_lastEnd_14 : decode cX7_lastEnd 14 = .ok (.getfield 25, 3) := by decide +kernel
theorem dX7_lastEnd_17 : decode cX7_lastEnd 17 = .ok (.iload_n 2, 1) := by decide +kernel
theorem dX7_lastEnd_18 : decode cX7_lastEnd 18 = .ok (.iaload, 1) := by decide +kernel
theorem dX7_lastEnd_19 : decode cX7_lastEnd 19 = .ok (.invokestatic 90, 3) := by decide +kernel
theorem dX7_lastEnd_22 : decode cX7_lastEnd 22 = .ok (.istore_n 1, 1) := by decide +kernel
theorem dX7_lastEnd_23 : decode cX7_lastEnd 23 = .ok (.iinc 2 1, 3) := by decide +kernel
theorem dX7_lastEnd_26 : decode cX7_lastEnd 26 = .ok (.goto (-22), 3) := by decide +kernel
theorem dX7_lastEnd_29 : decode cX7_lastEnd 29 = .ok (.iload_n 1, 1) := by decide +kernel
theorem dX7_lastEnd_30 : decode cX7_lastEnd 30 = .ok (.ireturn, 1) := by decide +kernel
theorem dX7_isNear_0 : decode cX7_isNear 0 = .ok (.iload_n 0, 1) := by decide +kernel
theorem dX7_isNear_1 : decode cX7_isNear 1 = .ok (.iload_n 1, 1) := by decide +kernel
theorem dX7_isNear_2 : decode cX7_isNear 2 = .ok (.isub, 1) := by decide +kernel
theorem dX7_isNear_3 : decode cX7_isNear 3 = .ok (.i2l, 1) := by decide +kernel
theorem dX7_isNear_4 : decode cX7_isNear 4 = .ok (.ldc2_w 124, 3) := by decide +kernel
theorem dX7_isNear_7 : decode cX7_isNear 7 = .ok (.ldc2_w 126, 3) := by decide +kernel
theorem dX7_isNear_10 : decode cX7_isNear 10 = .ok (.invokestatic 86, 3) := by decide +kernel
theorem dX7_isNear_13 : decode cX7_isNear 13 = .ok (.ireturn, 1) := by decide +kernel
theorem dX7_meet_0 : decode cX7_meet 0 = .ok (.iload_n 1, 1) := by decide +kernel
theorem dX7_meet_1 : decode cX7_meet 1 = .ok (.iload_n 2, 1) := by decide +kernel
theorem dX7_meet_2 : decode cX7_meet 2 = .ok (.if_icmp .eq 43, 3) := by decide +kernel
theorem dX7_meet_5 : decode cX7_meet 5 = .ok (.aload_n 0, 1) := by decide +kernel
theorem dX7_meet_6 : decode cX7_meet 6 = .ok (.getfield 25, 3) := by decide +kernel
theorem dX7_meet_9 : decode cX7_meet 9 = .ok (.iload_n 1, 1) := by decide +kernel
theorem dX7_meet_10 : decode cX7_meet 10 = .ok (.iaload, 1) := by decide +kernel
theorem dX7_meet_11 : decode cX7_meet 11 = .ok (.aload_n 0, 1) := by decide +kernel
theorem dX7_meet_12 : decode cX7_meet 12 = .ok (.getfield 22, 3) := by decide +kernel
theorem dX7_meet_15 : decode cX7_meet 15 = .ok (.iload_n 2, 1) := by decide +kernel
theorem dX7_meet_16 : decode cX7_meet 16 = .ok (.iaload, 1) := by decide +kernel
theorem dX7_meet_17 : decode cX7_meet 17 = .ok (.invokestatic 128, 3) := by decide +kernel
theorem dX7_meet_20 : decode cX7_meet 20 = .ok (.ifCond .ne 21, 3) := by decide +kernel
theorem dX7_meet_23 : decode cX7_meet 23 = .ok (.aload_n 0, 1) := by decide +kernel
theorem dX7_meet_24 : decode cX7_meet 24 = .ok (.getfield 25, 3) := by decide +kernel
theorem dX7_meet_27 : decode cX7_meet 27 = .ok (.iload_n 2, 1) := by decide +kernel
theorem dX7_meet_28 : decode cX7_meet 28 = .ok (.iaload, 1) := by decide +kernel
theorem dX7_meet_29 : decode cX7_meet 29 = .ok (.aload_n 0, 1) := by decide +kernel
theorem dX7_meet_30 : decode cX7_meet 30 = .ok (.getfield 22, 3) := by decide +kernel
theorem dX7_meet_33 : decode cX7_meet 33 = .ok (.iload_n 1, 1) := by decide +kernel
theorem dX7_meet_34 : decode cX7_meet 34 = .ok (.iaload, 1) := by decide +kernel
theorem dX7_meet_35 : decode cX7_meet 35 = .ok (.invokestatic 128, 3) := by decide +kernel
theorem dX7_meet_38 : decode cX7_meet 38 = .ok (.ifCond .eq 7, 3) := by decide +kernel
theorem dX7_meet_41 : decode cX7_meet 41 = .ok (.iconst 1, 1) := by decide +kernel
theorem dX7_meet_42 : decode cX7_meet 42 = .ok (.goto 4, 3) := by decide +kernel
theorem dX7_meet_45 : decode cX7_meet 45 = .ok (.iconst 0, 1) := by decide +kernel
theorem dX7_meet_46 : decode cX7_meet 46 = .ok (.ireturn, 1) := by decide +kernel
theorem dX7_meetMany_0 : decode cX7_meetMany 0 = .ok (.iconst 0, 1) := by decide +kernel
theorem dX7_meetMany_1 : decode cX7_meetMany 1 = .ok (.istore_n 1, 1) := by decide +kernel
theorem dX7_meetMany_2 : decode cX7_meetMany 2 = .ok (.iconst 0, 1) := by decide +kernel
theorem dX7_meetMany_3 : decode cX7_meetMany 3 = .ok (.istore_n 2, 1) := by decide +kernel
theorem dX7_meetMany_4 : decode cX7_meetMany 4 = .ok (.iload_n 2, 1) := by decide +kernel
theorem dX7_meetMany_5 : decode cX7_meetMany 5 = .ok (.aload_n 0, 1) := by decide +kernel
theorem dX7_meetMany_6 : decode cX7_meetMany 6 = .ok (.getfield 83, 3) := by decide +kernel
theorem dX7_meetMany_9 : decode cX7_meetMany 9 = .ok (.if_icmp .ge 44, 3) := by decide +kernel
theorem dX7_meetMany_12 : decode cX7_meetMany 12 = .ok (.iload_n 2, 1) := by decide +kernel
theorem dX7_meetMany_13 : decode cX7_meetMany 13 = .ok (.iconst 1, 1) := by decide +kernel
theorem dX7_meetMany_14 : decode cX7_meetMany 14 = .ok (.iadd, 1) := by decide +kernel
theorem dX7_meetMany_15 : decode cX7_meetMany 15 = .ok (.istore_n 3, 1) := by decide +kernel
theorem dX7_meetMany_16 : decode cX7_meetMany 16 = .ok (.iload_n 3, 1) := by decide +kernel
theorem dX7_meetMany_17 : decode cX7_meetMany 17 = .ok (.aload_n 0, 1) := by decide +kernel
theorem dX7_meetMany_18 : decode cX7_meetMany 18 = .ok (.getfield 83, 3) := by decide +kernel
theorem dX7_meetMany_21 : decode cX7_meetMany 21 = .ok (.if_icmp .ge 26, 3) := by decide +kernel
theorem dX7_meetMany_24 : decode cX7_meetMany 24 = .ok (.iload_n 1, 1) := by decide +kernel
theorem dX7_meetMany_25 : decode cX7_meetMany 25 = .ok (.aload_n 0, 1) := by decide +kernel
theorem dX7_meetMany_26 : decode cX7_meetMany 26 = .ok (.iload_n 2, 1) := by decide +kernel
theorem dX7_meetMany_27 : decode cX7_meetMany 27 = .ok (.iload_n 3, 1) := by decide +kernel
theorem dX7_meetMany_28 : decode cX7_meetMany 28 = .ok (.invokevirtual 132, 3) := by decide +kernel
theorem dX7_meetMany_31 : decode cX7_meetMany 31 = .ok (.ifCond .eq 7, 3) := by decide +kernel
theorem dX7_meetMany_34 : decode cX7_meetMany 34 = .ok (.iconst 1, 1) := by decide +kernel
theorem dX7_meetMany_35 : decode cX7_meetMany 35 = .ok (.goto 4, 3) := by decide +kernel
theorem dX7_meetMany_38 : decode cX7_meetMany 38 = .ok (.iconst 0, 1) := by decide +kernel
theorem dX7_meetMany_39 : decode cX7_meetMany 39 = .ok (.iadd, 1) := by decide +kernel
theorem dX7_meetMany_40 : decode cX7_meetMany 40 = .ok (.istore_n 1, 1) := by decide +kernel
theorem dX7_meetMany_41 : decode cX7_meetMany 41 = .ok (.iinc 3 1, 3) := by decide +kernel
theorem dX7_meetMany_44 : decode cX7_meetMany 44 = .ok (.goto (-28), 3) := by decide +kernel
theorem dX7_meetMany_47 : decode cX7_meetMany 47 = .ok (.iinc 2 1, 3) := by decide +kernel
theorem dX7_meetMany_50 : decode cX7_meetMany 50 = .ok (.goto (-46), 3) := by decide +kernel
theorem dX7_meetMany_53 : decode cX7_meetMany 53 = .ok (.iload_n 1, 1) := by decide +kernel
theorem dX7_meetMany_54 : decode cX7_meetMany 54 = .ok (.ireturn, 1) := by decide +kernel
theorem dX7_placeOf_0 : decode cX7_placeOf 0 = .ok (.iconst (-1), 1) := by decide +kernel
theorem dX7_placeOf_1 : decode cX7_placeOf 1 = .ok (.istore_n 2, 1) := by decide +kernel
theorem dX7_placeOf_2 : decode cX7_placeOf 2 = .ok (.iconst 0, 1) := by decide +kernel
theorem dX7_placeOf_3 : decode cX7_placeOf 3 = .ok (.istore_n 3, 1) := by decide +kernel
theorem dX7_placeOf_4 : decode cX7_placeOf 4 = .ok (.iload_n 3, 1) := by decide +kernel
theorem dX7_placeOf_5 : decode cX7_placeOf 5 = .ok (.aload_n 0, 1) := by decide +kernel
theorem dX7_placeOf_6 : decode cX7_placeOf 6 = .ok (.getfield 100, 3) := by decide +kernel
theorem dX7_placeOf_9 : decode cX7_placeOf 9 = .ok (.if_icmp .ge 25, 3) := by decide +kernel
theorem dX7_placeOf_12 : decode cX7_placeOf 12 = .ok (.aload_n 0, 1) := by decide +kernel
theorem dX7_placeOf_13 : decode cX7_placeOf 13 = .ok (.getfield 31, 3) := by decide +kernel
theorem dX7_placeOf_16 : decode cX7_placeOf 16 = .ok (.iload_n 3, 1) := by decide +kernel
theorem dX7_placeOf_17 : decode cX7_placeOf 17 = .ok (.iaload, 1) := by decide +kernel
theorem dX7_placeOf_18 : decode cX7_placeOf 18 = .ok (.iload_n 1, 1) := by decide +kernel
theorem dX7_placeOf_19 : decode cX7_placeOf 19 = .ok (.if_icmp .ne 7, 3) := by decide +kernel
theorem dX7_placeOf_22 : decode cX7_placeOf 22 = .ok (.iload_n 3, 1) := by decide +kernel
theorem dX7_placeOf_23 : decode cX7_placeOf 23 = .ok (.goto 4, 3) := by decide +kernel
theorem dX7_placeOf_26 : decode cX7_placeOf 26 = .ok (.iload_n 2, 1) := by decide +kernel
theorem dX7_placeOf_27 : decode cX7_placeOf 27 = .ok (.istore_n 2, 1) := by decide +kernel
theorem dX7_placeOf_28 : decode cX7_placeOf 28 = .ok (.iinc 3 1, 3) := by decide +kernel
theorem dX7_placeOf_31 : decode cX7_placeOf 31 = .ok (.goto (-27), 3) := by decide +kernel
theorem dX7_placeOf_34 : decode cX7_placeOf 34 = .ok (.iload_n 2, 1) := by decide +kernel
theorem dX7_placeOf_35 : decode cX7_placeOf 35 = .ok (.ireturn, 1) := by decide +kernel
theorem dX7_putFirst_0 : decode cX7_putFirst 0 = .ok (.aload_n 0, 1) := by decide +kernel
theorem dX7_putFirst_1 : decode cX7_putFirst 1 = .ok (.iload_n 1, 1) := by decide +kernel
theorem dX7_putFirst_2 : decode cX7_putFirst 2 = .ok (.invokevirtual 135, 3) := by decide +kernel
theorem dX7_putFirst_5 : decode cX7_putFirst 5 = .ok (.istore_n 2, 1) := by decide +kernel
theorem dX7_putFirst_6 : decode cX7_putFirst 6 = .ok (.iload_n 2, 1) := by decide +kernel
theorem dX7_putFirst_7 : decode cX7_putFirst 7 = .ok (.ifCond .le 23, 3) := by decide +kernel
theorem dX7_putFirst_10 : decode cX7_putFirst 10 = .ok (.aload_n 0, 1) := by decide +kernel
theorem dX7_putFirst_11 : decode cX7_putFirst 11 = .ok (.getfield 31, 3) := by decide +kernel
theorem dX7_putFirst_14 : decode cX7_putFirst 14 = .ok (.iload_n 2, 1) := by decide +kernel
theorem dX7_putFirst_15 : decode cX7_putFirst 15 = .ok (.aload_n 0, 1) := by decide +kernel
theorem dX7_putFirst_16 : decode cX7_putFirst 16 = .ok (.getfield 31, 3) := by decide +kernel
theorem dX7_putFirst_19 : decode cX7_putFirst 19 = .ok (.iload_n 2, 1) := by decide +kernel
theorem dX7_putFirst_20 : decode cX7_putFirst 20 = .ok (.iconst 1, 1) := by decide +kernel
theorem dX7_putFirst_21 : decode cX7_putFirst 21 = .ok (.isub, 1) := by decide +kernel
theorem dX7_putFirst_22 : decode cX7_putFirst 22 = .ok (.iaload, 1) := by decide +kernel
theorem dX7_putFirst_23 : decode cX7_putFirst 23 = .ok (.iastore, 1) := by decide +kernel
theorem dX7_putFirst_24 : decode cX7_putFirst 24 = .ok (.iinc 2 (-1), 3) := by decide +kernel
theorem dX7_putFirst_27 : decode cX7_putFirst 27 = .ok (.goto (-21), 3) := by decide +kernel
theorem dX7_putFirst_30 : decode cX7_putFirst 30 = .ok (.aload_n 0, 1) := by decide +kernel
theorem dX7_putFirst_31 : decode cX7_putFirst 31 = .ok (.getfield 31, 3) := by decide +kernel
theorem dX7_putFirst_34 : decode cX7_putFirst 34 = .ok (.iconst 0, 1) := by decide +kernel
theorem dX7_putFirst_35 : decode cX7_putFirst 35 = .ok (.iload_n 1, 1) := by decide +kernel
theorem dX7_putFirst_36 : decode cX7_putFirst 36 = .ok (.iastore, 1) := by decide +kernel
theorem dX7_putFirst_37 : decode cX7_putFirst 37 = .ok (.return_, 1) := by decide +kernel
theorem dX7_coupleComes_0 : decode cX7_coupleComes 0 = .ok (.iload_n 1, 1) := by decide +kernel
theorem dX7_coupleComes_1 : decode cX7_coupleComes 1 = .ok (.bipush 6, 2) := by decide +kernel
theorem dX7_coupleComes_3 : decode cX7_coupleComes 3 = .ok (.if_icmp .ge 23, 3) := by decide +kernel
theorem dX7_coupleComes_6 : decode cX7_coupleComes 6 = .ok (.iload_n 3, 1) := by decide +kernel
theorem dX7_coupleComes_7 : decode cX7_coupleComes 7 = .ok (.sipush 240, 3) := by decide +kernel
theorem dX7_coupleComes_10 : decode cX7_coupleComes 10 = .ok (.if_icmp .gt 16, 3) := by decide +kernel
theorem dX7_coupleComes_13 : decode cX7_coupleComes 13 = .ok (.aload_n 0, 1) := by decide +kernel
theorem dX7_coupleComes_14 : decode cX7_coupleComes 14 = .ok (.getfield 83, 3) := by decide +kernel
theorem dX7_coupleComes_17 : decode cX7_coupleComes 17 = .ok (.bipush 7, 2) := by decide +kernel
theorem dX7_coupleComes_19 : decode cX7_coupleComes 19 = .ok (.if_icmp .ge 7, 3) := by decide +kernel
theorem dX7_coupleComes_22 : decode cX7_coupleComes 22 = .ok (.iconst 1, 1) := by decide +kernel
theorem dX7_coupleComes_23 : decode cX7_coupleComes 23 = .ok (.goto 4, 3) := by decide +kernel
theorem dX7_coupleComes_26 : decode cX7_coupleComes 26 = .ok (.iconst 0, 1) := by decide +kernel
theorem dX7_coupleComes_27 : decode cX7_coupleComes 27 = .ok (.istore 4, 2) := by decide +kernel
theorem dX7_coupleComes_29 : decode cX7_coupleComes 29 = .ok (.iload 4, 2) := by decide +kernel
theorem dX7_coupleComes_31 : decode cX7_coupleComes 31 = .ok (.ifCond .eq 106, 3) := by decide +kernel
theorem dX7_coupleComes_34 : decode cX7_coupleComes 34 = .ok (.aload_n 0, 1) := by decide +kernel
theorem dX7_coupleComes_35 : decode cX7_coupleComes 35 = .ok (.getfield 7, 3) := by decide +kernel
theorem dX7_coupleComes_38 : decode cX7_coupleComes 38 = .ok (.aload_n 0, 1) := by decide +kernel
theorem dX7_coupleComes_39 : decode cX7_coupleComes 39 = .ok (.getfield 83, 3) := by decide +kernel
theorem dX7_coupleComes_42 : decode cX7_coupleComes 42 = .ok (.iload_n 1, 1) := by decide +kernel
theorem dX7_coupleComes_43 : decode cX7_coupleComes 43 = .ok (.iastore, 1) := by decide +kernel
theorem dX7_coupleComes_44 : decode cX7_coupleComes 44 = .ok (.aload_n 0, 1) := by decide +kernel
theorem dX7_coupleComes_45 : decode cX7_coupleComes 45 = .ok (.getfield 13, 3) := by decide +kernel
theorem dX7_coupleComes_48 : decode cX7_coupleComes 48 = .ok (.aload_n 0, 1) := by decide +kernel
theorem dX7_coupleComes_49 : decode cX7_coupleComes 49 = .ok (.getfield 83, 3) := by decide +kernel
theorem dX7_coupleComes_52 : decode cX7_coupleComes 52 = .ok (.iload_n 2, 1) := by decide +kernel
theorem dX7_coupleComes_53 : decode cX7_coupleComes 53 = .ok (.iastore, 1) := by decide +kernel
theorem dX7_coupleComes_54 : decode cX7_coupleComes 54 = .ok (.aload_n 0, 1) := by decide +kernel
theorem dX7_coupleComes_55 : decode cX7_coupleComes 55 = .ok (.getfield 16, 3) := by decide +kernel
theorem dX7_coupleComes_58 : decode cX7_coupleComes 58 = .ok (.aload_n 0, 1) := by decide +kernel
theorem dX7_coupleComes_59 : decode cX7_coupleComes 59 = .ok (.getfield 83, 3) := by decide +kernel
theorem dX7_coupleComes_62 : decode cX7_coupleComes 62 = .ok (.iload_n 3, 1) := by decide +kernel
theorem dX7_coupleComes_63 : decode cX7_coupleComes 63 = .ok (.iastore, 1) := by decide +kernel
theorem dX7_coupleComes_64 : decode cX7_coupleComes 64 = .ok (.aload_n 0, 1) := by decide +kernel
theorem dX7_coupleComes_65 : decode cX7_coupleComes 65 = .ok (.getfield 19, 3) := by decide +kernel
theorem dX7_coupleComes_68 : decode cX7_coupleComes 68 = .ok (.aload_n 0, 1) := by decide +kernel
theorem dX7_coupleComes_69 : decode cX7_coupleComes 69 = .ok (.getfield 83, 3) := by decide +kernel
theorem dX7_coupleComes_72 : decode cX7_coupleComes 72 = .ok (.iconst 0, 1) := by decide +kernel
theorem dX7_coupleComes_73 : decode cX7_coupleComes 73 = .ok (.iastore, 1) := by decide +kernel
theorem dX7_coupleComes_74 : decode cX7_coupleComes 74 = .ok (.aload_n 0, 1) := by decide +kernel
theorem dX7_coupleComes_75 : decode cX7_coupleComes 75 = .ok (.getfield 22, 3) := by decide +kernel
theorem dX7_coupleComes_78 : decode cX7_coupleComes 78 = .ok (.aload_n 0, 1) := by decide +kernel
theorem dX7_coupleComes_79 : decode cX7_coupleComes 79 = .ok (.getfield 83, 3) := by decide +kernel
theorem dX7_coupleComes_82 : decode cX7_coupleComes 82 = .ok (.iconst 0, 1) := by decide +kernel
theorem dX7_coupleComes_83 : decode cX7_coupleComes 83 = .ok (.iastore, 1) := by decide +kernel
theorem dX7_coupleComes_84 : decode cX7_coupleComes 84 = .ok (.aload_n 0, 1) := by decide +kernel
theorem dX7_coupleComes_85 : decode cX7_coupleComes 85 = .ok (.getfield 25, 3) := by decide +kernel
theorem dX7_coupleComes_88 : decode cX7_coupleComes 88 = .ok (.aload_n 0, 1) := by decide +kernel
theorem dX7_coupleComes_89 : decode cX7_coupleComes 89 = .ok (.getfield 83, 3) := by decide +kernel
theorem dX7_coupleComes_92 : decode cX7_coupleComes 92 = .ok (.iconst 0, 1) := by decide +kernel
theorem dX7_coupleComes_93 : decode cX7_coupleComes 93 = .ok (.iastore, 1) := by decide +kernel
theorem dX7_coupleComes_94 : decode cX7_coupleComes 94 = .ok (.aload_n 0, 1) := by decide +kernel
theorem dX7_coupleComes_95 : decode cX7_coupleComes 95 = .ok (.getfield 28, 3) := by decide +kernel
theorem dX7_coupleComes_98 : decode cX7_coupleComes 98 = .ok (.aload_n 0, 1) := by decide +kernel
theorem dX7_coupleComes_99 : decode cX7_coupleComes 99 = .ok (.getfield 83, 3) := by decide +kernel
theorem dX7_coupleComes_102 : decode cX7_coupleComes 102 = .ok (.iconst 0, 1) := by decide +kernel
theorem dX7_coupleComes_103 : decode cX7_coupleComes 103 = .ok (.iastore, 1) := by decide +kernel
theorem dX7_coupleComes_104 : decode cX7_coupleComes 104 = .ok (.aload_n 0, 1) := by decide +kernel
theorem dX7_coupleComes_105 : decode cX7_coupleComes 105 = .ok (.getfield 31, 3) := by decide +kernel
theorem dX7_coupleComes_108 : decode cX7_coupleComes 108 = .ok (.aload_n 0, 1) := by decide +kernel
theorem dX7_coupleComes_109 : decode cX7_coupleComes 109 = .ok (.getfield 100, 3) := by decide +kernel
theorem dX7_coupleComes_112 : decode cX7_coupleComes 112 = .ok (.aload_n 0, 1) := by decide +kernel
theorem dX7_coupleComes_113 : decode cX7_coupleComes 113 = .ok (.getfield 83, 3) := by decide +kernel
theorem dX7_coupleComes_116 : decode cX7_coupleComes 116 = .ok (.iastore, 1) := by decide +kernel
theorem dX7_coupleComes_117 : decode cX7_coupleComes 117 = .ok (.aload_n 0, 1) := by decide +kernel
theorem dX7_coupleComes_118 : decode cX7_coupleComes 118 = .ok (.dup, 1) := by decide +kernel
theorem dX7_coupleComes_119 : decode cX7_coupleComes 119 = .ok (.getfield 100, 3) := by decide +kernel
theorem dX7_coupleComes_122 : decode cX7_coupleComes 122 = .ok (.iconst 1, 1) := by decide +kernel
theorem dX7_coupleComes_123 : decode cX7_coupleComes 123 = .ok (.iadd, 1) := by decide +kernel
theorem dX7_coupleComes_124 : decode cX7_coupleComes 124 = .ok (.putfield 100, 3) := by decide +kernel
theorem dX7_coupleComes_127 : decode cX7_coupleComes 127 = .ok (.aload_n 0, 1) := by decide +kernel
theorem dX7_coupleComes_128 : decode cX7_coupleComes 128 = .ok (.dup, 1) := by decide +kernel
theorem dX7_coupleComes_129 : decode cX7_coupleComes 129 = .ok (.getfield 83, 3) := by decide +kernel
theorem dX7_coupleComes_132 : decode cX7_coupleComes 132 = .ok (.iconst 1, 1) := by decide +kernel
theorem dX7_coupleComes_133 : decode cX7_coupleComes 133 = .ok (.iadd, 1) := by decide +kernel
theorem dX7_coupleComes_134 : decode cX7_coupleComes 134 = .ok (.putfield 83, 3) := by decide +kernel
theorem dX7_coupleComes_137 : decode cX7_coupleComes 137 = .ok (.iload 4, 2) := by decide +kernel
theorem dX7_coupleComes_139 : decode cX7_coupleComes 139 = .ok (.ireturn, 1) := by decide +kernel
theorem dX7_roomsBecome_0 : decode cX7_roomsBecome 0 = .ok (.aload_n 0, 1) := by decide +kernel
theorem dX7_roomsBecome_1 : decode cX7_roomsBecome 1 = .ok (.getfield 34, 3) := by decide +kernel
theorem dX7_roomsBecome_4 : decode cX7_roomsBecome 4 = .ok (.iconst 1, 1) := by decide +kernel
theorem dX7_roomsBecome_5 : decode cX7_roomsBecome 5 = .ok (.aload_n 0, 1) := by decide +kernel
theorem dX7_roomsBecome_6 : decode cX7_roomsBecome 6 = .ok (.getfield 80, 3) := by decide +kernel
theorem dX7_roomsBecome_9 : decode cX7_roomsBecome 9 = .ok (.iconst 1, 1) := by decide +kernel
theorem dX7_roomsBecome_10 : decode cX7_roomsBecome 10 = .ok (.if_icmp .ne 12, 3) := by decide +kernel
theorem dX7_roomsBecome_13 : decode cX7_roomsBecome 13 = .ok (.aload_n 0, 1) := by decide +kernel
theorem dX7_roomsBecome_14 : decode cX7_roomsBecome 14 = .ok (.getfield 34, 3) := by decide +kernel
theorem dX7_roomsBecome_17 : decode cX7_roomsBecome 17 = .ok (.iconst 0, 1) := by decide +kernel
theorem dX7_roomsBecome_18 : decode cX7_roomsBecome 18 = .ok (.iaload, 1) := by decide +kernel
theorem dX7_roomsBecome_19 : decode cX7_roomsBecome 19 = .ok (.goto 9, 3) := by decide +kernel
theorem dX7_roomsBecome_22 : decode cX7_roomsBecome 22 = .ok (.aload_n 0, 1) := by decide +kernel
theorem dX7_roomsBecome_23 : decode cX7_roomsBecome 23 = .ok (.getfield 34, 3) := by decide +kernel
theorem dX7_roomsBecome_26 : decode cX7_roomsBecome 26 = .ok (.iconst 1, 1) := by decide +kernel
theorem dX7_roomsBecome_27 : decode cX7_roomsBecome 27 = .ok (.iaload, 1) := by decide +kernel
theorem dX7_roomsBecome_28 : decode cX7_roomsBecome 28 = .ok (.iastore, 1) := by decide +kernel
theorem dX7_roomsBecome_29 : decode cX7_roomsBecome 29 = .ok (.aload_n 0, 1) := by decide +kernel
theorem dX7_roomsBecome_30 : decode cX7_roomsBecome 30 = .ok (.iload_n 1, 1) := by decide +kernel
theorem dX7_roomsBecome_31 : decode cX7_roomsBecome 31 = .ok (.putfield 80, 3) := by decide +kernel
theorem dX7_roomsBecome_34 : decode cX7_roomsBecome 34 = .ok (.return_, 1) := by decide +kernel
theorem dX7_feed_0 : decode cX7_feed 0 = .ok (.aload_n 0, 1) := by decide +kernel
theorem dX7_feed_1 : decode cX7_feed 1 = .ok (.iconst 0, 1) := by decide +kernel
theorem dX7_feed_2 : decode cX7_feed 2 = .ok (.putfield 76, 3) := by decide +kernel
theorem dX7_feed_5 : decode cX7_feed 5 = .ok (.iload_n 1, 1) := by decide +kernel
theorem dX7_feed_6 : decode cX7_feed 6 = .ok (.ifCond .ge 10, 3) := by decide +kernel
theorem dX7_feed_9 : decode cX7_feed 9 = .ok (.aload_n 0, 1) := by decide +kernel
theorem dX7_feed_10 : decode cX7_feed 10 = .ok (.bipush (-4), 2) := by decide +kernel
theorem dX7_feed_12 : decode cX7_feed 12 = .ok (.invokevirtual 138, 3) := by decide +kernel
theorem dX7_feed_15 : decode cX7_feed 15 = .ok (.ireturn, 1) := by decide +kernel
theorem dX7_feed_16 : decode cX7_feed 16 = .ok (.iload_n 1, 1) := by decide +kernel
theorem dX7_feed_17 : decode cX7_feed 17 = .ok (.sipush 255, 3) := by decide +kernel
theorem dX7_feed_20 : decode cX7_feed 20 = .ok (.if_icmp .gt 12, 3) := by decide +kernel
theorem dX7_feed_23 : decode cX7_feed 23 = .ok (.aload_n 0, 1) := by decide +kernel
theorem dX7_feed_24 : decode cX7_feed 24 = .ok (.getfield 141, 3) := by decide +kernel
theorem dX7_feed_27 : decode cX7_feed 27 = .ok (.bipush 96, 2) := by decide +kernel
theorem dX7_feed_29 : decode cX7_feed 29 = .ok (.if_icmp .ne 10, 3) := by decide +kernel
theorem dX7_feed_32 : decode cX7_feed 32 = .ok (.aload_n 0, 1) := by decide +kernel
theorem dX7_feed_33 : decode cX7_feed 33 = .ok (.bipush (-6), 2) := by decide +kernel
theorem dX7_feed_35 : decode cX7_feed 35 = .ok (.invokevirtual 138, 3) := by decide +kernel
theorem dX7_feed_38 : decode cX7_feed 38 = .ok (.ireturn, 1) := by decide +kernel
theorem dX7_feed_39 : decode cX7_feed 39 = .ok (.aload_n 0, 1) := by decide +kernel
theorem dX7_feed_40 : decode cX7_feed 40 = .ok (.getfield 40, 3) := by decide +kernel
theorem dX7_feed_43 : decode cX7_feed 43 = .ok (.aload_n 0, 1) := by decide +kernel
theorem dX7_feed_44 : decode cX7_feed 44 = .ok (.getfield 141, 3) := by decide +kernel
theorem dX7_feed_47 : decode cX7_feed 47 = .ok (.iload_n 1, 1) := by decide +kernel
theorem dX7_feed_48 : decode cX7_feed 48 = .ok (.iastore, 1) := by decide +kernel
theorem dX7_feed_49 : decode cX7_feed 49 = .ok (.aload_n 0, 1) := by decide +kernel
theorem dX7_feed_50 : decode cX7_feed 50 = .ok (.dup, 1) := by decide +kernel
theorem dX7_feed_51 : decode cX7_feed 51 = .ok (.getfield 141, 3) := by decide +kernel
theorem dX7_feed_54 : decode cX7_feed 54 = .ok (.iconst 1, 1) := by decide +kernel
theorem dX7_feed_55 : decode cX7_feed 55 = .ok (.iadd, 1) := by decide +kernel
theorem dX7_feed_56 : decode cX7_feed 56 = .ok (.putfield 141, 3) := by decide +kernel
theorem dX7_feed_59 : decode cX7_feed 59 = .ok (.aload_n 0, 1) := by decide +kernel
theorem dX7_feed_60 : decode cX7_feed 60 = .ok (.getfield 141, 3) := by decide +kernel
theorem dX7_feed_63 : decode cX7_feed 63 = .ok (.ireturn, 1) := by decide +kernel
theorem dX7_here_0 : decode cX7_here 0 = .ok (.aload_n 0, 1) := by decide +kernel
theorem dX7_here_1 : decode cX7_here 1 = .ok (.getfield 144, 3) := by decide +kernel
theorem dX7_here_4 : decode cX7_here 4 = .ok (.aload_n 0, 1) := by decide +kernel
theorem dX7_here_5 : decode cX7_here 5 = .ok (.getfield 141, 3) := by decide +kernel
theorem dX7_here_8 : decode cX7_here 8 = .ok (.if_icmp .ge 15, 3) := by decide +kernel
theorem dX7_here_11 : decode cX7_here 11 = .ok (.aload_n 0, 1) := by decide +kernel
theorem dX7_here_12 : decode cX7_here 12 = .ok (.getfield 40, 3) := by decide +kernel
theorem dX7_here_15 : decode cX7_here 15 = .ok (.aload_n 0, 1) := by decide +kernel
theorem dX7_here_16 : decode cX7_here 16 = .ok (.getfield 144, 3) := by decide +kernel
theorem dX7_here_19 : decode cX7_here 19 = .ok (.iaload, 1) := by decide +kernel
theorem dX7_here_20 : decode cX7_here 20 = .ok (.goto 4, 3) := by decide +kernel
theorem dX7_here_23 : decode cX7_here 23 = .ok (.iconst (-1), 1) := by decide +kernel
theorem dX7_here_24 : decode cX7_here 24 = .ok (.ireturn, 1) := by decide +kernel
theorem dX7_readDigits_0 : decode cX7_readDigits 0 = .ok (.iconst 0, 1) := by decide +kernel
theorem dX7_readDigits_1 : decode cX7_readDigits 1 = .ok (.istore_n 2, 1) := by decide +kernel
theorem dX7_readDigits_2 : decode cX7_readDigits 2 = .ok (.iconst 0, 1) := by decide +kernel
theorem dX7_readDigits_3 : decode cX7_readDigits 3 = .ok (.istore_n 3, 1) := by decide +kernel
theorem dX7_readDigits_4 : decode cX7_readDigits 4 = .ok (.iload_n 3, 1) := by decide +kernel
theorem dX7_readDigits_5 : decode cX7_readDigits 5 = .ok (.iload_n 1, 1) := by decide +kernel
theorem dX7_readDigits_6 : decode cX7_readDigits 6 = .ok (.if_icmp .ge 92, 3) := by decide +kernel
theorem dX7_readDigits_9 : decode cX7_readDigits 9 = .ok (.aload_n 0, 1) := by decide +kernel
theorem dX7_readDigits_10 : decode cX7_readDigits 10 = .ok (.aload_n 0, 1) := by decide +kernel
theorem dX7_readDigits_11 : decode cX7_readDigits 11 = .ok (.getfield 147, 3) := by decide +kernel
theorem dX7_readDigits_14 : decode cX7_readDigits 14 = .ok (.ifCond .ne 20, 3) := by decide +kernel
theorem dX7_readDigits_17 : decode cX7_readDigits 17 = .ok (.aload_n 0, 1) := by decide +kernel
theorem dX7_readDigits_18 : decode cX7_readDigits 18 = .ok (.invokevirtual 151, 3) := by decide +kernel
theorem dX7_readDigits_21 : decode cX7_readDigits 21 = .ok (.i2l, 1) := by decide +kernel
theorem dX7_readDigits_22 : decode cX7_readDigits 22 = .ok (.ldc2_w 154, 3) := by decide +kernel
theorem dX7_readDigits_25 : decode cX7_readDigits 25 = .ok (.ldc2_w 156, 3) := by decide +kernel
theorem dX7_readDigits_28 : decode cX7_readDigits 28 = .ok (.invokestatic 86, 3) := by decide +kernel
theorem dX7_readDigits_31 : decode cX7_readDigits 31 = .ok (.ifCond .ne 7, 3) := by decide +kernel
theorem dX7_readDigits_34 : decode cX7_readDigits 34 = .ok (.iconst 1, 1) := by decide +kernel
theorem dX7_readDigits_35 : decode cX7_readDigits 35 = .ok (.goto 4, 3) := by decide +kernel
theorem dX7_readDigits_38 : decode cX7_readDigits 38 = .ok (.iconst 0, 1) := by decide +kernel
theorem dX7_readDigits_39 : decode cX7_readDigits 39 = .ok (.putfield 147, 3) := by decide +kernel
theorem dX7_readDigits_42 : decode cX7_readDigits 42 = .ok (.aload_n 0, 1) := by decide +kernel
theorem dX7_readDigits_43 : decode cX7_readDigits 43 = .ok (.getfield 147, 3) := by decide +kernel
theorem dX7_readDigits_46 : decode cX7_readDigits 46 = .ok (.ifCond .eq 7, 3) := by decide +kernel
theorem dX7_readDigits_49 : decode cX7_readDigits 49 = .ok (.iconst 0, 1) := by decide +kernel
theorem dX7_readDigits_50 : decode cX7_readDigits 50 = .ok (.goto 20, 3) := by decide +kernel
theorem dX7_readDigits_53 : decode cX7_readDigits 53 = .ok (.bipush 10, 2) := by decide +kernel
theorem dX7_readDigits_55 : decode cX7_readDigits 55 = .ok (.iload_n 2, 1) := by decide +kernel
theorem dX7_readDigits_56 : decode cX7_readDigits 56 = .ok (.imul, 1) := by decide +kernel
theorem dX7_readDigits_57 : decode cX7_readDigits 57 = .ok (.aload_n 0, 1) := by decide +kernel
theorem dX7_readDigits_58 : decode cX7_readDigits 58 = .ok (.getfield 40, 3) := by decide +kernel
theorem dX7_readDigits_61 : decode cX7_readDigits 61 = .ok (.aload_n 0, 1) := by decide +kernel
theorem dX7_readDigits_62 : decode cX7_readDigits 62 = .ok (.getfield 144, 3) := by decide +kernel
theorem dX7_readDigits_65 : decode cX7_readDigits 65 = .ok (.iaload, 1) := by decide +kernel
theorem dX7_readDigits_66 : decode cX7_readDigits 66 = .ok (.iadd, 1) := by decide +kernel
theorem dX7_readDigits_67 : decode cX7_readDigits 67 = .ok (.bipush 48, 2) := by decide +kernel
theorem dX7_readDigits_69 : decode cX7_readDigits 69 = .ok (.isub, 1) := by decide +kernel
theorem dX7_readDigits_70 : decode cX7_readDigits 70 = .ok (.istore_n 2, 1) := by decide +kernel
theorem dX7_readDigits_71 : decode cX7_readDigits 71 = .ok (.aload_n 0, 1) := by decide +kernel
theorem dX7_readDigits_72 : decode cX7_readDigits 72 = .ok (.dup, 1) := by decide +kernel
theorem dX7_readDigits_73 : decode cX7_readDigits 73 = .ok (.getfield 144, 3) := by decide +kernel
theorem dX7_readDigits_76 : decode cX7_readDigits 76 = .ok (.aload_n 0, 1) := by decide +kernel
theorem dX7_readDigits_77 : decode cX7_readDigits 77 = .ok (.getfield 147, 3) := by decide +kernel
theorem dX7_readDigits_80 : decode cX7_readDigits 80 = .ok (.ifCond .eq 7, 3) := by decide +kernel
theorem dX7_readDigits_83 : decode cX7_readDigits 83 = .ok (.iconst 0, 1) := by decide +kernel
theorem dX7_readDigits_84 : decode cX7_readDigits 84 = .ok (.goto 4, 3) := by decide +kernel
theorem dX7_readDigits_87 : decode cX7_readDigits 87 = .ok (.iconst 1, 1) := by decide +kernel
theorem dX7_readDigits_88 : decode cX7_readDigits 88 = .ok (.iadd, 1) := by decide +kernel
theorem dX7_readDigits_89 : decode cX7_readDigits 89 = .ok (.putfield 144, 3) := by decide +kernel
theorem dX7_readDigits_92 : decode cX7_readDigits 92 = .ok (.iinc 3 1, 3) := by decide +kernel
theorem dX7_readDigits_95 : decode cX7_readDigits 95 = .ok (.goto (-91), 3) := by decide +kernel
theorem dX7_readDigits_98 : decode cX7_readDigits 98 = .ok (.iload_n 2, 1) := by decide +kernel
theorem dX7_readDigits_99 : decode cX7_readDigits 99 = .ok (.ireturn, 1) := by decide +kernel
theorem dX7_isLetter_0 : decode cX7_isLetter 0 = .ok (.iload_n 0, 1) := by decide +kernel
theorem dX7_isLetter_1 : decode cX7_isLetter 1 = .ok (.bipush 99, 2) := by decide +kernel
theorem dX7_isLetter_3 : decode cX7_isLetter 3 = .ok (.if_icmp .eq 33, 3) := by decide +kernel
theorem dX7_isLetter_6 : decode cX7_isLetter 6 = .ok (.iload_n 0, 1) := by decide +kernel
theorem dX7_isLetter_7 : decode cX7_isLetter 7 = .ok (.bipush 115, 2) := by decide +kernel
theorem dX7_isLetter_9 : decode cX7_isLetter 9 = .ok (.if_icmp .eq 27, 3) := by decide +kernel
theorem dX7_isLetter_12 : decode cX7_isLetter 12 = .ok (.iload_n 0, 1) := by decide +kernel
theorem dX7_isLetter_13 : decode cX7_isLetter 13 = .ok (.bipush 114, 2) := by decide +kernel
theorem dX7_isLetter_15 : decode cX7_isLetter 15 = .ok (.if_icmp .eq 21, 3) := by decide +kernel
theorem dX7_isLetter_18 : decode cX7_isLetter 18 = .ok (.iload_n 0, 1) := by decide +kernel
theorem dX7_isLetter_19 : decode cX7_isLetter 19 = .ok (.bipush 102, 2) := by decide +kernel
theorem dX7_isLetter_21 : decode cX7_isLetter 21 = .ok (.if_icmp .eq 15, 3) := by decide +kernel
theorem dX7_isLetter_24 : decode cX7_isLetter 24 = .ok (.iload_n 0, 1) := by decide +kernel
theorem dX7_isLetter_25 : decode cX7_isLetter 25 = .ok (.bipush 119, 2) := by decide +kernel
theorem dX7_isLetter_27 : decode cX7_isLetter 27 = .ok (.if_icmp .eq 9, 3) := by decide +kernel
theorem dX7_isLetter_30 : decode cX7_isLetter 30 = .ok (.iload_n 0, 1) := by decide +kernel
theorem dX7_isLetter_31 : decode cX7_isLetter 31 = .ok (.bipush 98, 2) := by decide +kernel
theorem dX7_isLetter_33 : decode cX7_isLetter 33 = .ok (.if_icmp .ne 7, 3) := by decide +kernel
theorem dX7_isLetter_36 : decode cX7_isLetter 36 = .ok (.iconst 1, 1) := by decide +kernel
theorem dX7_isLetter_37 : decode cX7_isLetter 37 = .ok (.goto 4, 3) := by decide +kernel
theorem dX7_isLetter_40 : decode cX7_isLetter 40 = .ok (.iconst 0, 1) := by decide +kernel
theorem dX7_isLetter_41 : decode cX7_isLetter 41 = .ok (.ireturn, 1) := by decide +kernel
theorem dX7_readStatement_0 : decode cX7_readStatement 0 = .ok (.aload_n 0, 1) := by decide +kernel
theorem dX7_readStatement_1 : decode cX7_readStatement 1 = .ok (.getfield 158, 3) := by decide +kernel
theorem dX7_readStatement_4 : decode cX7_readStatement 4 = .ok (.istore_n 1, 1) := by decide +kernel
theorem dX7_readStatement_5 : decode cX7_readStatement 5 = .ok (.aload_n 0, 1) := by decide +kernel
theorem dX7_readStatement_6 : decode cX7_readStatement 6 = .ok (.invokevirtual 151, 3) := by decide +kernel
theorem dX7_readStatement_9 : decode cX7_readStatement 9 = .ok (.istore_n 2, 1) := by decide +kernel
theorem dX7_readStatement_10 : decode cX7_readStatement 10 = .ok (.aload_n 0, 1) := by decide +kernel
theorem dX7_readStatement_11 : decode cX7_readStatement 11 = .ok (.getfield 43, 3) := by decide +kernel
theorem dX7_readStatement_14 : decode cX7_readStatement 14 = .ok (.iload_n 1, 1) := by decide +kernel
theorem dX7_readStatement_15 : decode cX7_readStatement 15 = .ok (.aload_n 0, 1) := by decide +kernel
theorem dX7_readStatement_16 : decode cX7_readStatement 16 = .ok (.getfield 144, 3) := by decide +kernel
theorem dX7_readStatement_19 : decode cX7_readStatement 19 = .ok (.iastore, 1) := by decide +kernel
theorem dX7_readStatement_20 : decode cX7_readStatement 20 = .ok (.aload_n 0, 1) := by decide +kernel
theorem dX7_readStatement_21 : decode cX7_readStatement 21 = .ok (.getfield 46, 3) := by decide +kernel
theorem dX7_readStatement_24 : decode cX7_readStatement 24 = .ok (.iload_n 1, 1) := by decide +kernel
theorem dX7_readStatement_25 : decode cX7_readStatement 25 = .ok (.iload_n 2, 1) := by decide +kernel
theorem dX7_readStatement_26 : decode cX7_readStatement 26 = .ok (.iastore, 1) := by decide +kernel
theorem dX7_readStatement_27 : decode cX7_readStatement 27 = .ok (.aload_n 0, 1) := by decide +kernel
theorem dX7_readStatement_28 : decode cX7_readStatement 28 = .ok (.aload_n 0, 1) := by decide +kernel
theorem dX7_readStatement_29 : decode cX7_readStatement 29 = .ok (.getfield 147, 3) := by decide +kernel
theorem dX7_readStatement_32 : decode cX7_readStatement 32 = .ok (.ifCond .ne 10, 3) := by decide +kernel
theorem dX7_readStatement_35 : decode cX7_readStatement 35 = .ok (.iload_n 2, 1) := by decide +kernel
theorem dX7_readStatement_36 : decode cX7_readStatement 36 = .ok (.invokestatic 161, 3) := by decide +kernel
theorem dX7_readStatement_39 : decode cX7_readStatement 39 = .ok (.ifCond .ne 7, 3) := by decide +kernel
theorem dX7_readStatement_42 : decode cX7_readStatement 42 = .ok (.iconst 1, 1) := by decide +kernel
theorem dX7_readStatement_43 : decode cX7_readStatement 43 = .ok (.goto 4, 3) := by decide +kernel
theorem dX7_readStatement_46 : decode cX7_readStatement 46 = .ok (.iconst 0, 1) := by decide +kernel
theorem dX7_readStatement_47 : decode cX7_readStatement 47 = .ok (.putfield 147, 3) := by decide +kernel
theorem dX7_readStatement_50 : decode cX7_readStatement 50 = .ok (.aload_n 0, 1) := by decide +kernel
theorem dX7_readStatement_51 : decode cX7_readStatement 51 = .ok (.dup, 1) := by decide +kernel
theorem dX7_readStatement_52 : decode cX7_readStatement 52 = .ok (.getfield 144, 3) := by decide +kernel
theorem dX7_readStatement_55 : decode cX7_readStatement 55 = .ok (.aload_n 0, 1) := by decide +kernel
theorem dX7_readStatement_56 : decode cX7_readStatement 56 = .ok (.getfield 147, 3) := by decide +kernel
theorem dX7_readStatement_59 : decode cX7_readStatement 59 = .ok (.ifCond .eq 7, 3) := by decide +kernel
theorem dX7_readStatement_62 : decode cX7_readStatement 62 = .ok (.iconst 0, 1) := by decide +kernel
theorem dX7_readStatement_63 : decode cX7_readStatement 63 = .ok (.goto 4, 3) := by decide +kernel
theorem dX7_readStatement_66 : decode cX7_readStatement 66 = .ok (.iconst 1, 1) := by decide +kernel
theorem dX7_readStatement_67 : decode cX7_readStatement 67 = .ok (.iadd, 1) := by decide +kernel
theorem dX7_readStatement_68 : decode cX7_readStatement 68 = .ok (.putfield 144, 3) := by decide +kernel
theorem dX7_readStatement_71 : decode cX7_readStatement 71 = .ok (.aload_n 0, 1) := by decide +kernel
theorem dX7_readStatement_72 : decode cX7_readStatement 72 = .ok (.getfield 147, 3) := by decide +kernel
theorem dX7_readStatement_75 : decode cX7_readStatement 75 = .ok (.ifCond .ne 62, 3) := by decide +kernel
theorem dX7_readStatement_78 : decode cX7_readStatement 78 = .ok (.aload_n 0, 1) := by decide +kernel
theorem dX7_readStatement_79 : decode cX7_readStatement 79 = .ok (.getfield 49, 3) := by decide +kernel
theorem dX7_readStatement_82 : decode cX7_readStatement 82 = .ok (.iconst 3, 1) := by decide +kernel
theorem dX7_readStatement_83 : decode cX7_readStatement 83 = .ok (.iload_n 1, 1) := by decide +kernel
theorem dX7_readStatement_84 : decode cX7_readStatement 84 = .ok (.imul, 1) := by decide +kernel
theorem dX7_readStatement_85 : decode cX7_readStatement 85 = .ok (.aload_n 0, 1) := by decide +kernel
theorem dX7_readStatement_86 : decode cX7_readStatement 86 = .ok (.iload_n 2, 1) := by decide +kernel
theorem dX7_readStatement_87 : decode cX7_readStatement 87 = .ok (.bipush 98, 2) := by decide +kernel
theorem dX7_readStatement_89 : decode cX7_readStatement 89 = .ok (.if_icmp .ne 7, 3) := by decide +kernel
theorem dX7_readStatement_92 : decode cX7_readStatement 92 = .ok (.iconst 2, 1) := by decide +kernel
theorem dX7_readStatement_93 : decode cX7_readStatement 93 = .ok (.goto 4, 3) := by decide +kernel
theorem dX7_readStatement_96 : decode cX7_readStatement 96 = .ok (.iconst 1, 1) := by decide +kernel
theorem dX7_readStatement_97 : decode cX7_readStatement 97 = .ok (.invokevirtual 165, 3) := by decide +kernel
theorem dX7_readStatement_100 : decode cX7_readStatement 100 = .ok (.iastore, 1) := by decide +kernel
theorem dX7_readStatement_101 : decode cX7_readStatement 101 = .ok (.iload_n 2, 1) := by decide +kernel
theorem dX7_readStatement_102 : decode cX7_readStatement 102 = .ok (.bipush 99, 2) := by decide +kernel
theorem dX7_readStatement_104 : decode cX7_readStatement 104 = .ok (.if_icmp .ne 33, 3) := by decide +kernel
theorem dX7_readStatement_107 : decode cX7_readStatement 107 = .ok (.aload_n 0, 1) := by decide +kernel
theorem dX7_readStatement_108 : decode cX7_readStatement 108 = .ok (.getfield 49, 3) := by decide +kernel
theorem dX7_readStatement_111 : decode cX7_readStatement 111 = .ok (.iconst 3, 1) := by decide +kernel
theorem dX7_readStatement_112 : decode cX7_readStatement 112 = .ok (.iload_n 1, 1) := by decide +kernel
theorem dX7_readStatement_113 : decode cX7_readStatement 113 = .ok (.imul, 1) := by decide +kernel
theorem dX7_readStatement_114 : decode cX7_readStatement 114 = .ok (.iconst 1, 1) := by decide +kernel
theorem dX7_readStatement_115 : decode cX7_readStatement 115 = .ok (.iadd, 1) := by decide +kernel
theorem dX7_readStatement_116 : decode cX7_readStatement 116 = .ok (.aload_n 0, 1) := by decide +kernel
theorem dX7_readStatement_117 : decode cX7_readStatement 117 = .ok (.iconst 1, 1) := by decide +kernel
theorem dX7_readStatement_118 : decode cX7_readStatement 118 = .ok (.invokevirtual 165, 3) := by decide +kernel
theorem dX7_readStatement_121 : decode cX7_readStatement 121 = .ok (.iastore, 1) := by decide +kernel
theorem dX7_readStatement_122 : decode cX7_readStatement 122 = .ok (.aload_n 0, 1) := by decide +kernel
theorem dX7_readStatement_123 : decode cX7_readStatement 123 = .ok (.getfield 49, 3) := by decide +kernel
theorem dX7_readStatement_126 : decode cX7_readStatement 126 = .ok (.iconst 3, 1) := by decide +kernel
theorem dX7_readStatement_127 : decode cX7_readStatement 127 = .ok (.iload_n 1, 1) := by decide +kernel
theorem dX7_readStatement_128 : decode cX7_readStatement 128 = .ok (.imul, 1) := by decide +kernel
theorem dX7_readStatement_129 : decode cX7_readStatement 129 = .ok (.iconst 2, 1) := by decide +kernel
theorem dX7_readStatement_130 : decode cX7_readStatement 130 = .ok (.iadd, 1) := by decide +kernel
theorem dX7_readStatement_131 : decode cX7_readStatement 131 = .ok (.aload_n 0, 1) := by decide +kernel
theorem dX7_readStatement_132 : decode cX7_readStatement 132 = .ok (.iconst 3, 1) := by decide +kernel
theorem dX7_readStatement_133 : decode cX7_readStatement 133 = .ok (.invokevirtual 165, 3) := by decide +kernel
theorem dX7_readStatement_136 : decode cX7_readStatement 136 = .ok (.iastore, 1) := by decide +kernel
theorem dX7_readStatement_137 : decode cX7_readStatement 137 = .ok (.aload_n 0, 1) := by decide +kernel
theorem dX7_readStatement_138 : decode cX7_readStatement 138 = .ok (.aload_n 0, 1) := by decide +kernel
theorem dX7_readStatement_139 : decode cX7_readStatement 139 = .ok (.getfield 147, 3) := by decide +kernel
theorem dX7_readStatement_142 : decode cX7_readStatement 142 = .ok (.ifCond .ne 12, 3) := by decide +kernel
theorem dX7_readStatement_145 : decode cX7_readStatement 145 = .ok (.aload_n 0, 1) := by decide +kernel
theorem dX7_readStatement_146 : decode cX7_readStatement 146 = .ok (.invokevirtual 151, 3) := by decide +kernel
theorem dX7_readStatement_149 : decode cX7_readStatement 149 = .ok (.bipush 59, 2) := by decide +kernel
theorem dX7_readStatement_151 : decode cX7_readStatement 151 = .ok (.if_icmp .eq 7, 3) := by decide +kernel
theorem dX7_readStatement_154 : decode cX7_readStatement 154 = .ok (.iconst 1, 1) := by decide +kernel
theorem dX7_readStatement_155 : decode cX7_readStatement 155 = .ok (.goto 4, 3) := by decide +kernel
theorem dX7_readStatement_158 : decode cX7_readStatement 158 = .ok (.iconst 0, 1) := by decide +kernel
theorem dX7_readStatement_159 : decode cX7_readStatement 159 = .ok (.putfield 147, 3) := by decide +kernel
theorem dX7_readStatement_162 : decode cX7_readStatement 162 = .ok (.aload_n 0, 1) := by decide +kernel
theorem dX7_readStatement_163 : decode cX7_readStatement 163 = .ok (.dup, 1) := by decide +kernel
theorem dX7_readStatement_164 : decode cX7_readStatement 164 = .ok (.getfield 144, 3) := by decide +kernel
theorem dX7_readStatement_167 : decode cX7_readStatement 167 = .ok (.aload_n 0, 1) := by decide +kernel
theorem dX7_readStatement_168 : decode cX7_readStatement 168 = .ok (.getfield 147, 3) := by decide +kernel
theorem dX7_readStatement_171 : decode cX7_readStatement 171 = .ok (.ifCond .eq 7, 3) := by decide +kernel
theorem dX7_readStatement_174 : decode cX7_readStatement 174 = .ok (.iconst 0, 1) := by decide +kernel
theorem dX7_readStatement_175 : decode cX7_readStatement 175 = .ok (.goto 4, 3) := by decide +kernel
theorem dX7_readStatement_178 : decode cX7_readStatement 178 = .ok (.iconst 1, 1) := by decide +kernel
theorem dX7_readStatement_179 : decode cX7_readStatement 179 = .ok (.iadd, 1) := by decide +kernel
theorem dX7_readStatement_180 : decode cX7_readStatement 180 = .ok (.putfield 144, 3) := by decide +kernel
theorem dX7_readStatement_183 : decode cX7_readStatement 183 = .ok (.aload_n 0, 1) := by decide +kernel
theorem dX7_readStatement_184 : decode cX7_readStatement 184 = .ok (.dup, 1) := by decide +kernel
theorem dX7_readStatement_185 : decode cX7_readStatement 185 = .ok (.getfield 158, 3) := by decide +kernel
theorem dX7_readStatement_188 : decode cX7_readStatement 188 = .ok (.iconst 1, 1) := by decide +kernel
theorem dX7_readStatement_189 : decode cX7_readStatement 189 = .ok (.iadd, 1) := by decide +kernel
theorem dX7_readStatement_190 : decode cX7_readStatement 190 = .ok (.putfield 158, 3) := by decide +kernel
theorem dX7_readStatement_193 : decode cX7_readStatement 193 = .ok (.return_, 1) := by decide +kernel
theorem dX7_wedsCome_0 : decode cX7_wedsCome 0 = .ok (.iload_n 1, 1) := by decide +kernel
theorem dX7_wedsCome_1 : decode cX7_wedsCome 1 = .ok (.i2l, 1) := by decide +kernel
theorem dX7_wedsCome_2 : decode cX7_wedsCome 2 = .ok (.lconst 1, 1) := by decide +kernel
theorem dX7_wedsCome_3 : decode cX7_wedsCome 3 = .ok (.ldc2_w 168, 3) := by decide +kernel
theorem dX7_wedsCome_6 : decode cX7_wedsCome 6 = .ok (.invokestatic 86, 3) := by decide +kernel
theorem dX7_wedsCome_9 : decode cX7_wedsCome 9 = .ok (.ifCond .eq 15, 3) := by decide +kernel
theorem dX7_wedsCome_12 : decode cX7_wedsCome 12 = .ok (.iload_n 1, 1) := by decide +kernel
theorem dX7_wedsCome_13 : decode cX7_wedsCome 13 = .ok (.aload_n 0, 1) := by decide +kernel
theorem dX7_wedsCome_14 : decode cX7_wedsCome 14 = .ok (.getfield 100, 3) := by decide +kernel
theorem dX7_wedsCome_17 : decode cX7_wedsCome 17 = .ok (.if_icmp .gt 7, 3) := by decide +kernel
theorem dX7_wedsCome_20 : decode cX7_wedsCome 20 = .ok (.iconst 1, 1) := by decide +kernel
theorem dX7_wedsCome_21 : decode cX7_wedsCome 21 = .ok (.goto 4, 3) := by decide +kernel
theorem dX7_wedsCome_24 : decode cX7_wedsCome 24 = .ok (.iconst 0, 1) := by decide +kernel
theorem dX7_wedsCome_25 : decode cX7_wedsCome 25 = .ok (.istore_n 2, 1) := by decide +kernel
theorem dX7_wedsCome_26 : decode cX7_wedsCome 26 = .ok (.iconst 0, 1) := by decide +kernel
theorem dX7_wedsCome_27 : decode cX7_wedsCome 27 = .ok (.istore_n 3, 1) := by decide +kernel
theorem dX7_wedsCome_28 : decode cX7_wedsCome 28 = .ok (.iload_n 3, 1) := by decide +kernel
theorem dX7_wedsCome_29 : decode cX7_wedsCome 29 = .ok (.iload_n 1, 1) := by decide +kernel
theorem dX7_wedsCome_30 : decode cX7_wedsCome 30 = .ok (.if_icmp .ge 18, 3) := by decide +kernel
theorem dX7_wedsCome_33 : decode cX7_wedsCome 33 = .ok (.iload_n 2, 1) := by decide +kernel
theorem dX7_wedsCome_34 : decode cX7_wedsCome 34 = .ok (.ifCond .eq 14, 3) := by decide +kernel
theorem dX7_wedsCome_37 : decode cX7_wedsCome 37 = .ok (.aload_n 0, 1) := by decide +kernel
theorem dX7_wedsCome_38 : decode cX7_wedsCome 38 = .ok (.iconst 0, 1) := by decide +kernel
theorem dX7_wedsCome_39 : decode cX7_wedsCome 39 = .ok (.invokevirtual 117, 3) := by decide +kernel
theorem dX7_wedsCome_42 : decode cX7_wedsCome 42 = .ok (.iinc 3 1, 3) := by decide +kernel
theorem dX7_wedsCome_45 : decode cX7_wedsCome 45 = .ok (.goto (-17), 3) := by decide +kernel
theorem dX7_wedsCome_48 : decode cX7_wedsCome 48 = .ok (.iload_n 2, 1) := by decide +kernel
theorem dX7_wedsCome_49 : decode cX7_wedsCome 49 = .ok (.ireturn, 1) := by decide +kernel
theorem dX7_comesTold_0 : decode cX7_comesTold 0 = .ok (.aload_n 0, 1) := by decide +kernel
theorem dX7_comesTold_1 : decode cX7_comesTold 1 = .ok (.getfield 49, 3) := by decide +kernel
theorem dX7_comesTold_4 : decode cX7_comesTold 4 = .ok (.iconst 3, 1) := by decide +kernel
theorem dX7_comesTold_5 : decode cX7_comesTold 5 = .ok (.iload_n 1, 1) := by decide +kernel
theorem dX7_comesTold_6 : decode cX7_comesTold 6 = .ok (.imul, 1) := by decide +kernel
theorem dX7_comesTold_7 : decode cX7_comesTold 7 = .ok (.iaload, 1) := by decide +kernel
theorem dX7_comesTold_8 : decode cX7_comesTold 8 = .ok (.istore_n 2, 1) := by decide +kernel
theorem dX7_comesTold_9 : decode cX7_comesTold 9 = .ok (.iconst 1, 1) := by decide +kernel
theorem dX7_comesTold_10 : decode cX7_comesTold 10 = .ok (.istore_n 3, 1) := by decide +kernel
theorem dX7_comesTold_11 : decode cX7_comesTold 11 = .ok (.aload_n 0, 1) := by decide +kernel
theorem dX7_comesTold_12 : decode cX7_comesTold 12 = .ok (.getfield 46, 3) := by decide +kernel
theorem dX7_comesTold_15 : decode cX7_comesTold 15 = .ok (.iload_n 1, 1) := by decide +kernel
theorem dX7_comesTold_16 : decode cX7_comesTold 16 = .ok (.iaload, 1) := by decide +kernel
theorem dX7_comesTold_17 : decode cX7_comesTold 17 = .ok (.lookupswitch 145 #[(99, 51), (102, 105), (114, 84), (115, 77), (119, 139)], 51) := by decide +kernel
theorem dX7_comesTold_68 : decode cX7_comesTold 68 = .ok (.aload_n 0, 1) := by decide +kernel
theorem dX7_comesTold_69 : decode cX7_comesTold 69 = .ok (.iload_n 2, 1) := by decide +kernel
theorem dX7_comesTold_70 : decode cX7_comesTold 70 = .ok (.aload_n 0, 1) := by decide +kernel
theorem dX7_comesTold_71 : decode cX7_comesTold 71 = .ok (.getfield 49, 3) := by decide +kernel
theorem dX7_comesTold_74 : decode cX7_comesTold 74 = .ok (.iconst 3, 1) := by decide +kernel
theorem dX7_comesTold_75 : decode cX7_comesTold 75 = .ok (.iload_n 1, 1) := by decide +kernel
theorem dX7_comesTold_76 : decode cX7_comesTold 76 = .ok (.imul, 1) := by decide +kernel
theorem dX7_comesTold_77 : decode cX7_comesTold 77 = .ok (.iconst 1, 1) := by decide +kernel
theorem dX7_comesTold_78 : decode cX7_comesTold 78 = .ok (.iadd, 1) := by decide +kernel
theorem dX7_comesTold_79 : decode cX7_comesTold 79 = .ok (.iaload, 1) := by decide +kernel
theorem dX7_comesTold_80 : decode cX7_comesTold 80 = .ok (.aload_n 0, 1) := by decide +kernel
theorem dX7_comesTold_81 : decode cX7_comesTold 81 = .ok (.getfield 49, 3) := by decide +kernel
theorem dX7_comesTold_84 : decode cX7_comesTold 84 = .ok (.iconst 3, 1) := by decide +kernel
theorem dX7_comesTold_85 : decode cX7_comesTold 85 = .ok (.iload_n 1, 1) := by decide +kernel
theorem dX7_comesTold_86 : decode cX7_comesTold 86 = .ok (.imul, 1) := by decide +kernel
theorem dX7_comesTold_87 : decode cX7_comesTold 87 = .ok (.iconst 2, 1) := by decide +kernel
theorem dX7_comesTold_88 : decode cX7_comesTold 88 = .ok (.iadd, 1) := by decide +kernel
theorem dX7_comesTold_89 : decode cX7_comesTold 89 = .ok (.iaload, 1) := by decide +kernel
theorem dX7_comesTold_90 : decode cX7_comesTold 90 = .ok (.invokevirtual 170, 3) := by decide +kernel
theorem dX7_comesTold_93 : decode cX7_comesTold 93 = .ok (.ireturn, 1) := by decide +kernel
theorem dX7_comesTold_94 : decode cX7_comesTold 94 = .ok (.aload_n 0, 1) := by decide +kernel
theorem dX7_comesTold_95 : decode cX7_comesTold 95 = .ok (.iload_n 2, 1) := by decide +kernel
theorem dX7_comesTold_96 : decode cX7_comesTold 96 = .ok (.putfield 114, 3) := by decide +kernel
theorem dX7_comesTold_99 : decode cX7_comesTold 99 = .ok (.iconst 1, 1) := by decide +kernel
theorem dX7_comesTold_100 : decode cX7_comesTold 100 = .ok (.ireturn, 1) := by decide +kernel
theorem dX7_comesTold_101 : decode cX7_comesTold 101 = .ok (.iload_n 2, 1) := by decide +kernel
theorem dX7_comesTold_102 : decode cX7_comesTold 102 = .ok (.i2l, 1) := by decide +kernel
theorem dX7_comesTold_103 : decode cX7_comesTold 103 = .ok (.lconst 1, 1) := by decide +kernel
theorem dX7_comesTold_104 : decode cX7_comesTold 104 = .ok (.ldc2_w 126, 3) := by decide +kernel
theorem dX7_comesTold_107 : decode cX7_comesTold 107 = .ok (.invokestatic 86, 3) := by decide +kernel
theorem dX7_comesTold_110 : decode cX7_comesTold 110 = .ok (.istore_n 3, 1) := by decide +kernel
theorem dX7_comesTold_111 : decode cX7_comesTold 111 = .ok (.iload_n 3, 1) := by decide +kernel
theorem dX7_comesTold_112 : decode cX7_comesTold 112 = .ok (.ifCond .eq 8, 3) := by decide +kernel
theorem dX7_comesTold_115 : decode cX7_comesTold 115 = .ok (.aload_n 0, 1) := by decide +kernel
theorem dX7_comesTold_116 : decode cX7_comesTold 116 = .ok (.iload_n 2, 1) := by decide +kernel
theorem dX7_comesTold_117 : decode cX7_comesTold 117 = .ok (.invokevirtual 174, 3) := by decide +kernel
theorem dX7_comesTold_120 : decode cX7_comesTold 120 = .ok (.iload_n 3, 1) := by decide +kernel
theorem dX7_comesTold_121 : decode cX7_comesTold 121 = .ok (.ireturn, 1) := by decide +kernel
theorem dX7_comesTold_122 : decode cX7_comesTold 122 = .ok (.aload_n 0, 1) := by decide +kernel
theorem dX7_comesTold_123 : decode cX7_comesTold 123 = .ok (.iload_n 2, 1) := by decide +kernel
theorem dX7_comesTold_124 : decode cX7_comesTold 124 = .ok (.invokevirtual 177, 3) := by decide +kernel
theorem dX7_comesTold_127 : decode cX7_comesTold 127 = .ok (.ifCond .eq 16, 3) := by decide +kernel
theorem dX7_comesTold_130 : decode cX7_comesTold 130 = .ok (.aload_n 0, 1) := by decide +kernel
theorem dX7_comesTold_131 : decode cX7_comesTold 131 = .ok (.getfield 19, 3) := by decide +kernel
theorem dX7_comesTold_134 : decode cX7_comesTold 134 = .ok (.iload_n 2, 1) := by decide +kernel
theorem dX7_comesTold_135 : decode cX7_comesTold 135 = .ok (.iaload, 1) := by decide +kernel
theorem dX7_comesTold_136 : decode cX7_comesTold 136 = .ok (.ifCond .ne 7, 3) := by decide +kernel
theorem dX7_comesTold_139 : decode cX7_comesTold 139 = .ok (.iconst 1, 1) := by decide +kernel
theorem dX7_comesTold_140 : decode cX7_comesTold 140 = .ok (.goto 4, 3) := by decide +kernel
theorem dX7_comesTold_143 : decode cX7_comesTold 143 = .ok (.iconst 0, 1) := by decide +kernel
theorem dX7_comesTold_144 : decode cX7_comesTold 144 = .ok (.istore_n 3, 1) := by decide +kernel
theorem dX7_comesTold_145 : decode cX7_comesTold 145 = .ok (.iload_n 3, 1) := by decide +kernel
theorem dX7_comesTold_146 : decode cX7_comesTold 146 = .ok (.ifCond .eq 8, 3) := by decide +kernel
theorem dX7_comesTold_149 : decode cX7_comesTold 149 = .ok (.aload_n 0, 1) := by decide +kernel
theorem dX7_comesTold_150 : decode cX7_comesTold 150 = .ok (.iload_n 2, 1) := by decide +kernel
theorem dX7_comesTold_151 : decode cX7_comesTold 151 = .ok (.invokevirtual 180, 3) := by decide +kernel
theorem dX7_comesTold_154 : decode cX7_comesTold 154 = .ok (.iload_n 3, 1) := by decide +kernel
theorem dX7_comesTold_155 : decode cX7_comesTold 155 = .ok (.ireturn, 1) := by decide +kernel
theorem dX7_comesTold_156 : decode cX7_comesTold 156 = .ok (.aload_n 0, 1) := by decide +kernel
theorem dX7_comesTold_157 : decode cX7_comesTold 157 = .ok (.iload_n 2, 1) := by decide +kernel
theorem dX7_comesTold_158 : decode cX7_comesTold 158 = .ok (.invokevirtual 183, 3) := by decide +kernel
theorem dX7_comesTold_161 : decode cX7_comesTold 161 = .ok (.ireturn, 1) := by decide +kernel
theorem dX7_comesTold_162 : decode cX7_comesTold 162 = .ok (.iload_n 2, 1) := by decide +kernel
theorem dX7_comesTold_163 : decode cX7_comesTold 163 = .ok (.i2l, 1) := by decide +kernel
theorem dX7_comesTold_164 : decode cX7_comesTold 164 = .ok (.lconst 1, 1) := by decide +kernel
theorem dX7_comesTold_165 : decode cX7_comesTold 165 = .ok (.ldc2_w 186, 3) := by decide +kernel
theorem dX7_comesTold_168 : decode cX7_comesTold 168 = .ok (.invokestatic 86, 3) := by decide +kernel
theorem dX7_comesTold_171 : decode cX7_comesTold 171 = .ok (.istore_n 3, 1) := by decide +kernel
theorem dX7_comesTold_172 : decode cX7_comesTold 172 = .ok (.iload_n 3, 1) := by decide +kernel
theorem dX7_comesTold_173 : decode cX7_comesTold 173 = .ok (.ifCond .eq 8, 3) := by decide +kernel
theorem dX7_comesTold_176 : decode cX7_comesTold 176 = .ok (.aload_n 0, 1) := by decide +kernel
theorem dX7_comesTold_177 : decode cX7_comesTold 177 = .ok (.iload_n 2, 1) := by decide +kernel
theorem dX7_comesTold_178 : decode cX7_comesTold 178 = .ok (.invokevirtual 188, 3) := by decide +kernel
theorem dX7_comesTold_181 : decode cX7_comesTold 181 = .ok (.iload_n 3, 1) := by decide +kernel
theorem dX7_comesTold_182 : decode cX7_comesTold 182 = .ok (.ireturn, 1) := by decide +kernel
theorem dX7_hall_0 : decode cX7_hall 0 = .ok (.aload_n 0, 1) := by decide +kernel
theorem dX7_hall_1 : decode cX7_hall 1 = .ok (.iconst 0, 1) := by decide +kernel
theorem dX7_hall_2 : decode cX7_hall 2 = .ok (.putfield 76, 3) := by decide +kernel
theorem dX7_hall_5 : decode cX7_hall 5 = .ok (.aload_n 0, 1) := by decide +kernel
theorem dX7_hall_6 : decode cX7_hall 6 = .ok (.iconst 0, 1) := by decide +kernel
theorem dX7_hall_7 : decode cX7_hall 7 = .ok (.putfield 144, 3) := by decide +kernel
theorem dX7_hall_10 : decode cX7_hall 10 = .ok (.aload_n 0, 1) := by decide +kernel
theorem dX7_hall_11 : decode cX7_hall 11 = .ok (.iconst 0, 1) := by decide +kernel
theorem dX7_hall_12 : decode cX7_hall 12 = .ok (.putfield 147, 3) := by decide +kernel
theorem dX7_hall_15 : decode cX7_hall 15 = .ok (.aload_n 0, 1) := by decide +kernel
theorem dX7_hall_16 : decode cX7_hall 16 = .ok (.iconst 0, 1) := by decide +kernel
theorem dX7_hall_17 : decode cX7_hall 17 = .ok (.putfield 158, 3) := by decide +kernel
theorem dX7_hall_20 : decode cX7_hall 20 = .ok (.aload_n 0, 1) := by decide +kernel
theorem dX7_hall_21 : decode cX7_hall 21 = .ok (.getfield 147, 3) := by decide +kernel
theorem dX7_hall_24 : decode cX7_hall 24 = .ok (.ifCond .ne 28, 3) := by decide +kernel
theorem dX7_hall_27 : decode cX7_hall 27 = .ok (.aload_n 0, 1) := by decide +kernel
theorem dX7_hall_28 : decode cX7_hall 28 = .ok (.getfield 158, 3) := by decide +kernel
theorem dX7_hall_31 : decode cX7_hall 31 = .ok (.ifCond .eq 14, 3) := by decide +kernel
theorem dX7_hall_34 : decode cX7_hall 34 = .ok (.aload_n 0, 1) := by decide +kernel
theorem dX7_hall_35 : decode cX7_hall 35 = .ok (.getfield 144, 3) := by decide +kernel
theorem dX7_hall_38 : decode cX7_hall 38 = .ok (.aload_n 0, 1) := by decide +kernel
theorem dX7_hall_39 : decode cX7_hall 39 = .ok (.getfield 141, 3) := by decide +kernel
theorem dX7_hall_42 : decode cX7_hall 42 = .ok (.if_icmp .ge 10, 3) := by decide +kernel
theorem dX7_hall_45 : decode cX7_hall 45 = .ok (.aload_n 0, 1) := by decide +kernel
theorem dX7_hall_46 : decode cX7_hall 46 = .ok (.invokevirtual 191, 3) := by decide +kernel
theorem dX7_hall_49 : decode cX7_hall 49 = .ok (.goto (-29), 3) := by decide +kernel
theorem dX7_hall_52 : decode cX7_hall 52 = .ok (.aload_n 0, 1) := by decide +kernel
theorem dX7_hall_53 : decode cX7_hall 53 = .ok (.iconst 0, 1) := by decide +kernel
theorem dX7_hall_54 : decode cX7_hall 54 = .ok (.putfield 141, 3) := by decide +kernel
theorem dX7_hall_57 : decode cX7_hall 57 = .ok (.aload_n 0, 1) := by decide +kernel
theorem dX7_hall_58 : decode cX7_hall 58 = .ok (.getfield 147, 3) := by decide +kernel
theorem dX7_hall_61 : decode cX7_hall 61 = .ok (.ifCond .eq 12, 3) := by decide +kernel
theorem dX7_hall_64 : decode cX7_hall 64 = .ok (.sipush (-1000), 3) := by decide +kernel
theorem dX7_hall_67 : decode cX7_hall 67 = .ok (.aload_n 0, 1) := by decide +kernel
theorem dX7_hall_68 : decode cX7_hall 68 = .ok (.getfield 144, 3) := by decide +kernel
theorem dX7_hall_71 : decode cX7_hall 71 = .ok (.isub, 1) := by decide +kernel
theorem dX7_hall_72 : decode cX7_hall 72 = .ok (.ireturn, 1) := by decide +kernel
theorem dX7_hall_73 : decode cX7_hall 73 = .ok (.aload_n 0, 1) := by decide +kernel
theorem dX7_hall_74 : decode cX7_hall 74 = .ok (.invokevirtual 194, 3) := by decide +kernel
theorem dX7_hall_77 : decode cX7_hall 77 = .ok (.iconst 0, 1) := by decide +kernel
theorem dX7_hall_78 : decode cX7_hall 78 = .ok (.istore_n 1, 1) := by decide +kernel
theorem dX7_hall_79 : decode cX7_hall 79 = .ok (.iload_n 1, 1) := by decide +kernel
theorem dX7_hall_80 : decode cX7_hall 80 = .ok (.aload_n 0, 1) := by decide +kernel
theorem dX7_hall_81 : decode cX7_hall 81 = .ok (.getfield 158, 3) := by decide +kernel
theorem dX7_hall_84 : decode cX7_hall 84 = .ok (.if_icmp .ge 32, 3) := by decide +kernel
theorem dX7_hall_87 : decode cX7_hall 87 = .ok (.aload_n 0, 1) := by decide +kernel
theorem dX7_hall_88 : decode cX7_hall 88 = .ok (.iload_n 1, 1) := by decide +kernel
theorem dX7_hall_89 : decode cX7_hall 89 = .ok (.invokevirtual 197, 3) := by decide +kernel
theorem dX7_hall_92 : decode cX7_hall 92 = .ok (.ifCond .ne 18, 3) := by decide +kernel
theorem dX7_hall_95 : decode cX7_hall 95 = .ok (.aload_n 0, 1) := by decide +kernel
theorem dX7_hall_96 : decode cX7_hall 96 = .ok (.invokevirtual 200, 3) := by decide +kernel
theorem dX7_hall_99 : decode cX7_hall 99 = .ok (.sipush (-2000), 3) := by decide +kernel
theorem dX7_hall_102 : decode cX7_hall 102 = .ok (.aload_n 0, 1) := by decide +kernel
theorem dX7_hall_103 : decode cX7_hall 103 = .ok (.getfield 43, 3) := by decide +kernel
theorem dX7_hall_106 : decode cX7_hall 106 = .ok (.iload_n 1, 1) := by decide +kernel
theorem dX7_hall_107 : decode cX7_hall 107 = .ok (.iaload, 1) := by decide +kernel
theorem dX7_hall_108 : decode cX7_hall 108 = .ok (.isub, 1) := by decide +kernel
theorem dX7_hall_109 : decode cX7_hall 109 = .ok (.ireturn, 1) := by decide +kernel
theorem dX7_hall_110 : decode cX7_hall 110 = .ok (.iinc 1 1, 3) := by decide +kernel
theorem dX7_hall_113 : decode cX7_hall 113 = .ok (.goto (-34), 3) := by decide +kernel
theorem dX7_hall_116 : decode cX7_hall 116 = .ok (.aload_n 0, 1) := by decide +kernel
theorem dX7_hall_117 : decode cX7_hall 117 = .ok (.iconst 0, 1) := by decide +kernel
theorem dX7_hall_118 : decode cX7_hall 118 = .ok (.putfield 203, 3) := by decide +kernel
theorem dX7_hall_121 : decode cX7_hall 121 = .ok (.aload_n 0, 1) := by decide +kernel
theorem dX7_hall_122 : decode cX7_hall 122 = .ok (.getfield 158, 3) := by decide +kernel
theorem dX7_hall_125 : decode cX7_hall 125 = .ok (.ireturn, 1) := by decide +kernel
theorem dX7_carry_0 : decode cX7_carry 0 = .ok (.aload_n 0, 1) := by decide +kernel
theorem dX7_carry_1 : decode cX7_carry 1 = .ok (.getfield 206, 3) := by decide +kernel
theorem dX7_carry_4 : decode cX7_carry 4 = .ok (.ifCond .eq 13, 3) := by decide +kernel
theorem dX7_carry_7 : decode cX7_carry 7 = .ok (.aload_n 0, 1) := by decide +kernel
theorem dX7_carry_8 : decode cX7_carry 8 = .ok (.getfield 209, 3) := by decide +kernel
theorem dX7_carry_11 : decode cX7_carry 11 = .ok (.aload_n 0, 1) := by decide +kernel
theorem dX7_carry_12 : decode cX7_carry 12 = .ok (.getfield 212, 3) := by decide +kernel
theorem dX7_carry_15 : decode cX7_carry 15 = .ok (.iload_n 1, 1) := by decide +kernel
theorem dX7_carry_16 : decode cX7_carry 16 = .ok (.iastore, 1) := by decide +kernel
theorem dX7_carry_17 : decode cX7_carry 17 = .ok (.aload_n 0, 1) := by decide +kernel
theorem dX7_carry_18 : decode cX7_carry 18 = .ok (.dup, 1) := by decide +kernel
theorem dX7_carry_19 : decode cX7_carry 19 = .ok (.getfield 212, 3) := by decide +kernel
theorem dX7_carry_22 : decode cX7_carry 22 = .ok (.iconst 1, 1) := by decide +kernel
theorem dX7_carry_23 : decode cX7_carry 23 = .ok (.iadd, 1) := by decide +kernel
theorem dX7_carry_24 : decode cX7_carry 24 = .ok (.putfield 212, 3) := by decide +kernel
theorem dX7_carry_27 : decode cX7_carry 27 = .ok (.aload_n 0, 1) := by decide +kernel
theorem dX7_carry_28 : decode cX7_carry 28 = .ok (.getfield 209, 3) := by decide +kernel
theorem dX7_carry_31 : decode cX7_carry 31 = .ok (.aload_n 0, 1) := by decide +kernel
theorem dX7_carry_32 : decode cX7_carry 32 = .ok (.getfield 212, 3) := by decide +kernel
theorem dX7_carry_35 : decode cX7_carry 35 = .ok (.iconst 1, 1) := by decide +kernel
theorem dX7_carry_36 : decode cX7_carry 36 = .ok (.isub, 1) := by decide +kernel
theorem dX7_carry_37 : decode cX7_carry 37 = .ok (.iaload, 1) := by decide +kernel
theorem dX7_carry_38 : decode cX7_carry 38 = .ok (.ireturn, 1) := by decide +kernel
theorem dX7_carryAll_0 : decode cX7_carryAll 0 = .ok (.aload_n 0, 1) := by decide +kernel
theorem dX7_carryAll_1 : decode cX7_carryAll 1 = .ok (.aload_n 1, 1) := by decide +kernel
theorem dX7_carryAll_2 : decode cX7_carryAll 2 = .ok (.putfield 209, 3) := by decide +kernel
theorem dX7_carryAll_5 : decode cX7_carryAll 5 = .ok (.aload_n 0, 1) := by decide +kernel
theorem dX7_carryAll_6 : decode cX7_carryAll 6 = .ok (.iload_n 2, 1) := by decide +kernel
theorem dX7_carryAll_7 : decode cX7_carryAll 7 = .ok (.putfield 206, 3) := by decide +kernel
theorem dX7_carryAll_10 : decode cX7_carryAll 10 = .ok (.aload_n 0, 1) := by decide +kernel
theorem dX7_carryAll_11 : decode cX7_carryAll 11 = .ok (.iconst 0, 1) := by decide +kernel
theorem dX7_carryAll_12 : decode cX7_carryAll 12 = .ok (.putfield 212, 3) := by decide +kernel
theorem dX7_carryAll_15 : decode cX7_carryAll 15 = .ok (.aload_n 0, 1) := by decide +kernel
theorem dX7_carryAll_16 : decode cX7_carryAll 16 = .ok (.aload_n 0, 1) := by decide +kernel
theorem dX7_carryAll_17 : decode cX7_carryAll 17 = .ok (.aload_n 0, 1) := by decide +kernel
theorem dX7_carryAll_18 : decode cX7_carryAll 18 = .ok (.getfield 83, 3) := by decide +kernel
theorem dX7_carryAll_21 : decode cX7_carryAll 21 = .ok (.invokevirtual 215, 3) := by decide +kernel
theorem dX7_carryAll_24 : decode cX7_carryAll 24 = .ok (.putfield 83, 3) := by decide +kernel
theorem dX7_carryAll_27 : decode cX7_carryAll 27 = .ok (.aload_n 0, 1) := by decide +kernel
theorem dX7_carryAll_28 : decode cX7_carryAll 28 = .ok (.aload_n 0, 1) := by decide +kernel
theorem dX7_carryAll_29 : decode cX7_carryAll 29 = .ok (.aload_n 0, 1) := by decide +kernel
theorem dX7_carryAll_30 : decode cX7_carryAll 30 = .ok (.getfield 100, 3) := by decide +kernel
theorem dX7_carryAll_33 : decode cX7_carryAll 33 = .ok (.invokevirtual 215, 3) := by decide +kernel
theorem dX7_carryAll_36 : decode cX7_carryAll 36 = .ok (.putfield 100, 3) := by decide +kernel
theorem dX7_carryAll_39 : decode cX7_carryAll 39 = .ok (.aload_n 0, 1) := by decide +kernel
theorem dX7_carryAll_40 : decode cX7_carryAll 40 = .ok (.aload_n 0, 1) := by decide +kernel
theorem dX7_carryAll_41 : decode cX7_carryAll 41 = .ok (.aload_n 0, 1) := by decide +kernel
theorem dX7_carryAll_42 : decode cX7_carryAll 42 = .ok (.getfield 80, 3) := by decide +kernel
theorem dX7_carryAll_45 : decode cX7_carryAll 45 = .ok (.invokevirtual 215, 3) := by decide +kernel
theorem dX7_carryAll_48 : decode cX7_carryAll 48 = .ok (.putfield 80, 3) := by decide +kernel
theorem dX7_carryAll_51 : decode cX7_carryAll 51 = .ok (.aload_n 0, 1) := by decide +kernel
theorem dX7_carryAll_52 : decode cX7_carryAll 52 = .ok (.aload_n 0, 1) := by decide +kernel
theorem dX7_carryAll_53 : decode cX7_carryAll 53 = .ok (.aload_n 0, 1) := by decide +kernel
theorem dX7_carryAll_54 : decode cX7_carryAll 54 = .ok (.getfield 94, 3) := by decide +kernel
theorem dX7_carryAll_57 : decode cX7_carryAll 57 = .ok (.invokevirtual 215, 3) := by decide +kernel
theorem dX7_carryAll_60 : decode cX7_carryAll 60 = .ok (.putfield 94, 3) := by decide +kernel
theorem dX7_carryAll_63 : decode cX7_carryAll 63 = .ok (.aload_n 0, 1) := by decide +kernel
theorem dX7_carryAll_64 : decode cX7_carryAll 64 = .ok (.aload_n 0, 1) := by decide +kernel
theorem dX7_carryAll_65 : decode cX7_carryAll 65 = .ok (.aload_n 0, 1) := by decide +kernel
theorem dX7_carryAll_66 : decode cX7_carryAll 66 = .ok (.getfield 114, 3) := by decide +kernel
theorem dX7_carryAll_69 : decode cX7_carryAll 69 = .ok (.invokevirtual 215, 3) := by decide +kernel
theorem dX7_carryAll_72 : decode cX7_carryAll 72 = .ok (.putfield 114, 3) := by decide +kernel
theorem dX7_carryAll_75 : decode cX7_carryAll 75 = .ok (.aload_n 0, 1) := by decide +kernel
theorem dX7_carryAll_76 : decode cX7_carryAll 76 = .ok (.getfield 34, 3) := by decide +kernel
theorem dX7_carryAll_79 : decode cX7_carryAll 79 = .ok (.iconst 0, 1) := by decide +kernel
theorem dX7_carryAll_80 : decode cX7_carryAll 80 = .ok (.aload_n 0, 1) := by decide +kernel
theorem dX7_carryAll_81 : decode cX7_carryAll 81 = .ok (.aload_n 0, 1) := by decide +kernel
theorem dX7_carryAll_82 : decode cX7_carryAll 82 = .ok (.getfield 34, 3) := by decide +kernel
theorem dX7_carryAll_85 : decode cX7_carryAll 85 = .ok (.iconst 0, 1) := by decide +kernel
theorem dX7_carryAll_86 : decode cX7_carryAll 86 = .ok (.iaload, 1) := by decide +kernel
theorem dX7_carryAll_87 : decode cX7_carryAll 87 = .ok (.invokevirtual 215, 3) := by decide +kernel
theorem dX7_carryAll_90 : decode cX7_carryAll 90 = .ok (.iastore, 1) := by decide +kernel
theorem dX7_carryAll_91 : decode cX7_carryAll 91 = .ok (.aload_n 0, 1) := by decide +kernel
theorem dX7_carryAll_92 : decode cX7_carryAll 92 = .ok (.getfield 34, 3) := by decide +kernel
theorem dX7_carryAll_95 : decode cX7_carryAll 95 = .ok (.iconst 1, 1) := by decide +kernel
theorem dX7_carryAll_96 : decode cX7_carryAll 96 = .ok (.aload_n 0, 1) := by decide +kernel
theorem dX7_carryAll_97 : decode cX7_carryAll 97 = .ok (.aload_n 0, 1) := by decide +kernel
theorem dX7_carryAll_98 : decode cX7_carryAll 98 = .ok (.getfield 34, 3) := by decide +kernel
theorem dX7_carryAll_101 : decode cX7_carryAll 101 = .ok (.iconst 1, 1) := by decide +kernel
theorem dX7_carryAll_102 : decode cX7_carryAll 102 = .ok (.iaload, 1) := by decide +kernel
theorem dX7_carryAll_103 : decode cX7_carryAll 103 = .ok (.invokevirtual 215, 3) := by decide +kernel
theorem dX7_carryAll_106 : decode cX7_carryAll 106 = .ok (.iastore, 1) := by decide +kernel
theorem dX7_carryAll_107 : decode cX7_carryAll 107 = .ok (.iconst 0, 1) := by decide +kernel
theorem dX7_carryAll_108 : decode cX7_carryAll 108 = .ok (.istore_n 3, 1) := by decide +kernel
theorem dX7_carryAll_109 : decode cX7_carryAll 109 = .ok (.iload_n 3, 1) := by decide +kernel
theorem dX7_carryAll_110 : decode cX7_carryAll 110 = .ok (.bipush 7, 2) := by decide +kernel
theorem dX7_carryAll_112 : decode cX7_carryAll 112 = .ok (.if_icmp .ge 137, 3) := by decide +kernel
theorem dX7_carryAll_115 : decode cX7_carryAll 115 = .ok (.aload_n 0, 1) := by decide +kernel
theorem dX7_carryAll_116 : decode cX7_carryAll 116 = .ok (.getfield 7, 3) := by decide +kernel
theorem dX7_carryAll_119 : decode cX7_carryAll 119 = .ok (.iload_n 3, 1) := by decide +kernel
theorem dX7_carryAll_120 : decode cX7_carryAll 120 = .ok (.aload_n 0, 1) := by decide +kernel
theorem dX7_carryAll_121 : decode cX7_carryAll 121 = .ok (.aload_n 0, 1) := by decide +kernel
theorem dX7_carryAll_122 : decode cX7_carryAll 122 = .ok (.getfield 7, 3) := by decide +kernel
theorem dX7_carryAll_125 : decode cX7_carryAll 125 = .ok (.iload_n 3, 1) := by decide +kernel
theorem dX7_carryAll_126 : decode cX7_carryAll 126 = .ok (.iaload, 1) := by decide +kernel
theorem dX7_carryAll_127 : decode cX7_carryAll 127 = .ok (.invokevirtual 215, 3) := by decide +kernel
theorem dX7_carryAll_130 : decode cX7_carryAll 130 = .ok (.iastore, 1) := by decide +kernel
theorem dX7_carryAll_131 : decode cX7_carryAll 131 = .ok (.aload_n 0, 1) := by decide +kernel
theorem dX7_carryAll_132 : decode cX7_carryAll 132 = .ok (.getfield 13, 3) := by decide +kernel
theorem dX7_carryAll_135 : decode cX7_carryAll 135 = .ok (.iload_n 3, 1) := by decide +kernel
theorem dX7_carryAll_136 : decode cX7_carryAll 136 = .ok (.aload_n 0, 1) := by decide +kernel
theorem dX7_carryAll_137 : decode cX7_carryAll 137 = .ok (.aload_n 0, 1) := by decide +kernel
theorem dX7_carryAll_138 : decode cX7_carryAll 138 = .ok (.getfield 13, 3) := by decide +kernel
theorem dX7_carryAll_141 : decode cX7_carryAll 141 = .ok (.iload_n 3, 1) := by decide +kernel
theorem dX7_carryAll_142 : decode cX7_carryAll 142 = .ok (.iaload, 1) := by decide +kernel
theorem dX7_carryAll_143 : decode cX7_carryAll 143 = .ok (.invokevirtual 215, 3) := by decide +kernel
theorem dX7_carryAll_146 : decode cX7_carryAll 146 = .ok (.iastore, 1) := by decide +kernel
theorem dX7_carryAll_147 : decode cX7_carryAll 147 = .ok (.aload_n 0, 1) := by decide +kernel
theorem dX7_carryAll_148 : decode cX7_carryAll 148 = .ok (.getfield 16, 3) := by decide +kernel
theorem dX7_carryAll_151 : decode cX7_carryAll 151 = .ok (.iload_n 3, 1) := by decide +kernel
theorem dX7_carryAll_152 : decode cX7_carryAll 152 = .ok (.aload_n 0, 1) := by decide +kernel
theorem dX7_carryAll_153 : decode cX7_carryAll 153 = .ok (.aload_n 0, 1) := by decide +kernel
theorem dX7_carryAll_154 : decode cX7_carryAll 154 = .ok (.getfield 16, 3) := by decide +kernel
theorem dX7_carryAll_157 : decode cX7_carryAll 157 = .ok (.iload_n 3, 1) := by decide +kernel
theorem dX7_carryAll_158 : decode cX7_carryAll 158 = .ok (.iaload, 1) := by decide +kernel
theorem dX7_carryAll_159 : decode cX7_carryAll 159 = .ok (.invokevirtual 215, 3) := by decide +kernel
theorem dX7_carryAll_162 : decode cX7_carryAll 162 = .ok (.iastore, 1) := by decide +kernel
theorem dX7_carryAll_163 : decode cX7_carryAll 163 = .ok (.aload_n 0, 1) := by decide +kernel
theorem dX7_carryAll_164 : decode cX7_carryAll 164 = .ok (.getfield 19, 3) := by decide +kernel
theorem dX7_carryAll_167 : decode cX7_carryAll 167 = .ok (.iload_n 3, 1) := by decide +kernel
theorem dX7_carryAll_168 : decode cX7_carryAll 168 = .ok (.aload_n 0, 1) := by decide +kernel
theorem dX7_carryAll_169 : decode cX7_carryAll 169 = .ok (.aload_n 0, 1) := by decide +kernel
theorem dX7_carryAll_170 : decode cX7_carryAll 170 = .ok (.getfield 19, 3) := by decide +kernel
theorem dX7_carryAll_173 : decode cX7_carryAll 173 = .ok (.iload_n 3, 1) := by decide +kernel
theorem dX7_carryAll_174 : decode cX7_carryAll 174 = .ok (.iaload, 1) := by decide +kernel
theorem dX7_carryAll_175 : decode cX7_carryAll 175 = .ok (.invokevirtual 215, 3) := by decide +kernel
theorem dX7_carryAll_178 : decode cX7_carryAll 178 = .ok (.iastore, 1) := by decide +kernel
theorem dX7_carryAll_179 : decode cX7_carryAll 179 = .ok (.aload_n 0, 1) := by decide +kernel
theorem dX7_carryAll_180 : decode cX7_carryAll 180 = .ok (.getfield 22, 3) := by decide +kernel
theorem dX7_carryAll_183 : decode cX7_carryAll 183 = .ok (.iload_n 3, 1) := by decide +kernel
theorem dX7_carryAll_184 : decode cX7_carryAll 184 = .ok (.aload_n 0, 1) := by decide +kernel
theorem dX7_carryAll_185 : decode cX7_carryAll 185 = .ok (.aload_n 0, 1) := by decide +kernel
theorem dX7_carryAll_186 : decode cX7_carryAll 186 = .ok (.getfield 22, 3) := by decide +kernel
theorem dX7_carryAll_189 : decode cX7_carryAll 189 = .ok (.iload_n 3, 1) := by decide +kernel
theorem dX7_carryAll_190 : decode cX7_carryAll 190 = .ok (.iaload, 1) := by decide +kernel
theorem dX7_carryAll_191 : decode cX7_carryAll 191 = .ok (.invokevirtual 215, 3) := by decide +kernel
theorem dX7_carryAll_194 : decode cX7_carryAll 194 = .ok (.iastore, 1) := by decide +kernel
theorem dX7_carryAll_195 : decode cX7_carryAll 195 = .ok (.aload_n 0, 1) := by decide +kernel
theorem dX7_carryAll_196 : decode cX7_carryAll 196 = .ok (.getfield 25, 3) := by decide +kernel
theorem dX7_carryAll_199 : decode cX7_carryAll 199 = .ok (.iload_n 3, 1) := by decide +kernel
theorem dX7_carryAll_200 : decode cX7_carryAll 200 = .ok (.aload_n 0, 1) := by decide +kernel
theorem dX7_carryAll_201 : decode cX7_carryAll 201 = .ok (.aload_n 0, 1) := by decide +kernel
theorem dX7_carryAll_202 : decode cX7_carryAll 202 = .ok (.getfield 25, 3) := by decide +kernel
theorem dX7_carryAll_205 : decode cX7_carryAll 205 = .ok (.iload_n 3, 1) := by decide +kernel
theorem dX7_carryAll_206 : decode cX7_carryAll 206 = .ok (.iaload, 1) := by decide +kernel
theorem dX7_carryAll_207 : decode cX7_carryAll 207 = .ok (.invokevirtual 215, 3) := by decide +kernel
theorem dX7_carryAll_210 : decode cX7_carryAll 210 = .ok (.iastore, 1) := by decide +kernel
theorem dX7_carryAll_211 : decode cX7_carryAll 211 = .ok (.aload_n 0, 1) := by decide +kernel
theorem dX7_carryAll_212 : decode cX7_carryAll 212 = .ok (.getfield 28, 3) := by decide +kernel
theorem dX7_carryAll_215 : decode cX7_carryAll 215 = .ok (.iload_n 3, 1) := by decide +kernel
theorem dX7_carryAll_216 : decode cX7_carryAll 216 = .ok (.aload_n 0, 1) := by decide +kernel
theorem dX7_carryAll_217 : decode cX7_carryAll 217 = .ok (.aload_n 0, 1) := by decide +kernel
theorem dX7_carryAll_218 : decode cX7_carryAll 218 = .ok (.getfield 28, 3) := by decide +kernel
theorem dX7_carryAll_221 : decode cX7_carryAll 221 = .ok (.iload_n 3, 1) := by decide +kernel
theorem dX7_carryAll_222 : decode cX7_carryAll 222 = .ok (.iaload, 1) := by decide +kernel
theorem dX7_carryAll_223 : decode cX7_carryAll 223 = .ok (.invokevirtual 215, 3) := by decide +kernel
theorem dX7_carryAll_226 : decode cX7_carryAll 226 = .ok (.iastore, 1) := by decide +kernel
theorem dX7_carryAll_227 : decode cX7_carryAll 227 = .ok (.aload_n 0, 1) := by decide +kernel
theorem dX7_carryAll_228 : decode cX7_carryAll 228 = .ok (.getfield 31, 3) := by decide +kernel
theorem dX7_carryAll_231 : decode cX7_carryAll 231 = .ok (.iload_n 3, 1) := by decide +kernel
theorem dX7_carryAll_232 : decode cX7_carryAll 232 = .ok (.aload_n 0, 1) := by decide +kernel
theorem dX7_carryAll_233 : decode cX7_carryAll 233 = .ok (.aload_n 0, 1) := by decide +kernel
theorem dX7_carryAll_234 : decode cX7_carryAll 234 = .ok (.getfield 31, 3) := by decide +kernel
theorem dX7_carryAll_237 : decode cX7_carryAll 237 = .ok (.iload_n 3, 1) := by decide +kernel
theorem dX7_carryAll_238 : decode cX7_carryAll 238 = .ok (.iaload, 1) := by decide +kernel
theorem dX7_carryAll_239 : decode cX7_carryAll 239 = .ok (.invokevirtual 215, 3) := by decide +kernel
theorem dX7_carryAll_242 : decode cX7_carryAll 242 = .ok (.iastore, 1) := by decide +kernel
theorem dX7_carryAll_243 : decode cX7_carryAll 243 = .ok (.iinc 3 1, 3) := by decide +kernel
theorem dX7_carryAll_246 : decode cX7_carryAll 246 = .ok (.goto (-137), 3) := by decide +kernel
theorem dX7_carryAll_249 : decode cX7_carryAll 249 = .ok (.return_, 1) := by decide +kernel
theorem dX7_think_0 : decode cX7_think 0 = .ok (.aload_n 0, 1) := by decide +kernel
theorem dX7_think_1 : decode cX7_think 1 = .ok (.aload_n 0, 1) := by decide +kernel
theorem dX7_think_2 : decode cX7_think 2 = .ok (.getfield 52, 3) := by decide +kernel
theorem dX7_think_5 : decode cX7_think 5 = .ok (.iconst 1, 1) := by decide +kernel
theorem dX7_think_6 : decode cX7_think 6 = .ok (.invokevirtual 218, 3) := by decide +kernel
theorem dX7_think_9 : decode cX7_think 9 = .ok (.return_, 1) := by decide +kernel
theorem dX7_again_0 : decode cX7_again 0 = .ok (.aload_n 0, 1) := by decide +kernel
theorem dX7_again_1 : decode cX7_again 1 = .ok (.aload_n 0, 1) := by decide +kernel
theorem dX7_again_2 : decode cX7_again 2 = .ok (.getfield 52, 3) := by decide +kernel
theorem dX7_again_5 : decode cX7_again 5 = .ok (.iconst 0, 1) := by decide +kernel
theorem dX7_again_6 : decode cX7_again 6 = .ok (.invokevirtual 218, 3) := by decide +kernel
theorem dX7_again_9 : decode cX7_again 9 = .ok (.return_, 1) := by decide +kernel
theorem dX7_image_0 : decode cX7_image 0 = .ok (.aload_n 0, 1) := by decide +kernel
theorem dX7_image_1 : decode cX7_image 1 = .ok (.iconst 0, 1) := by decide +kernel
theorem dX7_image_2 : decode cX7_image 2 = .ok (.putfield 76, 3) := by decide +kernel
theorem dX7_image_5 : decode cX7_image 5 = .ok (.aload_n 0, 1) := by decide +kernel
theorem dX7_image_6 : decode cX7_image 6 = .ok (.iconst 1, 1) := by decide +kernel
theorem dX7_image_7 : decode cX7_image 7 = .ok (.putfield 222, 3) := by decide +kernel
theorem dX7_image_10 : decode cX7_image 10 = .ok (.aload_n 0, 1) := by decide +kernel
theorem dX7_image_11 : decode cX7_image 11 = .ok (.aload_n 0, 1) := by decide +kernel
theorem dX7_image_12 : decode cX7_image 12 = .ok (.getfield 55, 3) := by decide +kernel
theorem dX7_image_15 : decode cX7_image 15 = .ok (.iconst 1, 1) := by decide +kernel
theorem dX7_image_16 : decode cX7_image 16 = .ok (.invokevirtual 218, 3) := by decide +kernel
theorem dX7_image_19 : decode cX7_image 19 = .ok (.aload_n 0, 1) := by decide +kernel
theorem dX7_image_20 : decode cX7_image 20 = .ok (.getfield 100, 3) := by decide +kernel
theorem dX7_image_23 : decode cX7_image 23 = .ok (.ireturn, 1) := by decide +kernel
theorem dX7_restore_0 : decode cX7_restore 0 = .ok (.aload_n 0, 1) := by decide +kernel
theorem dX7_restore_1 : decode cX7_restore 1 = .ok (.iconst 0, 1) := by decide +kernel
theorem dX7_restore_2 : decode cX7_restore 2 = .ok (.putfield 76, 3) := by decide +kernel
theorem dX7_restore_5 : decode cX7_restore 5 = .ok (.aload_n 0, 1) := by decide +kernel
theorem dX7_restore_6 : decode cX7_restore 6 = .ok (.getfield 222, 3) := by decide +kernel
theorem dX7_restore_9 : decode cX7_restore 9 = .ok (.ifCond .ne 10, 3) := by decide +kernel
theorem dX7_restore_12 : decode cX7_restore 12 = .ok (.aload_n 0, 1) := by decide +kernel
theorem dX7_restore_13 : decode cX7_restore 13 = .ok (.bipush (-3), 2) := by decide +kernel
theorem dX7_restore_15 : decode cX7_restore 15 = .ok (.invokevirtual 138, 3) := by decide +kernel
theorem dX7_restore_18 : decode cX7_restore 18 = .ok (.ireturn, 1) := by decide +kernel
theorem dX7_restore_19 : decode cX7_restore 19 = .ok (.aload_n 0, 1) := by decide +kernel
theorem dX7_restore_20 : decode cX7_restore 20 = .ok (.aload_n 0, 1) := by decide +kernel
theorem dX7_restore_21 : decode cX7_restore 21 = .ok (.getfield 55, 3) := by decide +kernel
theorem dX7_restore_24 : decode cX7_restore 24 = .ok (.iconst 0, 1) := by decide +kernel
theorem dX7_restore_25 : decode cX7_restore 25 = .ok (.invokevirtual 218, 3) := by decide +kernel
theorem dX7_restore_28 : decode cX7_restore 28 = .ok (.aload_n 0, 1) := by decide +kernel
theorem dX7_restore_29 : decode cX7_restore 29 = .ok (.iconst 0, 1) := by decide +kernel
theorem dX7_restore_30 : decode cX7_restore 30 = .ok (.putfield 203, 3) := by decide +kernel
theorem dX7_restore_33 : decode cX7_restore 33 = .ok (.aload_n 0, 1) := by decide +kernel
theorem dX7_restore_34 : decode cX7_restore 34 = .ok (.getfield 100, 3) := by decide +kernel
theorem dX7_restore_37 : decode cX7_restore 37 = .ok (.ireturn, 1) := by decide +kernel
theorem dX7_keepTurn_0 : decode cX7_keepTurn 0 = .ok (.aload_n 0, 1) := by decide +kernel
theorem dX7_keepTurn_1 : decode cX7_keepTurn 1 = .ok (.getfield 203, 3) := by decide +kernel
theorem dX7_keepTurn_4 : decode cX7_keepTurn 4 = .ok (.bipush 8, 2) := by decide +kernel
theorem dX7_keepTurn_6 : decode cX7_keepTurn 6 = .ok (.if_icmp .ne 44, 3) := by decide +kernel
theorem dX7_keepTurn_9 : decode cX7_keepTurn 9 = .ok (.bipush 63, 2) := by decide +kernel
theorem dX7_keepTurn_11 : decode cX7_keepTurn 11 = .ok (.istore_n 1, 1) := by decide +kernel
theorem dX7_keepTurn_12 : decode cX7_keepTurn 12 = .ok (.iload_n 1, 1) := by decide +kernel
theorem dX7_keepTurn_13 : decode cX7_keepTurn 13 = .ok (.sipush 504, 3) := by decide +kernel
theorem dX7_keepTurn_16 : decode cX7_keepTurn 16 = .ok (.if_icmp .ge 24, 3) := by decide +kernel
theorem dX7_keepTurn_19 : decode cX7_keepTurn 19 = .ok (.aload_n 0, 1) := by decide +kernel
theorem dX7_keepTurn_20 : decode cX7_keepTurn 20 = .ok (.getfield 58, 3) := by decide +kernel
theorem dX7_keepTurn_23 : decode cX7_keepTurn 23 = .ok (.iload_n 1, 1) := by decide +kernel
theorem dX7_keepTurn_24 : decode cX7_keepTurn 24 = .ok (.bipush 63, 2) := by decide +kernel
theorem dX7_keepTurn_26 : decode cX7_keepTurn 26 = .ok (.isub, 1) := by decide +kernel
theorem dX7_keepTurn_27 : decode cX7_keepTurn 27 = .ok (.aload_n 0, 1) := by decide +kernel
theorem dX7_keepTurn_28 : decode cX7_keepTurn 28 = .ok (.getfield 58, 3) := by decide +kernel
theorem dX7_keepTurn_31 : decode cX7_keepTurn 31 = .ok (.iload_n 1, 1) := by decide +kernel
theorem dX7_keepTurn_32 : decode cX7_keepTurn 32 = .ok (.iaload, 1) := by decide +kernel
theorem dX7_keepTurn_33 : decode cX7_keepTurn 33 = .ok (.iastore, 1) := by decide +kernel
theorem dX7_keepTurn_34 : decode cX7_keepTurn 34 = .ok (.iinc 1 1, 3) := by decide +kernel
theorem dX7_keepTurn_37 : decode cX7_keepTurn 37 = .ok (.goto (-25), 3) := by decide +kernel
theorem dX7_keepTurn_40 : decode cX7_keepTurn 40 = .ok (.aload_n 0, 1) := by decide +kernel
theorem dX7_keepTurn_41 : decode cX7_keepTurn 41 = .ok (.dup, 1) := by decide +kernel
theorem dX7_keepTurn_42 : decode cX7_keepTurn 42 = .ok (.getfield 203, 3) := by decide +kernel
theorem dX7_keepTurn_45 : decode cX7_keepTurn 45 = .ok (.iconst 1, 1) := by decide +kernel
theorem dX7_keepTurn_46 : decode cX7_keepTurn 46 = .ok (.isub, 1) := by decide +kernel
theorem dX7_keepTurn_47 : decode cX7_keepTurn 47 = .ok (.putfield 203, 3) := by decide +kernel
theorem dX7_keepTurn_50 : decode cX7_keepTurn 50 = .ok (.aload_n 0, 1) := by decide +kernel
theorem dX7_keepTurn_51 : decode cX7_keepTurn 51 = .ok (.aload_n 0, 1) := by decide +kernel
theorem dX7_keepTurn_52 : decode cX7_keepTurn 52 = .ok (.getfield 61, 3) := by decide +kernel
theorem dX7_keepTurn_55 : decode cX7_keepTurn 55 = .ok (.iconst 1, 1) := by decide +kernel
theorem dX7_keepTurn_56 : decode cX7_keepTurn 56 = .ok (.invokevirtual 218, 3) := by decide +kernel
theorem dX7_keepTurn_59 : decode cX7_keepTurn 59 = .ok (.iconst 0, 1) := by decide +kernel
theorem dX7_keepTurn_60 : decode cX7_keepTurn 60 = .ok (.istore_n 1, 1) := by decide +kernel
theorem dX7_keepTurn_61 : decode cX7_keepTurn 61 = .ok (.iload_n 1, 1) := by decide +kernel
theorem dX7_keepTurn_62 : decode cX7_keepTurn 62 = .ok (.bipush 63, 2) := by decide +kernel
theorem dX7_keepTurn_64 : decode cX7_keepTurn 64 = .ok (.if_icmp .ge 29, 3) := by decide +kernel
theorem dX7_keepTurn_67 : decode cX7_keepTurn 67 = .ok (.aload_n 0, 1) := by decide +kernel
theorem dX7_keepTurn_68 : decode cX7_keepTurn 68 = .ok (.getfield 58, 3) := by decide +kernel
theorem dX7_keepTurn_71 : decode cX7_keepTurn 71 = .ok (.bipush 63, 2) := by decide +kernel
theorem dX7_keepTurn_73 : decode cX7_keepTurn 73 = .ok (.aload_n 0, 1) := by decide +kernel
theorem dX7_keepTurn_74 : decode cX7_keepTurn 74 = .ok (.getfield 203, 3) := by decide +kernel
theorem dX7_keepTurn_77 : decode cX7_keepTurn 77 = .ok (.imul, 1) := by decide +kernel
theorem dX7_keepTurn_78 : decode cX7_keepTurn 78 = .ok (.iload_n 1, 1) := by decide +kernel
theorem dX7_keepTurn_79 : decode cX7_keepTurn 79 = .ok (.iadd, 1) := by decide +kernel
theorem dX7_keepTurn_80 : decode cX7_keepTurn 80 = .ok (.aload_n 0, 1) := by decide +kernel
theorem dX7_keepTurn_81 : decode cX7_keepTurn 81 = .ok (.getfield 61, 3) := by decide +kernel
theorem dX7_keepTurn_84 : decode cX7_keepTurn 84 = .ok (.iload_n 1, 1) := by decide +kernel
theorem dX7_keepTurn_85 : decode cX7_keepTurn 85 = .ok (.iaload, 1) := by decide +kernel
theorem dX7_keepTurn_86 : decode cX7_keepTurn 86 = .ok (.iastore, 1) := by decide +kernel
theorem dX7_keepTurn_87 : decode cX7_keepTurn 87 = .ok (.iinc 1 1, 3) := by decide +kernel
theorem dX7_keepTurn_90 : decode cX7_keepTurn 90 = .ok (.goto (-29), 3) := by decide +kernel
theorem dX7_keepTurn_93 : decode cX7_keepTurn 93 = .ok (.aload_n 0, 1) := by decide +kernel
theorem dX7_keepTurn_94 : decode cX7_keepTurn 94 = .ok (.dup, 1) := by decide +kernel
theorem dX7_keepTurn_95 : decode cX7_keepTurn 95 = .ok (.getfield 203, 3) := by decide +kernel
theorem dX7_keepTurn_98 : decode cX7_keepTurn 98 = .ok (.iconst 1, 1) := by decide +kernel
theorem dX7_keepTurn_99 : decode cX7_keepTurn 99 = .ok (.iadd, 1) := by decide +kernel
theorem dX7_keepTurn_100 : decode cX7_keepTurn 100 = .ok (.putfield 203, 3) := by decide +kernel
theorem dX7_keepTurn_103 : decode cX7_keepTurn 103 = .ok (.return_, 1) := by decide +kernel
theorem dX7_back_0 : decode cX7_back 0 = .ok (.aload_n 0, 1) := by decide +kernel
theorem dX7_back_1 : decode cX7_back 1 = .ok (.iconst 0, 1) := by decide +kernel
theorem dX7_back_2 : decode cX7_back 2 = .ok (.putfield 76, 3) := by decide +kernel
theorem dX7_back_5 : decode cX7_back 5 = .ok (.aload_n 0, 1) := by decide +kernel
theorem dX7_back_6 : decode cX7_back 6 = .ok (.getfield 203, 3) := by decide +kernel
theorem dX7_back_9 : decode cX7_back 9 = .ok (.ifCond .ne 10, 3) := by decide +kernel
theorem dX7_back_12 : decode cX7_back 12 = .ok (.aload_n 0, 1) := by decide +kernel
theorem dX7_back_13 : decode cX7_back 13 = .ok (.bipush (-3), 2) := by decide +kernel
theorem dX7_back_15 : decode cX7_back 15 = .ok (.invokevirtual 138, 3) := by decide +kernel
theorem dX7_back_18 : decode cX7_back 18 = .ok (.ireturn, 1) := by decide +kernel
theorem dX7_back_19 : decode cX7_back 19 = .ok (.aload_n 0, 1) := by decide +kernel
theorem dX7_back_20 : decode cX7_back 20 = .ok (.dup, 1) := by decide +kernel
theorem dX7_back_21 : decode cX7_back 21 = .ok (.getfield 203, 3) := by decide +kernel
theorem dX7_back_24 : decode cX7_back 24 = .ok (.iconst 1, 1) := by decide +kernel
theorem dX7_back_25 : decode cX7_back 25 = .ok (.isub, 1) := by decide +kernel
theorem dX7_back_26 : decode cX7_back 26 = .ok (.putfield 203, 3) := by decide +kernel
theorem dX7_back_29 : decode cX7_back 29 = .ok (.iconst 0, 1) := by decide +kernel
theorem dX7_back_30 : decode cX7_back 30 = .ok (.istore_n 1, 1) := by decide +kernel
theorem dX7_back_31 : decode cX7_back 31 = .ok (.iload_n 1, 1) := by decide +kernel
theorem dX7_back_32 : decode cX7_back 32 = .ok (.bipush 63, 2) := by decide +kernel
theorem dX7_back_34 : decode cX7_back 34 = .ok (.if_icmp .ge 29, 3) := by decide +kernel
theorem dX7_back_37 : decode cX7_back 37 = .ok (.aload_n 0, 1) := by decide +kernel
theorem dX7_back_38 : decode cX7_back 38 = .ok (.getfield 61, 3) := by decide +kernel
theorem dX7_back_41 : decode cX7_back 41 = .ok (.iload_n 1, 1) := by decide +kernel
theorem dX7_back_42 : decode cX7_back 42 = .ok (.aload_n 0, 1) := by decide +kernel
theorem dX7_back_43 : decode cX7_back 43 = .ok (.getfield 58, 3) := by decide +kernel
theorem dX7_back_46 : decode cX7_back 46 = .ok (.bipush 63, 2) := by decide +kernel
theorem dX7_back_48 : decode cX7_back 48 = .ok (.aload_n 0, 1) := by decide +kernel
theorem dX7_back_49 : decode cX7_back 49 = .ok (.getfield 203, 3) := by decide +kernel
theorem dX7_back_52 : decode cX7_back 52 = .ok (.imul, 1) := by decide +kernel
theorem dX7_back_53 : decode cX7_back 53 = .ok (.iload_n 1, 1) := by decide +kernel
theorem dX7_back_54 : decode cX7_back 54 = .ok (.iadd, 1) := by decide +kernel
theorem dX7_back_55 : decode cX7_back 55 = .ok (.iaload, 1) := by decide +kernel
theorem dX7_back_56 : decode cX7_back 56 = .ok (.iastore, 1) := by decide +kernel
theorem dX7_back_57 : decode cX7_back 57 = .ok (.iinc 1 1, 3) := by decide +kernel
theorem dX7_back_60 : decode cX7_back 60 = .ok (.goto (-29), 3) := by decide +kernel
theorem dX7_back_63 : decode cX7_back 63 = .ok (.aload_n 0, 1) := by decide +kernel
theorem dX7_back_64 : decode cX7_back 64 = .ok (.aload_n 0, 1) := by decide +kernel
theorem dX7_back_65 : decode cX7_back 65 = .ok (.getfield 61, 3) := by decide +kernel
theorem dX7_back_68 : decode cX7_back 68 = .ok (.iconst 0, 1) := by decide +kernel
theorem dX7_back_69 : decode cX7_back 69 = .ok (.invokevirtual 218, 3) := by decide +kernel
theorem dX7_back_72 : decode cX7_back 72 = .ok (.aload_n 0, 1) := by decide +kernel
theorem dX7_back_73 : decode cX7_back 73 = .ok (.getfield 203, 3) := by decide +kernel
theorem dX7_back_76 : decode cX7_back 76 = .ok (.ireturn, 1) := by decide +kernel
theorem dX7_coupleOf_0 : decode cX7_coupleOf 0 = .ok (.aload_n 0, 1) := by decide +kernel
theorem dX7_coupleOf_1 : decode cX7_coupleOf 1 = .ok (.iconst 0, 1) := by decide +kernel
theorem dX7_coupleOf_2 : decode cX7_coupleOf 2 = .ok (.putfield 76, 3) := by decide +kernel
theorem dX7_coupleOf_5 : decode cX7_coupleOf 5 = .ok (.aload_n 0, 1) := by decide +kernel
theorem dX7_coupleOf_6 : decode cX7_coupleOf 6 = .ok (.iload_n 1, 1) := by decide +kernel
theorem dX7_coupleOf_7 : decode cX7_coupleOf 7 = .ok (.invokevirtual 177, 3) := by decide +kernel
theorem dX7_coupleOf_10 : decode cX7_coupleOf 10 = .ok (.ifCond .eq 15, 3) := by decide +kernel
theorem dX7_coupleOf_13 : decode cX7_coupleOf 13 = .ok (.iload_n 2, 1) := by decide +kernel
theorem dX7_coupleOf_14 : decode cX7_coupleOf 14 = .ok (.i2l, 1) := by decide +kernel
theorem dX7_coupleOf_15 : decode cX7_coupleOf 15 = .ok (.lconst 0, 1) := by decide +kernel
theorem dX7_coupleOf_16 : decode cX7_coupleOf 16 = .ok (.ldc2_w 168, 3) := by decide +kernel
theorem dX7_coupleOf_19 : decode cX7_coupleOf 19 = .ok (.invokestatic 86, 3) := by decide +kernel
theorem dX7_coupleOf_22 : decode cX7_coupleOf 22 = .ok (.ifCond .ne 22, 3) := by decide +kernel
theorem dX7_coupleOf_25 : decode cX7_coupleOf 25 = .ok (.aload_n 0, 1) := by decide +kernel
theorem dX7_coupleOf_26 : decode cX7_coupleOf 26 = .ok (.aload_n 0, 1) := by decide +kernel
theorem dX7_coupleOf_27 : decode cX7_coupleOf 27 = .ok (.iload_n 1, 1) := by decide +kernel
theorem dX7_coupleOf_28 : decode cX7_coupleOf 28 = .ok (.invokevirtual 177, 3) := by decide +kernel
theorem dX7_coupleOf_31 : decode cX7_coupleOf 31 = .ok (.ifCond .eq 8, 3) := by decide +kernel
theorem dX7_coupleOf_34 : decode cX7_coupleOf 34 = .ok (.bipush (-2), 2) := by decide +kernel
theorem dX7_coupleOf_36 : decode cX7_coupleOf 36 = .ok (.goto 4, 3) := by decide +kernel
theorem dX7_coupleOf_39 : decode cX7_coupleOf 39 = .ok (.iconst (-1), 1) := by decide +kernel
theorem dX7_coupleOf_40 : decode cX7_coupleOf 40 = .ok (.invokevirtual 138, 3) := by decide +kernel
theorem dX7_coupleOf_43 : decode cX7_coupleOf 43 = .ok (.ireturn, 1) := by decide +kernel
theorem dX7_coupleOf_44 : decode cX7_coupleOf 44 = .ok (.iload_n 2, 1) := by decide +kernel
theorem dX7_coupleOf_45 : decode cX7_coupleOf 45 = .ok (.tableswitch 99 0 6 #[43, 50, 57, 64, 71, 87, 93], 43) := by decide +kernel
theorem dX7_coupleOf_88 : decode cX7_coupleOf 88 = .ok (.aload_n 0, 1) := by decide +kernel
theorem dX7_coupleOf_89 : decode cX7_coupleOf 89 = .ok (.getfield 7, 3) := by decide +kernel
theorem dX7_coupleOf_92 : decode cX7_coupleOf 92 = .ok (.iload_n 1, 1) := by decide +kernel
theorem dX7_coupleOf_93 : decode cX7_coupleOf 93 = .ok (.iaload, 1) := by decide +kernel
theorem dX7_coupleOf_94 : decode cX7_coupleOf 94 = .ok (.ireturn, 1) := by decide +kernel
theorem dX7_coupleOf_95 : decode cX7_coupleOf 95 = .ok (.aload_n 0, 1) := by decide +kernel
theorem dX7_coupleOf_96 : decode cX7_coupleOf 96 = .ok (.getfield 13, 3) := by decide +kernel
theorem dX7_coupleOf_99 : decode cX7_coupleOf 99 = .ok (.iload_n 1, 1) := by decide +kernel
theorem dX7_coupleOf_100 : decode cX7_coupleOf 100 = .ok (.iaload, 1) := by decide +kernel
theorem dX7_coupleOf_101 : decode cX7_coupleOf 101 = .ok (.ireturn, 1) := by decide +kernel
theorem dX7_coupleOf_102 : decode cX7_coupleOf 102 = .ok (.aload_n 0, 1) := by decide +kernel
theorem dX7_coupleOf_103 : decode cX7_coupleOf 103 = .ok (.getfield 16, 3) := by decide +kernel
theorem dX7_coupleOf_106 : decode cX7_coupleOf 106 = .ok (.iload_n 1, 1) := by decide +kernel
theorem dX7_coupleOf_107 : decode cX7_coupleOf 107 = .ok (.iaload, 1) := by decide +kernel
theorem dX7_coupleOf_108 : decode cX7_coupleOf 108 = .ok (.ireturn, 1) := by decide +kernel
theorem dX7_coupleOf_109 : decode cX7_coupleOf 109 = .ok (.aload_n 0, 1) := by decide +kernel
theorem dX7_coupleOf_110 : decode cX7_coupleOf 110 = .ok (.getfield 19, 3) := by decide +kernel
theorem dX7_coupleOf_113 : decode cX7_coupleOf 113 = .ok (.iload_n 1, 1) := by decide +kernel
theorem dX7_coupleOf_114 : decode cX7_coupleOf 114 = .ok (.iaload, 1) := by decide +kernel
theorem dX7_coupleOf_115 : decode cX7_coupleOf 115 = .ok (.ireturn, 1) := by decide +kernel
theorem dX7_coupleOf_116 : decode cX7_coupleOf 116 = .ok (.aload_n 0, 1) := by decide +kernel
theorem dX7_coupleOf_117 : decode cX7_coupleOf 117 = .ok (.getfield 7, 3) := by decide +kernel
theorem dX7_coupleOf_120 : decode cX7_coupleOf 120 = .ok (.iload_n 1, 1) := by decide +kernel
theorem dX7_coupleOf_121 : decode cX7_coupleOf 121 = .ok (.iaload, 1) := by decide +kernel
theorem dX7_coupleOf_122 : decode cX7_coupleOf 122 = .ok (.aload_n 0, 1) := by decide +kernel
theorem dX7_coupleOf_123 : decode cX7_coupleOf 123 = .ok (.getfield 13, 3) := by decide +kernel
theorem dX7_coupleOf_126 : decode cX7_coupleOf 126 = .ok (.iload_n 1, 1) := by decide +kernel
theorem dX7_coupleOf_127 : decode cX7_coupleOf 127 = .ok (.iaload, 1) := by decide +kernel
theorem dX7_coupleOf_128 : decode cX7_coupleOf 128 = .ok (.invokestatic 111, 3) := by decide +kernel
theorem dX7_coupleOf_131 : decode cX7_coupleOf 131 = .ok (.ireturn, 1) := by decide +kernel
theorem dX7_coupleOf_132 : decode cX7_coupleOf 132 = .ok (.aload_n 0, 1) := by decide +kernel
theorem dX7_coupleOf_133 : decode cX7_coupleOf 133 = .ok (.iload_n 1, 1) := by decide +kernel
theorem dX7_coupleOf_134 : decode cX7_coupleOf 134 = .ok (.invokevirtual 107, 3) := by decide +kernel
theorem dX7_coupleOf_137 : decode cX7_coupleOf 137 = .ok (.ireturn, 1) := by decide +kernel
theorem dX7_coupleOf_138 : decode cX7_coupleOf 138 = .ok (.aload_n 0, 1) := by decide +kernel
theorem dX7_coupleOf_139 : decode cX7_coupleOf 139 = .ok (.iload_n 1, 1) := by decide +kernel
theorem dX7_coupleOf_140 : decode cX7_coupleOf 140 = .ok (.invokevirtual 225, 3) := by decide +kernel
theorem dX7_coupleOf_143 : decode cX7_coupleOf 143 = .ok (.ireturn, 1) := by decide +kernel
theorem dX7_coupleOf_144 : decode cX7_coupleOf 144 = .ok (.aload_n 0, 1) := by decide +kernel
theorem dX7_coupleOf_145 : decode cX7_coupleOf 145 = .ok (.iload_n 1, 1) := by decide +kernel
theorem dX7_coupleOf_146 : decode cX7_coupleOf 146 = .ok (.invokevirtual 228, 3) := by decide +kernel
theorem dX7_coupleOf_149 : decode cX7_coupleOf 149 = .ok (.ireturn, 1) := by decide +kernel
theorem dX7_order_0 : decode cX7_order 0 = .ok (.aload_n 0, 1) := by decide +kernel
theorem dX7_order_1 : decode cX7_order 1 = .ok (.iconst 0, 1) := by decide +kernel
theorem dX7_order_2 : decode cX7_order 2 = .ok (.putfield 76, 3) := by decide +kernel
theorem dX7_order_5 : decode cX7_order 5 = .ok (.iload_n 1, 1) := by decide +kernel
theorem dX7_order_6 : decode cX7_order 6 = .ok (.ifCond .ge 12, 3) := by decide +kernel
theorem dX7_order_9 : decode cX7_order 9 = .ok (.aload_n 0, 1) := by decide +kernel
theorem dX7_order_10 : decode cX7_order 10 = .ok (.bipush (-4), 2) := by decide +kernel
theorem dX7_order_12 : decode cX7_order 12 = .ok (.invokevirtual 138, 3) := by decide +kernel
theorem dX7_order_15 : decode cX7_order 15 = .ok (.goto 22, 3) := by decide +kernel
theorem dX7_order_18 : decode cX7_order 18 = .ok (.iload_n 1, 1) := by decide +kernel
theorem dX7_order_19 : decode cX7_order 19 = .ok (.aload_n 0, 1) := by decide +kernel
theorem dX7_order_20 : decode cX7_order 20 = .ok (.getfield 100, 3) := by decide +kernel
theorem dX7_order_23 : decode cX7_order 23 = .ok (.if_icmp .ge 12, 3) := by decide +kernel
theorem dX7_order_26 : decode cX7_order 26 = .ok (.aload_n 0, 1) := by decide +kernel
theorem dX7_order_27 : decode cX7_order 27 = .ok (.getfield 31, 3) := by decide +kernel
theorem dX7_order_30 : decode cX7_order 30 = .ok (.iload_n 1, 1) := by decide +kernel
theorem dX7_order_31 : decode cX7_order 31 = .ok (.iaload, 1) := by decide +kernel
theorem dX7_order_32 : decode cX7_order 32 = .ok (.goto 5, 3) := by decide +kernel
theorem dX7_order_35 : decode cX7_order 35 = .ok (.bipush (-9), 2) := by decide +kernel
theorem dX7_order_37 : decode cX7_order 37 = .ok (.ireturn, 1) := by decide +kernel
theorem dX7_free_0 : decode cX7_free 0 = .ok (.aload_n 0, 1) := by decide +kernel
theorem dX7_free_1 : decode cX7_free 1 = .ok (.iconst 0, 1) := by decide +kernel
theorem dX7_free_2 : decode cX7_free 2 = .ok (.putfield 76, 3) := by decide +kernel
theorem dX7_free_5 : decode cX7_free 5 = .ok (.iload_n 1, 1) := by decide +kernel
theorem dX7_free_6 : decode cX7_free 6 = .ok (.i2l, 1) := by decide +kernel
theorem dX7_free_7 : decode cX7_free 7 = .ok (.lconst 0, 1) := by decide +kernel
theorem dX7_free_8 : decode cX7_free 8 = .ok (.aload_n 0, 1) := by decide +kernel
theorem dX7_free_9 : decode cX7_free 9 = .ok (.getfield 80, 3) := by decide +kernel
theorem dX7_free_12 : decode cX7_free 12 = .ok (.iconst 1, 1) := by decide +kernel
theorem dX7_free_13 : decode cX7_free 13 = .ok (.isub, 1) := by decide +kernel
theorem dX7_free_14 : decode cX7_free 14 = .ok (.i2l, 1) := by decide +kernel
theorem dX7_free_15 : decode cX7_free 15 = .ok (.invokestatic 86, 3) := by decide +kernel
theorem dX7_free_18 : decode cX7_free 18 = .ok (.ifCond .eq 12, 3) := by decide +kernel
theorem dX7_free_21 : decode cX7_free 21 = .ok (.aload_n 0, 1) := by decide +kernel
theorem dX7_free_22 : decode cX7_free 22 = .ok (.getfield 34, 3) := by decide +kernel
theorem dX7_free_25 : decode cX7_free 25 = .ok (.iload_n 1, 1) := by decide +kernel
theorem dX7_free_26 : decode cX7_free 26 = .ok (.iaload, 1) := by decide +kernel
theorem dX7_free_27 : decode cX7_free 27 = .ok (.goto 9, 3) := by decide +kernel
theorem dX7_free_30 : decode cX7_free 30 = .ok (.aload_n 0, 1) := by decide +kernel
theorem dX7_free_31 : decode cX7_free 31 = .ok (.bipush (-2), 2) := by decide +kernel
theorem dX7_free_33 : decode cX7_free 33 = .ok (.invokevirtual 138, 3) := by decide +kernel
theorem dX7_free_36 : decode cX7_free 36 = .ok (.ireturn, 1) := by decide +kernel
theorem dX7_couple_0 : decode cX7_couple 0 = .ok (.aload_n 0, 1) := by decide +kernel
theorem dX7_couple_1 : decode cX7_couple 1 = .ok (.iconst 0, 1) := by decide +kernel
theorem dX7_couple_2 : decode cX7_couple 2 = .ok (.putfield 76, 3) := by decide +kernel
theorem dX7_couple_5 : decode cX7_couple 5 = .ok (.iconst 0, 1) := by decide +kernel
theorem dX7_couple_6 : decode cX7_couple 6 = .ok (.istore 4, 2) := by decide +kernel
theorem dX7_couple_8 : decode cX7_couple 8 = .ok (.iload_n 1, 1) := by decide +kernel
theorem dX7_couple_9 : decode cX7_couple 9 = .ok (.i2l, 1) := by decide +kernel
theorem dX7_couple_10 : decode cX7_couple 10 = .ok (.lconst 0, 1) := by decide +kernel
theorem dX7_couple_11 : decode cX7_couple 11 = .ok (.ldc2_w 231, 3) := by decide +kernel
theorem dX7_couple_14 : decode cX7_couple 14 = .ok (.invokestatic 86, 3) := by decide +kernel
theorem dX7_couple_17 : decode cX7_couple 17 = .ok (.ifCond .ne 10, 3) := by decide +kernel
theorem dX7_couple_20 : decode cX7_couple 20 = .ok (.bipush (-2), 2) := by decide +kernel
theorem dX7_couple_22 : decode cX7_couple 22 = .ok (.istore 4, 2) := by decide +kernel
theorem dX7_couple_24 : decode cX7_couple 24 = .ok (.goto 44, 3) := by decide +kernel
theorem dX7_couple_27 : decode cX7_couple 27 = .ok (.iload_n 2, 1) := by decide +kernel
theorem dX7_couple_28 : decode cX7_couple 28 = .ok (.ifCond .lt 7, 3) := by decide +kernel
theorem dX7_couple_31 : decode cX7_couple 31 = .ok (.iload_n 3, 1) := by decide +kernel
theorem dX7_couple_32 : decode cX7_couple 32 = .ok (.ifCond .ge 10, 3) := by decide +kernel
theorem dX7_couple_35 : decode cX7_couple 35 = .ok (.bipush (-4), 2) := by decide +kernel
theorem dX7_couple_37 : decode cX7_couple 37 = .ok (.istore 4, 2) := by decide +kernel
theorem dX7_couple_39 : decode cX7_couple 39 = .ok (.goto 29, 3) := by decide +kernel
theorem dX7_couple_42 : decode cX7_couple 42 = .ok (.iload_n 2, 1) := by decide +kernel
theorem dX7_couple_43 : decode cX7_couple 43 = .ok (.bipush 9, 2) := by decide +kernel
theorem dX7_couple_45 : decode cX7_couple 45 = .ok (.if_icmp .gt 19, 3) := by decide +kernel
theorem dX7_couple_48 : decode cX7_couple 48 = .ok (.iload_n 3, 1) := by decide +kernel
theorem dX7_couple_49 : decode cX7_couple 49 = .ok (.sipush 240, 3) := by decide +kernel
theorem dX7_couple_52 : decode cX7_couple 52 = .ok (.if_icmp .gt 12, 3) := by decide +kernel
theorem dX7_couple_55 : decode cX7_couple 55 = .ok (.aload_n 0, 1) := by decide +kernel
theorem dX7_couple_56 : decode cX7_couple 56 = .ok (.getfield 83, 3) := by decide +kernel
theorem dX7_couple_59 : decode cX7_couple 59 = .ok (.bipush 7, 2) := by decide +kernel
theorem dX7_couple_61 : decode cX7_couple 61 = .ok (.if_icmp .ne 7, 3) := by decide +kernel
theorem dX7_couple_64 : decode cX7_couple 64 = .ok (.bipush (-6), 2) := by decide +kernel
theorem dX7_couple_66 : decode cX7_couple 66 = .ok (.istore 4, 2) := by decide +kernel
theorem dX7_couple_68 : decode cX7_couple 68 = .ok (.iload 4, 2) := by decide +kernel
theorem dX7_couple_70 : decode cX7_couple 70 = .ok (.ifCond .ge 10, 3) := by decide +kernel
theorem dX7_couple_73 : decode cX7_couple 73 = .ok (.aload_n 0, 1) := by decide +kernel
theorem dX7_couple_74 : decode cX7_couple 74 = .ok (.iload 4, 2) := by decide +kernel
theorem dX7_couple_76 : decode cX7_couple 76 = .ok (.invokevirtual 138, 3) := by decide +kernel
theorem dX7_couple_79 : decode cX7_couple 79 = .ok (.ireturn, 1) := by decide +kernel
theorem dX7_couple_80 : decode cX7_couple 80 = .ok (.aload_n 0, 1) := by decide +kernel
theorem dX7_couple_81 : decode cX7_couple 81 = .ok (.iload_n 1, 1) := by decide +kernel
theorem dX7_couple_82 : decode cX7_couple 82 = .ok (.iload_n 2, 1) := by decide +kernel
theorem dX7_couple_83 : decode cX7_couple 83 = .ok (.iload_n 3, 1) := by decide +kernel
theorem dX7_couple_84 : decode cX7_couple 84 = .ok (.invokevirtual 170, 3) := by decide +kernel
theorem dX7_couple_87 : decode cX7_couple 87 = .ok (.pop, 1) := by decide +kernel
theorem dX7_couple_88 : decode cX7_couple 88 = .ok (.aload_n 0, 1) := by decide +kernel
theorem dX7_couple_89 : decode cX7_couple 89 = .ok (.iconst 0, 1) := by decide +kernel
theorem dX7_couple_90 : decode cX7_couple 90 = .ok (.putfield 203, 3) := by decide +kernel
theorem dX7_couple_93 : decode cX7_couple 93 = .ok (.aload_n 0, 1) := by decide +kernel
theorem dX7_couple_94 : decode cX7_couple 94 = .ok (.getfield 83, 3) := by decide +kernel
theorem dX7_couple_97 : decode cX7_couple 97 = .ok (.iconst 1, 1) := by decide +kernel
theorem dX7_couple_98 : decode cX7_couple 98 = .ok (.isub, 1) := by decide +kernel
theorem dX7_couple_99 : decode cX7_couple 99 = .ok (.ireturn, 1) := by decide +kernel
theorem dX7_rooms_0 : decode cX7_rooms 0 = .ok (.aload_n 0, 1) := by decide +kernel
theorem dX7_rooms_1 : decode cX7_rooms 1 = .ok (.iconst 0, 1) := by decide +kernel
theorem dX7_rooms_2 : decode cX7_rooms 2 = .ok (.putfield 76, 3) := by decide +kernel
theorem dX7_rooms_5 : decode cX7_rooms 5 = .ok (.iload_n 1, 1) := by decide +kernel
theorem dX7_rooms_6 : decode cX7_rooms 6 = .ok (.iconst 1, 1) := by decide +kernel
theorem dX7_rooms_7 : decode cX7_rooms 7 = .ok (.iconst 2, 1) := by decide +kernel
theorem dX7_rooms_8 : decode cX7_rooms 8 = .ok (.invokestatic 233, 3) := by decide +kernel
theorem dX7_rooms_11 : decode cX7_rooms 11 = .ok (.ifCond .ge 14, 3) := by decide +kernel
theorem dX7_rooms_14 : decode cX7_rooms 14 = .ok (.aload_n 0, 1) := by decide +kernel
theorem dX7_rooms_15 : decode cX7_rooms 15 = .ok (.iload_n 1, 1) := by decide +kernel
theorem dX7_rooms_16 : decode cX7_rooms 16 = .ok (.iconst 1, 1) := by decide +kernel
theorem dX7_rooms_17 : decode cX7_rooms 17 = .ok (.iconst 2, 1) := by decide +kernel
theorem dX7_rooms_18 : decode cX7_rooms 18 = .ok (.invokestatic 233, 3) := by decide +kernel
theorem dX7_rooms_21 : decode cX7_rooms 21 = .ok (.invokevirtual 138, 3) := by decide +kernel
theorem dX7_rooms_24 : decode cX7_rooms 24 = .ok (.ireturn, 1) := by decide +kernel
theorem dX7_rooms_25 : decode cX7_rooms 25 = .ok (.aload_n 0, 1) := by decide +kernel
theorem dX7_rooms_26 : decode cX7_rooms 26 = .ok (.getfield 80, 3) := by decide +kernel
theorem dX7_rooms_29 : decode cX7_rooms 29 = .ok (.istore_n 2, 1) := by decide +kernel
theorem dX7_rooms_30 : decode cX7_rooms 30 = .ok (.aload_n 0, 1) := by decide +kernel
theorem dX7_rooms_31 : decode cX7_rooms 31 = .ok (.iload_n 1, 1) := by decide +kernel
theorem dX7_rooms_32 : decode cX7_rooms 32 = .ok (.invokevirtual 174, 3) := by decide +kernel
theorem dX7_rooms_35 : decode cX7_rooms 35 = .ok (.aload_n 0, 1) := by decide +kernel
theorem dX7_rooms_36 : decode cX7_rooms 36 = .ok (.iconst 0, 1) := by decide +kernel
theorem dX7_rooms_37 : decode cX7_rooms 37 = .ok (.putfield 203, 3) := by decide +kernel
theorem dX7_rooms_40 : decode cX7_rooms 40 = .ok (.iload_n 2, 1) := by decide +kernel
theorem dX7_rooms_41 : decode cX7_rooms 41 = .ok (.ireturn, 1) := by decide +kernel
theorem dX7_weds_0 : decode cX7_weds 0 = .ok (.aload_n 0, 1) := by decide +kernel
theorem dX7_weds_1 : decode cX7_weds 1 = .ok (.iconst 0, 1) := by decide +kernel
theorem dX7_weds_2 : decode cX7_weds 2 = .ok (.putfield 76, 3) := by decide +kernel
theorem dX7_weds_5 : decode cX7_weds 5 = .ok (.iload_n 1, 1) := by decide +kernel
theorem dX7_weds_6 : decode cX7_weds 6 = .ok (.iconst 1, 1) := by decide +kernel
theorem dX7_weds_7 : decode cX7_weds 7 = .ok (.bipush 7, 2) := by decide +kernel
theorem dX7_weds_9 : decode cX7_weds 9 = .ok (.invokestatic 233, 3) := by decide +kernel
theorem dX7_weds_12 : decode cX7_weds 12 = .ok (.istore_n 2, 1) := by decide +kernel
theorem dX7_weds_13 : decode cX7_weds 13 = .ok (.iload_n 2, 1) := by decide +kernel
theorem dX7_weds_14 : decode cX7_weds 14 = .ok (.ifCond .ne 16, 3) := by decide +kernel
theorem dX7_weds_17 : decode cX7_weds 17 = .ok (.iload_n 1, 1) := by decide +kernel
theorem dX7_weds_18 : decode cX7_weds 18 = .ok (.aload_n 0, 1) := by decide +kernel
theorem dX7_weds_19 : decode cX7_weds 19 = .ok (.getfield 100, 3) := by decide +kernel
theorem dX7_weds_22 : decode cX7_weds 22 = .ok (.if_icmp .le 8, 3) := by decide +kernel
theorem dX7_weds_25 : decode cX7_weds 25 = .ok (.bipush (-3), 2) := by decide +kernel
theorem dX7_weds_27 : decode cX7_weds 27 = .ok (.goto 4, 3) := by decide +kernel
theorem dX7_weds_30 : decode cX7_weds 30 = .ok (.iload_n 2, 1) := by decide +kernel
theorem dX7_weds_31 : decode cX7_weds 31 = .ok (.istore_n 2, 1) := by decide +kernel
theorem dX7_weds_32 : decode cX7_weds 32 = .ok (.iload_n 2, 1) := by decide +kernel
theorem dX7_weds_33 : decode cX7_weds 33 = .ok (.ifCond .ge 9, 3) := by decide +kernel
theorem dX7_weds_36 : decode cX7_weds 36 = .ok (.aload_n 0, 1) := by decide +kernel
theorem dX7_weds_37 : decode cX7_weds 37 = .ok (.iload_n 2, 1) := by decide +kernel
theorem dX7_weds_38 : decode cX7_weds 38 = .ok (.invokevirtual 138, 3) := by decide +kernel
theorem dX7_weds_41 : decode cX7_weds 41 = .ok (.ireturn, 1) := by decide +kernel
theorem dX7_weds_42 : decode cX7_weds 42 = .ok (.aload_n 0, 1) := by decide +kernel
theorem dX7_weds_43 : decode cX7_weds 43 = .ok (.invokevirtual 237, 3) := by decide +kernel
theorem dX7_weds_46 : decode cX7_weds 46 = .ok (.aload_n 0, 1) := by decide +kernel
theorem dX7_weds_47 : decode cX7_weds 47 = .ok (.getfield 31, 3) := by decide +kernel
theorem dX7_weds_50 : decode cX7_weds 50 = .ok (.iload_n 1, 1) := by decide +kernel
theorem dX7_weds_51 : decode cX7_weds 51 = .ok (.iconst 1, 1) := by decide +kernel
theorem dX7_weds_52 : decode cX7_weds 52 = .ok (.isub, 1) := by decide +kernel
theorem dX7_weds_53 : decode cX7_weds 53 = .ok (.iaload, 1) := by decide +kernel
theorem dX7_weds_54 : decode cX7_weds 54 = .ok (.istore_n 3, 1) := by decide +kernel
theorem dX7_weds_55 : decode cX7_weds 55 = .ok (.aload_n 0, 1) := by decide +kernel
theorem dX7_weds_56 : decode cX7_weds 56 = .ok (.iload_n 1, 1) := by decide +kernel
theorem dX7_weds_57 : decode cX7_weds 57 = .ok (.invokevirtual 183, 3) := by decide +kernel
theorem dX7_weds_60 : decode cX7_weds 60 = .ok (.pop, 1) := by decide +kernel
theorem dX7_weds_61 : decode cX7_weds 61 = .ok (.aload_n 0, 1) := by decide +kernel
theorem dX7_weds_62 : decode cX7_weds 62 = .ok (.getfield 25, 3) := by decide +kernel
theorem dX7_weds_65 : decode cX7_weds 65 = .ok (.iload_n 3, 1) := by decide +kernel
theorem dX7_weds_66 : decode cX7_weds 66 = .ok (.iaload, 1) := by decide +kernel
theorem dX7_weds_67 : decode cX7_weds 67 = .ok (.ireturn, 1) := by decide +kernel
theorem dX7_pulls_0 : decode cX7_pulls 0 = .ok (.aload_n 0, 1) := by decide +kernel
theorem dX7_pulls_1 : decode cX7_pulls 1 = .ok (.iconst 0, 1) := by decide +kernel
theorem dX7_pulls_2 : decode cX7_pulls 2 = .ok (.putfield 76, 3) := by decide +kernel
theorem dX7_pulls_5 : decode cX7_pulls 5 = .ok (.aload_n 0, 1) := by decide +kernel
theorem dX7_pulls_6 : decode cX7_pulls 6 = .ok (.iload_n 1, 1) := by decide +kernel
theorem dX7_pulls_7 : decode cX7_pulls 7 = .ok (.invokevirtual 177, 3) := by decide +kernel
theorem dX7_pulls_10 : decode cX7_pulls 10 = .ok (.ifCond .ne 7, 3) := by decide +kernel
theorem dX7_pulls_13 : decode cX7_pulls 13 = .ok (.iconst (-1), 1) := by decide +kernel
theorem dX7_pulls_14 : decode cX7_pulls 14 = .ok (.goto 19, 3) := by decide +kernel
theorem dX7_pulls_17 : decode cX7_pulls 17 = .ok (.aload_n 0, 1) := by decide +kernel
theorem dX7_pulls_18 : decode cX7_pulls 18 = .ok (.getfield 19, 3) := by decide +kernel
theorem dX7_pulls_21 : decode cX7_pulls 21 = .ok (.iload_n 1, 1) := by decide +kernel
theorem dX7_pulls_22 : decode cX7_pulls 22 = .ok (.iaload, 1) := by decide +kernel
theorem dX7_pulls_23 : decode cX7_pulls 23 = .ok (.iconst 1, 1) := by decide +kernel
theorem dX7_pulls_24 : decode cX7_pulls 24 = .ok (.if_icmp .ne 8, 3) := by decide +kernel
theorem dX7_pulls_27 : decode cX7_pulls 27 = .ok (.bipush (-3), 2) := by decide +kernel
theorem dX7_pulls_29 : decode cX7_pulls 29 = .ok (.goto 4, 3) := by decide +kernel
theorem dX7_pulls_32 : decode cX7_pulls 32 = .ok (.iconst 0, 1) := by decide +kernel
theorem dX7_pulls_33 : decode cX7_pulls 33 = .ok (.istore_n 2, 1) := by decide +kernel
theorem dX7_pulls_34 : decode cX7_pulls 34 = .ok (.iload_n 2, 1) := by decide +kernel
theorem dX7_pulls_35 : decode cX7_pulls 35 = .ok (.ifCond .ge 9, 3) := by decide +kernel
theorem dX7_pulls_38 : decode cX7_pulls 38 = .ok (.aload_n 0, 1) := by decide +kernel
theorem dX7_pulls_39 : decode cX7_pulls 39 = .ok (.iload_n 2, 1) := by decide +kernel
theorem dX7_pulls_40 : decode cX7_pulls 40 = .ok (.invokevirtual 138, 3) := by decide +kernel
theorem dX7_pulls_43 : decode cX7_pulls 43 = .ok (.ireturn, 1) := by decide +kernel
theorem dX7_pulls_44 : decode cX7_pulls 44 = .ok (.aload_n 0, 1) := by decide +kernel
theorem dX7_pulls_45 : decode cX7_pulls 45 = .ok (.invokevirtual 237, 3) := by decide +kernel
theorem dX7_pulls_48 : decode cX7_pulls 48 = .ok (.aload_n 0, 1) := by decide +kernel
theorem dX7_pulls_49 : decode cX7_pulls 49 = .ok (.iload_n 1, 1) := by decide +kernel
theorem dX7_pulls_50 : decode cX7_pulls 50 = .ok (.invokevirtual 135, 3) := by decide +kernel
theorem dX7_pulls_53 : decode cX7_pulls 53 = .ok (.istore_n 3, 1) := by decide +kernel
theorem dX7_pulls_54 : decode cX7_pulls 54 = .ok (.aload_n 0, 1) := by decide +kernel
theorem dX7_pulls_55 : decode cX7_pulls 55 = .ok (.iload_n 1, 1) := by decide +kernel
theorem dX7_pulls_56 : decode cX7_pulls 56 = .ok (.invokevirtual 180, 3) := by decide +kernel
theorem dX7_pulls_59 : decode cX7_pulls 59 = .ok (.iload_n 3, 1) := by decide +kernel
theorem dX7_pulls_60 : decode cX7_pulls 60 = .ok (.ireturn, 1) := by decide +kernel
theorem dX7_slack_0 : decode cX7_slack 0 = .ok (.aload_n 0, 1) := by decide +kernel
theorem dX7_slack_1 : decode cX7_slack 1 = .ok (.iconst 0, 1) := by decide +kernel
theorem dX7_slack_2 : decode cX7_slack 2 = .ok (.putfield 76, 3) := by decide +kernel
theorem dX7_slack_5 : decode cX7_slack 5 = .ok (.iload_n 1, 1) := by decide +kernel
theorem dX7_slack_6 : decode cX7_slack 6 = .ok (.iconst 0, 1) := by decide +kernel
theorem dX7_slack_7 : decode cX7_slack 7 = .ok (.bipush 9, 2) := by decide +kernel
theorem dX7_slack_9 : decode cX7_slack 9 = .ok (.invokestatic 233, 3) := by decide +kernel
theorem dX7_slack_12 : decode cX7_slack 12 = .ok (.ifCond .ge 15, 3) := by decide +kernel
theorem dX7_slack_15 : decode cX7_slack 15 = .ok (.aload_n 0, 1) := by decide +kernel
theorem dX7_slack_16 : decode cX7_slack 16 = .ok (.iload_n 1, 1) := by decide +kernel
theorem dX7_slack_17 : decode cX7_slack 17 = .ok (.iconst 0, 1) := by decide +kernel
theorem dX7_slack_18 : decode cX7_slack 18 = .ok (.bipush 9, 2) := by decide +kernel
theorem dX7_slack_20 : decode cX7_slack 20 = .ok (.invokestatic 233, 3) := by decide +kernel
theorem dX7_slack_23 : decode cX7_slack 23 = .ok (.invokevirtual 138, 3) := by decide +kernel
theorem dX7_slack_26 : decode cX7_slack 26 = .ok (.ireturn, 1) := by decide +kernel
theorem dX7_slack_27 : decode cX7_slack 27 = .ok (.aload_n 0, 1) := by decide +kernel
theorem dX7_slack_28 : decode cX7_slack 28 = .ok (.invokevirtual 237, 3) := by decide +kernel
theorem dX7_slack_31 : decode cX7_slack 31 = .ok (.aload_n 0, 1) := by decide +kernel
theorem dX7_slack_32 : decode cX7_slack 32 = .ok (.getfield 114, 3) := by decide +kernel
theorem dX7_slack_35 : decode cX7_slack 35 = .ok (.istore_n 2, 1) := by decide +kernel
theorem dX7_slack_36 : decode cX7_slack 36 = .ok (.aload_n 0, 1) := by decide +kernel
theorem dX7_slack_37 : decode cX7_slack 37 = .ok (.iload_n 1, 1) := by decide +kernel
theorem dX7_slack_38 : decode cX7_slack 38 = .ok (.putfield 114, 3) := by decide +kernel
theorem dX7_slack_41 : decode cX7_slack 41 = .ok (.iload_n 2, 1) := by decide +kernel
theorem dX7_slack_42 : decode cX7_slack 42 = .ok (.ireturn, 1) := by decide +kernel
theorem dX7_rests_0 : decode cX7_rests 0 = .ok (.aload_n 0, 1) := by decide +kernel
theorem dX7_rests_1 : decode cX7_rests 1 = .ok (.iconst 0, 1) := by decide +kernel
theorem dX7_rests_2 : decode cX7_rests 2 = .ok (.putfield 76, 3) := by decide +kernel
theorem dX7_rests_5 : decode cX7_rests 5 = .ok (.iload_n 1, 1) := by decide +kernel
theorem dX7_rests_6 : decode cX7_rests 6 = .ok (.iconst 1, 1) := by decide +kernel
theorem dX7_rests_7 : decode cX7_rests 7 = .ok (.bipush 30, 2) := by decide +kernel
theorem dX7_rests_9 : decode cX7_rests 9 = .ok (.invokestatic 233, 3) := by decide +kernel
theorem dX7_rests_12 : decode cX7_rests 12 = .ok (.ifCond .ge 15, 3) := by decide +kernel
theorem dX7_rests_15 : decode cX7_rests 15 = .ok (.aload_n 0, 1) := by decide +kernel
theorem dX7_rests_16 : decode cX7_rests 16 = .ok (.iload_n 1, 1) := by decide +kernel
theorem dX7_rests_17 : decode cX7_rests 17 = .ok (.iconst 1, 1) := by decide +kernel
theorem dX7_rests_18 : decode cX7_rests 18 = .ok (.bipush 30, 2) := by decide +kernel
theorem dX7_rests_20 : decode cX7_rests 20 = .ok (.invokestatic 233, 3) := by decide +kernel
theorem dX7_rests_23 : decode cX7_rests 23 = .ok (.invokevirtual 138, 3) := by decide +kernel
theorem dX7_rests_26 : decode cX7_rests 26 = .ok (.ireturn, 1) := by decide +kernel
theorem dX7_rests_27 : decode cX7_rests 27 = .ok (.aload_n 0, 1) := by decide +kernel
theorem dX7_rests_28 : decode cX7_rests 28 = .ok (.invokevirtual 237, 3) := by decide +kernel
theorem dX7_rests_31 : decode cX7_rests 31 = .ok (.aload_n 0, 1) := by decide +kernel
theorem dX7_rests_32 : decode cX7_rests 32 = .ok (.getfield 94, 3) := by decide +kernel
theorem dX7_rests_35 : decode cX7_rests 35 = .ok (.istore_n 2, 1) := by decide +kernel
theorem dX7_rests_36 : decode cX7_rests 36 = .ok (.aload_n 0, 1) := by decide +kernel
theorem dX7_rests_37 : decode cX7_rests 37 = .ok (.iload_n 1, 1) := by decide +kernel
theorem dX7_rests_38 : decode cX7_rests 38 = .ok (.invokevirtual 188, 3) := by decide +kernel
theorem dX7_rests_41 : decode cX7_rests 41 = .ok (.iload_n 2, 1) := by decide +kernel
theorem dX7_rests_42 : decode cX7_rests 42 = .ok (.ireturn, 1) := by decide +kernel
theorem dX7_when_0 : decode cX7_when 0 = .ok (.aload_n 0, 1) := by decide +kernel
theorem dX7_when_1 : decode cX7_when 1 = .ok (.iconst 0, 1) := by decide +kernel
theorem dX7_when_2 : decode cX7_when 2 = .ok (.putfield 76, 3) := by decide +kernel
theorem dX7_when_5 : decode cX7_when 5 = .ok (.aload_n 0, 1) := by decide +kernel
theorem dX7_when_6 : decode cX7_when 6 = .ok (.iload_n 1, 1) := by decide +kernel
theorem dX7_when_7 : decode cX7_when 7 = .ok (.invokevirtual 177, 3) := by decide +kernel
theorem dX7_when_10 : decode cX7_when 10 = .ok (.ifCond .eq 7, 3) := by decide +kernel
theorem dX7_when_13 : decode cX7_when 13 = .ok (.iconst 0, 1) := by decide +kernel
theorem dX7_when_14 : decode cX7_when 14 = .ok (.goto 4, 3) := by decide +kernel
theorem dX7_when_17 : decode cX7_when 17 = .ok (.iconst (-1), 1) := by decide +kernel
theorem dX7_when_18 : decode cX7_when 18 = .ok (.iload_n 2, 1) := by decide +kernel
theorem dX7_when_19 : decode cX7_when 19 = .ok (.iconst 3, 1) := by decide +kernel
theorem dX7_when_20 : decode cX7_when 20 = .ok (.invokestatic 240, 3) := by decide +kernel
theorem dX7_when_23 : decode cX7_when 23 = .ok (.istore_n 3, 1) := by decide +kernel
theorem dX7_when_24 : decode cX7_when 24 = .ok (.iload_n 3, 1) := by decide +kernel
theorem dX7_when_25 : decode cX7_when 25 = .ok (.ifCond .ge 9, 3) := by decide +kernel
theorem dX7_when_28 : decode cX7_when 28 = .ok (.aload_n 0, 1) := by decide +kernel
theorem dX7_when_29 : decode cX7_when 29 = .ok (.iload_n 3, 1) := by decide +kernel
theorem dX7_when_30 : decode cX7_when 30 = .ok (.invokevirtual 138, 3) := by decide +kernel
theorem dX7_when_33 : decode cX7_when 33 = .ok (.ireturn, 1) := by decide +kernel
theorem dX7_when_34 : decode cX7_when 34 = .ok (.aload_n 0, 1) := by decide +kernel
theorem dX7_when_35 : decode cX7_when 35 = .ok (.invokevirtual 194, 3) := by decide +kernel
theorem dX7_when_38 : decode cX7_when 38 = .ok (.aload_n 0, 1) := by decide +kernel
theorem dX7_when_39 : decode cX7_when 39 = .ok (.invokevirtual 243, 3) := by decide +kernel
theorem dX7_when_42 : decode cX7_when 42 = .ok (.iload_n 2, 1) := by decide +kernel
theorem dX7_when_43 : decode cX7_when 43 = .ok (.ifCond .ne 12, 3) := by decide +kernel
theorem dX7_when_46 : decode cX7_when 46 = .ok (.aload_n 0, 1) := by decide +kernel
theorem dX7_when_47 : decode cX7_when 47 = .ok (.getfield 22, 3) := by decide +kernel
theorem dX7_when_50 : decode cX7_when 50 = .ok (.iload_n 1, 1) := by decide +kernel
theorem dX7_when_51 : decode cX7_when 51 = .ok (.iaload, 1) := by decide +kernel
theorem dX7_when_52 : decode cX7_when 52 = .ok (.goto 36, 3) := by decide +kernel
theorem dX7_when_55 : decode cX7_when 55 = .ok (.iload_n 2, 1) := by decide +kernel
theorem dX7_when_56 : decode cX7_when 56 = .ok (.iconst 1, 1) := by decide +kernel
theorem dX7_when_57 : decode cX7_when 57 = .ok (.if_icmp .ne 12, 3) := by decide +kernel
theorem dX7_when_60 : decode cX7_when 60 = .ok (.aload_n 0, 1) := by decide +kernel
theorem dX7_when_61 : decode cX7_when 61 = .ok (.getfield 25, 3) := by decide +kernel
theorem dX7_when_64 : decode cX7_when 64 = .ok (.iload_n 1, 1) := by decide +kernel
theorem dX7_when_65 : decode cX7_when 65 = .ok (.iaload, 1) := by decide +kernel
theorem dX7_when_66 : decode cX7_when 66 = .ok (.goto 22, 3) := by decide +kernel
theorem dX7_when_69 : decode cX7_when 69 = .ok (.iload_n 2, 1) := by decide +kernel
theorem dX7_when_70 : decode cX7_when 70 = .ok (.iconst 2, 1) := by decide +kernel
theorem dX7_when_71 : decode cX7_when 71 = .ok (.if_icmp .ne 12, 3) := by decide +kernel
theorem dX7_when_74 : decode cX7_when 74 = .ok (.aload_n 0, 1) := by decide +kernel
theorem dX7_when_75 : decode cX7_when 75 = .ok (.getfield 28, 3) := by decide +kernel
theorem dX7_when_78 : decode cX7_when 78 = .ok (.iload_n 1, 1) := by decide +kernel
theorem dX7_when_79 : decode cX7_when 79 = .ok (.iaload, 1) := by decide +kernel
theorem dX7_when_80 : decode cX7_when 80 = .ok (.goto 8, 3) := by decide +kernel
theorem dX7_when_83 : decode cX7_when 83 = .ok (.aload_n 0, 1) := by decide +kernel
theorem dX7_when_84 : decode cX7_when 84 = .ok (.iload_n 1, 1) := by decide +kernel
theorem dX7_when_85 : decode cX7_when 85 = .ok (.invokevirtual 121, 3) := by decide +kernel
theorem dX7_when_88 : decode cX7_when 88 = .ok (.istore 4, 2) := by decide +kernel
theorem dX7_when_90 : decode cX7_when 90 = .ok (.aload_n 0, 1) := by decide +kernel
theorem dX7_when_91 : decode cX7_when 91 = .ok (.invokevirtual 200, 3) := by decide +kernel
theorem dX7_when_94 : decode cX7_when 94 = .ok (.iload 4, 2) := by decide +kernel
theorem dX7_when_96 : decode cX7_when 96 = .ok (.ireturn, 1) := by decide +kernel
theorem dX7_waits_0 : decode cX7_waits 0 = .ok (.aload_n 0, 1) := by decide +kernel
theorem dX7_waits_1 : decode cX7_waits 1 = .ok (.iconst 0, 1) := by decide +kernel
theorem dX7_waits_2 : decode cX7_waits 2 = .ok (.putfield 76, 3) := by decide +kernel
theorem dX7_waits_5 : decode cX7_waits 5 = .ok (.aload_n 0, 1) := by decide +kernel
theorem dX7_waits_6 : decode cX7_waits 6 = .ok (.iload_n 1, 1) := by decide +kernel
theorem dX7_waits_7 : decode cX7_waits 7 = .ok (.invokevirtual 177, 3) := by decide +kernel
theorem dX7_waits_10 : decode cX7_waits 10 = .ok (.ifCond .ne 12, 3) := by decide +kernel
theorem dX7_waits_13 : decode cX7_waits 13 = .ok (.ldc 246, 2) := by decide +kernel
theorem dX7_waits_15 : decode cX7_waits 15 = .ok (.aload_n 0, 1) := by decide +kernel
theorem dX7_waits_16 : decode cX7_waits 16 = .ok (.iconst (-1), 1) := by decide +kernel
theorem dX7_waits_17 : decode cX7_waits 17 = .ok (.invokevirtual 138, 3) := by decide +kernel
theorem dX7_waits_20 : decode cX7_waits 20 = .ok (.isub, 1) := by decide +kernel
theorem dX7_waits_21 : decode cX7_waits 21 = .ok (.ireturn, 1) := by decide +kernel
theorem dX7_waits_22 : decode cX7_waits 22 = .ok (.aload_n 0, 1) := by decide +kernel
theorem dX7_waits_23 : decode cX7_waits 23 = .ok (.invokevirtual 194, 3) := by decide +kernel
theorem dX7_waits_26 : decode cX7_waits 26 = .ok (.aload_n 0, 1) := by decide +kernel
theorem dX7_waits_27 : decode cX7_waits 27 = .ok (.invokevirtual 243, 3) := by decide +kernel
theorem dX7_waits_30 : decode cX7_waits 30 = .ok (.aload_n 0, 1) := by decide +kernel
theorem dX7_waits_31 : decode cX7_waits 31 = .ok (.getfield 22, 3) := by decide +kernel
theorem dX7_waits_34 : decode cX7_waits 34 = .ok (.iload_n 1, 1) := by decide +kernel
theorem dX7_waits_35 : decode cX7_waits 35 = .ok (.iaload, 1) := by decide +kernel
theorem dX7_waits_36 : decode cX7_waits 36 = .ok (.aload_n 0, 1) := by decide +kernel
theorem dX7_waits_37 : decode cX7_waits 37 = .ok (.iload_n 1, 1) := by decide +kernel
theorem dX7_waits_38 : decode cX7_waits 38 = .ok (.invokevirtual 107, 3) := by decide +kernel
theorem dX7_waits_41 : decode cX7_waits 41 = .ok (.isub, 1) := by decide +kernel
theorem dX7_waits_42 : decode cX7_waits 42 = .ok (.istore_n 2, 1) := by decide +kernel
theorem dX7_waits_43 : decode cX7_waits 43 = .ok (.aload_n 0, 1) := by decide +kernel
theorem dX7_waits_44 : decode cX7_waits 44 = .ok (.invokevirtual 200, 3) := by decide +kernel
theorem dX7_waits_47 : decode cX7_waits 47 = .ok (.iload_n 2, 1) := by decide +kernel
theorem dX7_waits_48 : decode cX7_waits 48 = .ok (.ireturn, 1) := by decide +kernel
theorem dX7_all_0 : decode cX7_all 0 = .ok (.aload_n 0, 1) := by decide +kernel
theorem dX7_all_1 : decode cX7_all 1 = .ok (.iconst 0, 1) := by decide +kernel
theorem dX7_all_2 : decode cX7_all 2 = .ok (.putfield 76, 3) := by decide +kernel
theorem dX7_all_5 : decode cX7_all 5 = .ok (.iload_n 1, 1) := by decide +kernel
theorem dX7_all_6 : decode cX7_all 6 = .ok (.i2l, 1) := by decide +kernel
theorem dX7_all_7 : decode cX7_all 7 = .ok (.lconst 0, 1) := by decide +kernel
theorem dX7_all_8 : decode cX7_all 8 = .ok (.lconst 1, 1) := by decide +kernel
theorem dX7_all_9 : decode cX7_all 9 = .ok (.invokestatic 86, 3) := by decide +kernel
theorem dX7_all_12 : decode cX7_all 12 = .ok (.ifCond .ne 10, 3) := by decide +kernel
theorem dX7_all_15 : decode cX7_all 15 = .ok (.aload_n 0, 1) := by decide +kernel
theorem dX7_all_16 : decode cX7_all 16 = .ok (.bipush (-2), 2) := by decide +kernel
theorem dX7_all_18 : decode cX7_all 18 = .ok (.invokevirtual 138, 3) := by decide +kernel
theorem dX7_all_21 : decode cX7_all 21 = .ok (.ireturn, 1) := by decide +kernel
theorem dX7_all_22 : decode cX7_all 22 = .ok (.aload_n 0, 1) := by decide +kernel
theorem dX7_all_23 : decode cX7_all 23 = .ok (.invokevirtual 194, 3) := by decide +kernel
theorem dX7_all_26 : decode cX7_all 26 = .ok (.aload_n 0, 1) := by decide +kernel
theorem dX7_all_27 : decode cX7_all 27 = .ok (.invokevirtual 243, 3) := by decide +kernel
theorem dX7_all_30 : decode cX7_all 30 = .ok (.iload_n 1, 1) := by decide +kernel
theorem dX7_all_31 : decode cX7_all 31 = .ok (.ifCond .ne 10, 3) := by decide +kernel
theorem dX7_all_34 : decode cX7_all 34 = .ok (.aload_n 0, 1) := by decide +kernel
theorem dX7_all_35 : decode cX7_all 35 = .ok (.invokevirtual 247, 3) := by decide +kernel
theorem dX7_all_38 : decode cX7_all 38 = .ok (.goto 7, 3) := by decide +kernel
theorem dX7_all_41 : decode cX7_all 41 = .ok (.aload_n 0, 1) := by decide +kernel
theorem dX7_all_42 : decode cX7_all 42 = .ok (.invokevirtual 250, 3) := by decide +kernel
theorem dX7_all_45 : decode cX7_all 45 = .ok (.istore_n 2, 1) := by decide +kernel
theorem dX7_all_46 : decode cX7_all 46 = .ok (.aload_n 0, 1) := by decide +kernel
theorem dX7_all_47 : decode cX7_all 47 = .ok (.invokevirtual 200, 3) := by decide +kernel
theorem dX7_all_50 : decode cX7_all 50 = .ok (.iload_n 2, 1) := by decide +kernel
theorem dX7_all_51 : decode cX7_all 51 = .ok (.ireturn, 1) := by decide +kernel
theorem dX7_firstMet_0 : decode cX7_firstMet 0 = .ok (.iconst 0, 1) := by decide +kernel
theorem dX7_firstMet_1 : decode cX7_firstMet 1 = .ok (.istore_n 1, 1) := by decide +kernel
theorem dX7_firstMet_2 : decode cX7_firstMet 2 = .ok (.iload_n 1, 1) := by decide +kernel
theorem dX7_firstMet_3 : decode cX7_firstMet 3 = .ok (.aload_n 0, 1) := by decide +kernel
theorem dX7_firstMet_4 : decode cX7_firstMet 4 = .ok (.getfield 83, 3) := by decide +kernel
theorem dX7_firstMet_7 : decode cX7_firstMet 7 = .ok (.if_icmp .ge 43, 3) := by decide +kernel
theorem dX7_firstMet_10 : decode cX7_firstMet 10 = .ok (.iload_n 1, 1) := by decide +kernel
theorem dX7_firstMet_11 : decode cX7_firstMet 11 = .ok (.iconst 1, 1) := by decide +kernel
theorem dX7_firstMet_12 : decode cX7_firstMet 12 = .ok (.iadd, 1) := by decide +kernel
theorem dX7_firstMet_13 : decode cX7_firstMet 13 = .ok (.istore_n 2, 1) := by decide +kernel
theorem dX7_firstMet_14 : decode cX7_firstMet 14 = .ok (.iload_n 2, 1) := by decide +kernel
theorem dX7_firstMet_15 : decode cX7_firstMet 15 = .ok (.aload_n 0, 1) := by decide +kernel
theorem dX7_firstMet_16 : decode cX7_firstMet 16 = .ok (.getfield 83, 3) := by decide +kernel
theorem dX7_firstMet_19 : decode cX7_firstMet 19 = .ok (.if_icmp .ge 25, 3) := by decide +kernel
theorem dX7_firstMet_22 : decode cX7_firstMet 22 = .ok (.aload_n 0, 1) := by decide +kernel
theorem dX7_firstMet_23 : decode cX7_firstMet 23 = .ok (.iload_n 1, 1) := by decide +kernel
theorem dX7_firstMet_24 : decode cX7_firstMet 24 = .ok (.iload_n 2, 1) := by decide +kernel
theorem dX7_firstMet_25 : decode cX7_firstMet 25 = .ok (.invokevirtual 132, 3) := by decide +kernel
theorem dX7_firstMet_28 : decode cX7_firstMet 28 = .ok (.ifCond .eq 10, 3) := by decide +kernel
theorem dX7_firstMet_31 : decode cX7_firstMet 31 = .ok (.bipush 10, 2) := by decide +kernel
theorem dX7_firstMet_33 : decode cX7_firstMet 33 = .ok (.iload_n 1, 1) := by decide +kernel
theorem dX7_firstMet_34 : decode cX7_firstMet 34 = .ok (.imul, 1) := by decide +kernel
theorem dX7_firstMet_35 : decode cX7_firstMet 35 = .ok (.iload_n 2, 1) := by decide +kernel
theorem dX7_firstMet_36 : decode cX7_firstMet 36 = .ok (.iadd, 1) := by decide +kernel
theorem dX7_firstMet_37 : decode cX7_firstMet 37 = .ok (.ireturn, 1) := by decide +kernel
theorem dX7_firstMet_38 : decode cX7_firstMet 38 = .ok (.iinc 2 1, 3) := by decide +kernel
theorem dX7_firstMet_41 : decode cX7_firstMet 41 = .ok (.goto (-27), 3) := by decide +kernel
theorem dX7_firstMet_44 : decode cX7_firstMet 44 = .ok (.iinc 1 1, 3) := by decide +kernel
theorem dX7_firstMet_47 : decode cX7_firstMet 47 = .ok (.goto (-45), 3) := by decide +kernel
theorem dX7_firstMet_50 : decode cX7_firstMet 50 = .ok (.bipush (-9), 2) := by decide +kernel
theorem dX7_firstMet_52 : decode cX7_firstMet 52 = .ok (.ireturn, 1) := by decide +kernel
theorem dX7_strayedOne_0 : decode cX7_strayedOne 0 = .ok (.bipush (-9), 2) := by decide +kernel
theorem dX7_strayedOne_2 : decode cX7_strayedOne 2 = .ok (.istore_n 1, 1) := by decide +kernel
theorem dX7_strayedOne_3 : decode cX7_strayedOne 3 = .ok (.iconst 0, 1) := by decide +kernel
theorem dX7_strayedOne_4 : decode cX7_strayedOne 4 = .ok (.istore_n 2, 1) := by decide +kernel
theorem dX7_strayedOne_5 : decode cX7_strayedOne 5 = .ok (.iconst 0, 1) := by decide +kernel
theorem dX7_strayedOne_6 : decode cX7_strayedOne 6 = .ok (.istore_n 3, 1) := by decide +kernel
theorem dX7_strayedOne_7 : decode cX7_strayedOne 7 = .ok (.iload_n 3, 1) := by decide +kernel
theorem dX7_strayedOne_8 : decode cX7_strayedOne 8 = .ok (.aload_n 0, 1) := by decide +kernel
theorem dX7_strayedOne_9 : decode cX7_strayedOne 9 = .ok (.getfield 83, 3) := by decide +kernel
theorem dX7_strayedOne_12 : decode cX7_strayedOne 12 = .ok (.if_icmp .ge 69, 3) := by decide +kernel
theorem dX7_strayedOne_15 : decode cX7_strayedOne 15 = .ok (.iconst 0, 1) := by decide +kernel
theorem dX7_strayedOne_16 : decode cX7_strayedOne 16 = .ok (.istore 4, 2) := by decide +kernel
theorem dX7_strayedOne_18 : decode cX7_strayedOne 18 = .ok (.iconst 0, 1) := by decide +kernel
theorem dX7_strayedOne_19 : decode cX7_strayedOne 19 = .ok (.istore 5, 2) := by decide +kernel
theorem dX7_strayedOne_21 : decode cX7_strayedOne 21 = .ok (.iload 5, 2) := by decide +kernel
theorem dX7_strayedOne_23 : decode cX7_strayedOne 23 = .ok (.aload_n 0, 1) := by decide +kernel
theorem dX7_strayedOne_24 : decode cX7_strayedOne 24 = .ok (.getfield 83, 3) := by decide +kernel
theorem dX7_strayedOne_27 : decode cX7_strayedOne 27 = .ok (.if_icmp .ge 29, 3) := by decide +kernel
theorem dX7_strayedOne_30 : decode cX7_strayedOne 30 = .ok (.iload 4, 2) := by decide +kernel
theorem dX7_strayedOne_32 : decode cX7_strayedOne 32 = .ok (.aload_n 0, 1) := by decide +kernel
theorem dX7_strayedOne_33 : decode cX7_strayedOne 33 = .ok (.iload_n 3, 1) := by decide +kernel
theorem dX7_strayedOne_34 : decode cX7_strayedOne 34 = .ok (.iload 5, 2) := by decide +kernel
theorem dX7_strayedOne_36 : decode cX7_strayedOne 36 = .ok (.invokevirtual 132, 3) := by decide +kernel
theorem dX7_strayedOne_39 : decode cX7_strayedOne 39 = .ok (.ifCond .eq 7, 3) := by decide +kernel
theorem dX7_strayedOne_42 : decode cX7_strayedOne 42 = .ok (.iconst 1, 1) := by decide +kernel
theorem dX7_strayedOne_43 : decode cX7_strayedOne 43 = .ok (.goto 4, 3) := by decide +kernel
theorem dX7_strayedOne_46 : decode cX7_strayedOne 46 = .ok (.iconst 0, 1) := by decide +kernel
theorem dX7_strayedOne_47 : decode cX7_strayedOne 47 = .ok (.iadd, 1) := by decide +kernel
theorem dX7_strayedOne_48 : decode cX7_strayedOne 48 = .ok (.istore 4, 2) := by decide +kernel
theorem dX7_strayedOne_50 : decode cX7_strayedOne 50 = .ok (.iinc 5 1, 3) := by decide +kernel
theorem dX7_strayedOne_53 : decode cX7_strayedOne 53 = .ok (.goto (-32), 3) := by decide +kernel
theorem dX7_strayedOne_56 : decode cX7_strayedOne 56 = .ok (.iload 4, 2) := by decide +kernel
theorem dX7_strayedOne_58 : decode cX7_strayedOne 58 = .ok (.iload_n 2, 1) := by decide +kernel
theorem dX7_strayedOne_59 : decode cX7_strayedOne 59 = .ok (.if_icmp .le 7, 3) := by decide +kernel
theorem dX7_strayedOne_62 : decode cX7_strayedOne 62 = .ok (.iload_n 3, 1) := by decide +kernel
theorem dX7_strayedOne_63 : decode cX7_strayedOne 63 = .ok (.goto 4, 3) := by decide +kernel
theorem dX7_strayedOne_66 : decode cX7_strayedOne 66 = .ok (.iload_n 1, 1) := by decide +kernel
theorem dX7_strayedOne_67 : decode cX7_strayedOne 67 = .ok (.istore_n 1, 1) := by decide +kernel
theorem dX7_strayedOne_68 : decode cX7_strayedOne 68 = .ok (.iload_n 2, 1) := by decide +kernel
theorem dX7_strayedOne_69 : decode cX7_strayedOne 69 = .ok (.iload 4, 2) := by decide +kernel
theorem dX7_strayedOne_71 : decode cX7_strayedOne 71 = .ok (.invokestatic 90, 3) := by decide +kernel
theorem dX7_strayedOne_74 : decode cX7_strayedOne 74 = .ok (.istore_n 2, 1) := by decide +kernel
theorem dX7_strayedOne_75 : decode cX7_strayedOne 75 = .ok (.iinc 3 1, 3) := by decide +kernel
theorem dX7_strayedOne_78 : decode cX7_strayedOne 78 = .ok (.goto (-71), 3) := by decide +kernel
theorem dX7_strayedOne_81 : decode cX7_strayedOne 81 = .ok (.iload_n 1, 1) := by decide +kernel
theorem dX7_strayedOne_82 : decode cX7_strayedOne 82 = .ok (.ireturn, 1) := by decide +kernel
theorem dX7_met_0 : decode cX7_met 0 = .ok (.aload_n 0, 1) := by decide +kernel
theorem dX7_met_1 : decode cX7_met 1 = .ok (.iconst 0, 1) := by decide +kernel
theorem dX7_met_2 : decode cX7_met 2 = .ok (.putfield 76, 3) := by decide +kernel
theorem dX7_met_5 : decode cX7_met 5 = .ok (.iload_n 1, 1) := by decide +kernel
theorem dX7_met_6 : decode cX7_met 6 = .ok (.i2l, 1) := by decide +kernel
theorem dX7_met_7 : decode cX7_met 7 = .ok (.lconst 0, 1) := by decide +kernel
theorem dX7_met_8 : decode cX7_met 8 = .ok (.ldc2_w 126, 3) := by decide +kernel
theorem dX7_met_11 : decode cX7_met 11 = .ok (.invokestatic 86, 3) := by decide +kernel
theorem dX7_met_14 : decode cX7_met 14 = .ok (.ifCond .ne 10, 3) := by decide +kernel
theorem dX7_met_17 : decode cX7_met 17 = .ok (.aload_n 0, 1) := by decide +kernel
theorem dX7_met_18 : decode cX7_met 18 = .ok (.bipush (-2), 2) := by decide +kernel
theorem dX7_met_20 : decode cX7_met 20 = .ok (.invokevirtual 138, 3) := by decide +kernel
theorem dX7_met_23 : decode cX7_met 23 = .ok (.ireturn, 1) := by decide +kernel
theorem dX7_met_24 : decode cX7_met 24 = .ok (.aload_n 0, 1) := by decide +kernel
theorem dX7_met_25 : decode cX7_met 25 = .ok (.invokevirtual 194, 3) := by decide +kernel
theorem dX7_met_28 : decode cX7_met 28 = .ok (.aload_n 0, 1) := by decide +kernel
theorem dX7_met_29 : decode cX7_met 29 = .ok (.invokevirtual 243, 3) := by decide +kernel
theorem dX7_met_32 : decode cX7_met 32 = .ok (.iload_n 1, 1) := by decide +kernel
theorem dX7_met_33 : decode cX7_met 33 = .ok (.ifCond .ne 10, 3) := by decide +kernel
theorem dX7_met_36 : decode cX7_met 36 = .ok (.aload_n 0, 1) := by decide +kernel
theorem dX7_met_37 : decode cX7_met 37 = .ok (.invokevirtual 253, 3) := by decide +kernel
theorem dX7_met_40 : decode cX7_met 40 = .ok (.goto 19, 3) := by decide +kernel
theorem dX7_met_43 : decode cX7_met 43 = .ok (.iload_n 1, 1) := by decide +kernel
theorem dX7_met_44 : decode cX7_met 44 = .ok (.iconst 1, 1) := by decide +kernel
theorem dX7_met_45 : decode cX7_met 45 = .ok (.if_icmp .ne 10, 3) := by decide +kernel
theorem dX7_met_48 : decode cX7_met 48 = .ok (.aload_n 0, 1) := by decide +kernel
theorem dX7_met_49 : decode cX7_met 49 = .ok (.invokevirtual 256, 3) := by decide +kernel
theorem dX7_met_52 : decode cX7_met 52 = .ok (.goto 7, 3) := by decide +kernel
theorem dX7_met_55 : decode cX7_met 55 = .ok (.aload_n 0, 1) := by decide +kernel
theorem dX7_met_56 : decode cX7_met 56 = .ok (.invokevirtual 259, 3) := by decide +kernel
theorem dX7_met_59 : decode cX7_met 59 = .ok (.istore_n 2, 1) := by decide +kernel
theorem dX7_met_60 : decode cX7_met 60 = .ok (.aload_n 0, 1) := by decide +kernel
theorem dX7_met_61 : decode cX7_met 61 = .ok (.invokevirtual 200, 3) := by decide +kernel
theorem dX7_met_64 : decode cX7_met 64 = .ok (.iload_n 2, 1) := by decide +kernel
theorem dX7_met_65 : decode cX7_met 65 = .ok (.ireturn, 1) := by decide +kernel
theorem dX7_laySorted_0 : decode cX7_laySorted 0 = .ok (.iconst 0, 1) := by decide +kernel
theorem dX7_laySorted_1 : decode cX7_laySorted 1 = .ok (.istore_n 1, 1) := by decide +kernel
theorem dX7_laySorted_2 : decode cX7_laySorted 2 = .ok (.iconst 0, 1) := by decide +kernel
theorem dX7_laySorted_3 : decode cX7_laySorted 3 = .ok (.istore_n 2, 1) := by decide +kernel
theorem dX7_laySorted_4 : decode cX7_laySorted 4 = .ok (.iload_n 2, 1) := by decide +kernel
theorem dX7_laySorted_5 : decode cX7_laySorted 5 = .ok (.aload_n 0, 1) := by decide +kernel
theorem dX7_laySorted_6 : decode cX7_laySorted 6 = .ok (.getfield 83, 3) := by decide +kernel
theorem dX7_laySorted_9 : decode cX7_laySorted 9 = .ok (.if_icmp .ge 28, 3) := by decide +kernel
theorem dX7_laySorted_12 : decode cX7_laySorted 12 = .ok (.aload_n 0, 1) := by decide +kernel
theorem dX7_laySorted_13 : decode cX7_laySorted 13 = .ok (.getfield 19, 3) := by decide +kernel
theorem dX7_laySorted_16 : decode cX7_laySorted 16 = .ok (.iload_n 2, 1) := by decide +kernel
theorem dX7_laySorted_17 : decode cX7_laySorted 17 = .ok (.iaload, 1) := by decide +kernel
theorem dX7_laySorted_18 : decode cX7_laySorted 18 = .ok (.ifCond .ne 13, 3) := by decide +kernel
theorem dX7_laySorted_21 : decode cX7_laySorted 21 = .ok (.aload_n 0, 1) := by decide +kernel
theorem dX7_laySorted_22 : decode cX7_laySorted 22 = .ok (.getfield 64, 3) := by decide +kernel
theorem dX7_laySorted_25 : decode cX7_laySorted 25 = .ok (.iload_n 1, 1) := by decide +kernel
theorem dX7_laySorted_26 : decode cX7_laySorted 26 = .ok (.iload_n 2, 1) := by decide +kernel
theorem dX7_laySorted_27 : decode cX7_laySorted 27 = .ok (.iastore, 1) := by decide +kernel
theorem dX7_laySorted_28 : decode cX7_laySorted 28 = .ok (.iinc 1 1, 3) := by decide +kernel
theorem dX7_laySorted_31 : decode cX7_laySorted 31 = .ok (.iinc 2 1, 3) := by decide +kernel
theorem dX7_laySorted_34 : decode cX7_laySorted 34 = .ok (.goto (-30), 3) := by decide +kernel
theorem dX7_laySorted_37 : decode cX7_laySorted 37 = .ok (.return_, 1) := by decide +kernel
theorem dX7_ordersOf_0 : decode cX7_ordersOf 0 = .ok (.iconst 1, 1) := by decide +kernel
theorem dX7_ordersOf_1 : decode cX7_ordersOf 1 = .ok (.istore_n 1, 1) := by decide +kernel
theorem dX7_ordersOf_2 : decode cX7_ordersOf 2 = .ok (.iconst 2, 1) := by decide +kernel
theorem dX7_ordersOf_3 : decode cX7_ordersOf 3 = .ok (.istore_n 2, 1) := by decide +kernel
theorem dX7_ordersOf_4 : decode cX7_ordersOf 4 = .ok (.iload_n 2, 1) := by decide +kernel
theorem dX7_ordersOf_5 : decode cX7_ordersOf 5 = .ok (.iload_n 0, 1) := by decide +kernel
theorem dX7_ordersOf_6 : decode cX7_ordersOf 6 = .ok (.if_icmp .gt 13, 3) := by decide +kernel
theorem dX7_ordersOf_9 : decode cX7_ordersOf 9 = .ok (.iload_n 1, 1) := by decide +kernel
theorem dX7_ordersOf_10 : decode cX7_ordersOf 10 = .ok (.iload_n 2, 1) := by decide +kernel
theorem dX7_ordersOf_11 : decode cX7_ordersOf 11 = .ok (.imul, 1) := by decide +kernel
theorem dX7_ordersOf_12 : decode cX7_ordersOf 12 = .ok (.istore_n 1, 1) := by decide +kernel
theorem dX7_ordersOf_13 : decode cX7_ordersOf 13 = .ok (.iinc 2 1, 3) := by decide +kernel
theorem dX7_ordersOf_16 : decode cX7_ordersOf 16 = .ok (.goto (-12), 3) := by decide +kernel
theorem dX7_ordersOf_19 : decode cX7_ordersOf 19 = .ok (.iload_n 1, 1) := by decide +kernel
theorem dX7_ordersOf_20 : decode cX7_ordersOf 20 = .ok (.ireturn, 1) := by decide +kernel
theorem dX7_layOrder_0 : decode cX7_layOrder 0 = .ok (.iload_n 1, 1) := by decide +kernel
theorem dX7_layOrder_1 : decode cX7_layOrder 1 = .ok (.istore_n 2, 1) := by decide +kernel
theorem dX7_layOrder_2 : decode cX7_layOrder 2 = .ok (.iconst 0, 1) := by decide +kernel
theorem dX7_layOrder_3 : decode cX7_layOrder 3 = .ok (.istore_n 3, 1) := by decide +kernel
theorem dX7_layOrder_4 : decode cX7_layOrder 4 = .ok (.iconst 0, 1) := by decide +kernel
theorem dX7_layOrder_5 : decode cX7_layOrder 5 = .ok (.istore 4, 2) := by decide +kernel
theorem dX7_layOrder_7 : decode cX7_layOrder 7 = .ok (.iload 4, 2) := by decide +kernel
theorem dX7_layOrder_9 : decode cX7_layOrder 9 = .ok (.aload_n 0, 1) := by decide +kernel
theorem dX7_layOrder_10 : decode cX7_layOrder 10 = .ok (.getfield 100, 3) := by decide +kernel
theorem dX7_layOrder_13 : decode cX7_layOrder 13 = .ok (.if_icmp .ge 97, 3) := by decide +kernel
theorem dX7_layOrder_16 : decode cX7_layOrder 16 = .ok (.aload_n 0, 1) := by decide +kernel
theorem dX7_layOrder_17 : decode cX7_layOrder 17 = .ok (.getfield 100, 3) := by decide +kernel
theorem dX7_layOrder_20 : decode cX7_layOrder 20 = .ok (.iconst 1, 1) := by decide +kernel
theorem dX7_layOrder_21 : decode cX7_layOrder 21 = .ok (.isub, 1) := by decide +kernel
theorem dX7_layOrder_22 : decode cX7_layOrder 22 = .ok (.iload 4, 2) := by decide +kernel
theorem dX7_layOrder_24 : decode cX7_layOrder 24 = .ok (.isub, 1) := by decide +kernel
theorem dX7_layOrder_25 : decode cX7_layOrder 25 = .ok (.invokestatic 262, 3) := by decide +kernel
theorem dX7_layOrder_28 : decode cX7_layOrder 28 = .ok (.istore 5, 2) := by decide +kernel
theorem dX7_layOrder_30 : decode cX7_layOrder 30 = .ok (.iload_n 2, 1) := by decide +kernel
theorem dX7_layOrder_31 : decode cX7_layOrder 31 = .ok (.iload 5, 2) := by decide +kernel
theorem dX7_layOrder_33 : decode cX7_layOrder 33 = .ok (.idiv, 1) := by decide +kernel
theorem dX7_layOrder_34 : decode cX7_layOrder 34 = .ok (.istore 6, 2) := by decide +kernel
theorem dX7_layOrder_36 : decode cX7_layOrder 36 = .ok (.iload_n 2, 1) := by decide +kernel
theorem dX7_layOrder_37 : decode cX7_layOrder 37 = .ok (.iload 5, 2) := by decide +kernel
theorem dX7_layOrder_39 : decode cX7_layOrder 39 = .ok (.irem, 1) := by decide +kernel
theorem dX7_layOrder_40 : decode cX7_layOrder 40 = .ok (.istore_n 2, 1) := by decide +kernel
theorem dX7_layOrder_41 : decode cX7_layOrder 41 = .ok (.iconst 0, 1) := by decide +kernel
theorem dX7_layOrder_42 : decode cX7_layOrder 42 = .ok (.istore 7, 2) := by decide +kernel
theorem dX7_layOrder_44 : decode cX7_layOrder 44 = .ok (.iload_n 3, 1) := by decide +kernel
theorem dX7_layOrder_45 : decode cX7_layOrder 45 = .ok (.iload 7, 2) := by decide +kernel
theorem dX7_layOrder_47 : decode cX7_layOrder 47 = .ok (.invokestatic 265, 3) := by decide +kernel
theorem dX7_layOrder_50 : decode cX7_layOrder 50 = .ok (.ifCond .ne 8, 3) := by decide +kernel
theorem dX7_layOrder_53 : decode cX7_layOrder 53 = .ok (.iload 6, 2) := by decide +kernel
theorem dX7_layOrder_55 : decode cX7_layOrder 55 = .ok (.ifCond .le 28, 3) := by decide +kernel
theorem dX7_layOrder_58 : decode cX7_layOrder 58 = .ok (.iload 6, 2) := by decide +kernel
theorem dX7_layOrder_60 : decode cX7_layOrder 60 = .ok (.iload_n 3, 1) := by decide +kernel
theorem dX7_layOrder_61 : decode cX7_layOrder 61 = .ok (.iload 7, 2) := by decide +kernel
theorem dX7_layOrder_63 : decode cX7_layOrder 63 = .ok (.invokestatic 265, 3) := by decide +kernel
theorem dX7_layOrder_66 : decode cX7_layOrder 66 = .ok (.ifCond .eq 7, 3) := by decide +kernel
theorem dX7_layOrder_69 : decode cX7_layOrder 69 = .ok (.iconst 0, 1) := by decide +kernel
theorem dX7_layOrder_70 : decode cX7_layOrder 70 = .ok (.goto 4, 3) := by decide +kernel
theorem dX7_layOrder_73 : decode cX7_layOrder 73 = .ok (.iconst 1, 1) := by decide +kernel
theorem dX7_layOrder_74 : decode cX7_layOrder 74 = .ok (.isub, 1) := by decide +kernel
theorem dX7_layOrder_75 : decode cX7_layOrder 75 = .ok (.istore 6, 2) := by decide +kernel
theorem dX7_layOrder_77 : decode cX7_layOrder 77 = .ok (.iinc 7 1, 3) := by decide +kernel
theorem dX7_layOrder_80 : decode cX7_layOrder 80 = .ok (.goto (-36), 3) := by decide +kernel
theorem dX7_layOrder_83 : decode cX7_layOrder 83 = .ok (.aload_n 0, 1) := by decide +kernel
theorem dX7_layOrder_84 : decode cX7_layOrder 84 = .ok (.getfield 31, 3) := by decide +kernel
theorem dX7_layOrder_87 : decode cX7_layOrder 87 = .ok (.iload 4, 2) := by decide +kernel
theorem dX7_layOrder_89 : decode cX7_layOrder 89 = .ok (.aload_n 0, 1) := by decide +kernel
theorem dX7_layOrder_90 : decode cX7_layOrder 90 = .ok (.getfield 64, 3) := by decide +kernel
theorem dX7_layOrder_93 : decode cX7_layOrder 93 = .ok (.iload 7, 2) := by decide +kernel
theorem dX7_layOrder_95 : decode cX7_layOrder 95 = .ok (.iaload, 1) := by decide +kernel
theorem dX7_layOrder_96 : decode cX7_layOrder 96 = .ok (.iastore, 1) := by decide +kernel
theorem dX7_layOrder_97 : decode cX7_layOrder 97 = .ok (.iload_n 3, 1) := by decide +kernel
theorem dX7_layOrder_98 : decode cX7_layOrder 98 = .ok (.iconst 1, 1) := by decide +kernel
theorem dX7_layOrder_99 : decode cX7_layOrder 99 = .ok (.iload 7, 2) := by decide +kernel
theorem dX7_layOrder_101 : decode cX7_layOrder 101 = .ok (.ishl, 1) := by decide +kernel
theorem dX7_layOrder_102 : decode cX7_layOrder 102 = .ok (.ior, 1) := by decide +kernel
theorem dX7_layOrder_103 : decode cX7_layOrder 103 = .ok (.istore_n 3, 1) := by decide +kernel
theorem dX7_layOrder_104 : decode cX7_layOrder 104 = .ok (.iinc 4 1, 3) := by decide +kernel
theorem dX7_layOrder_107 : decode cX7_layOrder 107 = .ok (.goto (-100), 3) := by decide +kernel
theorem dX7_layOrder_110 : decode cX7_layOrder 110 = .ok (.return_, 1) := by decide +kernel
theorem dX7_lateNow_0 : decode cX7_lateNow 0 = .ok (.aload_n 0, 1) := by decide +kernel
theorem dX7_lateNow_1 : decode cX7_lateNow 1 = .ok (.invokevirtual 243, 3) := by decide +kernel
theorem dX7_lateNow_4 : decode cX7_lateNow 4 = .ok (.aload_n 0, 1) := by decide +kernel
theorem dX7_lateNow_5 : decode cX7_lateNow 5 = .ok (.invokevirtual 247, 3) := by decide +kernel
theorem dX7_lateNow_8 : decode cX7_lateNow 8 = .ok (.ireturn, 1) := by decide +kernel
theorem dX7_best_0 : decode cX7_best 0 = .ok (.aload_n 0, 1) := by decide +kernel
theorem dX7_best_1 : decode cX7_best 1 = .ok (.iconst 0, 1) := by decide +kernel
theorem dX7_best_2 : decode cX7_best 2 = .ok (.putfield 76, 3) := by decide +kernel
theorem dX7_best_5 : decode cX7_best 5 = .ok (.iload_n 1, 1) := by decide +kernel
theorem dX7_best_6 : decode cX7_best 6 = .ok (.iconst (-1), 1) := by decide +kernel
theorem dX7_best_7 : decode cX7_best 7 = .ok (.if_icmp .ge 10, 3) := by decide +kernel
theorem dX7_best_10 : decode cX7_best 10 = .ok (.aload_n 0, 1) := by decide +kernel
theorem dX7_best_11 : decode cX7_best 11 = .ok (.bipush (-4), 2) := by decide +kernel
theorem dX7_best_13 : decode cX7_best 13 = .ok (.invokevirtual 138, 3) := by decide +kernel
theorem dX7_best_16 : decode cX7_best 16 = .ok (.ireturn, 1) := by decide +kernel
theorem dX7_best_17 : decode cX7_best 17 = .ok (.aload_n 0, 1) := by decide +kernel
theorem dX7_best_18 : decode cX7_best 18 = .ok (.invokevirtual 268, 3) := by decide +kernel
theorem dX7_best_21 : decode cX7_best 21 = .ok (.aload_n 0, 1) := by decide +kernel
theorem dX7_best_22 : decode cX7_best 22 = .ok (.getfield 100, 3) := by decide +kernel
theorem dX7_best_25 : decode cX7_best 25 = .ok (.invokestatic 262, 3) := by decide +kernel
theorem dX7_best_28 : decode cX7_best 28 = .ok (.istore_n 2, 1) := by decide +kernel
theorem dX7_best_29 : decode cX7_best 29 = .ok (.aload_n 0, 1) := by decide +kernel
theorem dX7_best_30 : decode cX7_best 30 = .ok (.getfield 100, 3) := by decide +kernel
theorem dX7_best_33 : decode cX7_best 33 = .ok (.istore_n 3, 1) := by decide +kernel
theorem dX7_best_34 : decode cX7_best 34 = .ok (.iconst 0, 1) := by decide +kernel
theorem dX7_best_35 : decode cX7_best 35 = .ok (.istore 4, 2) := by decide +kernel
theorem dX7_best_37 : decode cX7_best 37 = .ok (.iconst (-1), 1) := by decide +kernel
theorem dX7_best_38 : decode cX7_best 38 = .ok (.istore 5, 2) := by decide +kernel
theorem dX7_best_40 : decode cX7_best 40 = .ok (.aload_n 0, 1) := by decide +kernel
theorem dX7_best_41 : decode cX7_best 41 = .ok (.invokevirtual 194, 3) := by decide +kernel
theorem dX7_best_44 : decode cX7_best 44 = .ok (.iconst 0, 1) := by decide +kernel
theorem dX7_best_45 : decode cX7_best 45 = .ok (.istore 6, 2) := by decide +kernel
theorem dX7_best_47 : decode cX7_best 47 = .ok (.iload 6, 2) := by decide +kernel
theorem dX7_best_49 : decode cX7_best 49 = .ok (.iload_n 2, 1) := by decide +kernel
theorem dX7_best_50 : decode cX7_best 50 = .ok (.if_icmp .ge 67, 3) := by decide +kernel
theorem dX7_best_53 : decode cX7_best 53 = .ok (.aload_n 0, 1) := by decide +kernel
theorem dX7_best_54 : decode cX7_best 54 = .ok (.iload 6, 2) := by decide +kernel
theorem dX7_best_56 : decode cX7_best 56 = .ok (.invokevirtual 271, 3) := by decide +kernel
theorem dX7_best_59 : decode cX7_best 59 = .ok (.aload_n 0, 1) := by decide +kernel
theorem dX7_best_60 : decode cX7_best 60 = .ok (.invokevirtual 274, 3) := by decide +kernel
theorem dX7_best_63 : decode cX7_best 63 = .ok (.istore 7, 2) := by decide +kernel
theorem dX7_best_65 : decode cX7_best 65 = .ok (.aload_n 0, 1) := by decide +kernel
theorem dX7_best_66 : decode cX7_best 66 = .ok (.invokevirtual 200, 3) := by decide +kernel
theorem dX7_best_69 : decode cX7_best 69 = .ok (.iload 5, 2) := by decide +kernel
theorem dX7_best_71 : decode cX7_best 71 = .ok (.ifCond .lt 10, 3) := by decide +kernel
theorem dX7_best_74 : decode cX7_best 74 = .ok (.iload 7, 2) := by decide +kernel
theorem dX7_best_76 : decode cX7_best 76 = .ok (.iload 5, 2) := by decide +kernel
theorem dX7_best_78 : decode cX7_best 78 = .ok (.if_icmp .ge 8, 3) := by decide +kernel
theorem dX7_best_81 : decode cX7_best 81 = .ok (.iload 6, 2) := by decide +kernel
theorem dX7_best_83 : decode cX7_best 83 = .ok (.goto 5, 3) := by decide +kernel
theorem dX7_best_86 : decode cX7_best 86 = .ok (.iload 4, 2) := by decide +kernel
theorem dX7_best_88 : decode cX7_best 88 = .ok (.istore 4, 2) := by decide +kernel
theorem dX7_best_90 : decode cX7_best 90 = .ok (.iload 5, 2) := by decide +kernel
theorem dX7_best_92 : decode cX7_best 92 = .ok (.ifCond .lt 10, 3) := by decide +kernel
theorem dX7_best_95 : decode cX7_best 95 = .ok (.iload 7, 2) := by decide +kernel
theorem dX7_best_97 : decode cX7_best 97 = .ok (.iload 5, 2) := by decide +kernel
theorem dX7_best_99 : decode cX7_best 99 = .ok (.if_icmp .ge 8, 3) := by decide +kernel
theorem dX7_best_102 : decode cX7_best 102 = .ok (.iload 7, 2) := by decide +kernel
theorem dX7_best_104 : decode cX7_best 104 = .ok (.goto 5, 3) := by decide +kernel
theorem dX7_best_107 : decode cX7_best 107 = .ok (.iload 5, 2) := by decide +kernel
theorem dX7_best_109 : decode cX7_best 109 = .ok (.istore 5, 2) := by decide +kernel
theorem dX7_best_111 : decode cX7_best 111 = .ok (.iinc 6 1, 3) := by decide +kernel
theorem dX7_best_114 : decode cX7_best 114 = .ok (.goto (-67), 3) := by decide +kernel
theorem dX7_best_117 : decode cX7_best 117 = .ok (.aload_n 0, 1) := by decide +kernel
theorem dX7_best_118 : decode cX7_best 118 = .ok (.iload 4, 2) := by decide +kernel
theorem dX7_best_120 : decode cX7_best 120 = .ok (.invokevirtual 271, 3) := by decide +kernel
theorem dX7_best_123 : decode cX7_best 123 = .ok (.iload_n 1, 1) := by decide +kernel
theorem dX7_best_124 : decode cX7_best 124 = .ok (.ifCond .ge 8, 3) := by decide +kernel
theorem dX7_best_127 : decode cX7_best 127 = .ok (.iload 5, 2) := by decide +kernel
theorem dX7_best_129 : decode cX7_best 129 = .ok (.goto 19, 3) := by decide +kernel
theorem dX7_best_132 : decode cX7_best 132 = .ok (.iload_n 1, 1) := by decide +kernel
theorem dX7_best_133 : decode cX7_best 133 = .ok (.iload_n 3, 1) := by decide +kernel
theorem dX7_best_134 : decode cX7_best 134 = .ok (.if_icmp .ge 12, 3) := by decide +kernel
theorem dX7_best_137 : decode cX7_best 137 = .ok (.aload_n 0, 1) := by decide +kernel
theorem dX7_best_138 : decode cX7_best 138 = .ok (.getfield 31, 3) := by decide +kernel
theorem dX7_best_141 : decode cX7_best 141 = .ok (.iload_n 1, 1) := by decide +kernel
theorem dX7_best_142 : decode cX7_best 142 = .ok (.iaload, 1) := by decide +kernel
theorem dX7_best_143 : decode cX7_best 143 = .ok (.goto 5, 3) := by decide +kernel
theorem dX7_best_146 : decode cX7_best 146 = .ok (.bipush (-9), 2) := by decide +kernel
theorem dX7_best_148 : decode cX7_best 148 = .ok (.istore 6, 2) := by decide +kernel
theorem dX7_best_150 : decode cX7_best 150 = .ok (.aload_n 0, 1) := by decide +kernel
theorem dX7_best_151 : decode cX7_best 151 = .ok (.invokevirtual 200, 3) := by decide +kernel
theorem dX7_best_154 : decode cX7_best 154 = .ok (.iload 6, 2) := by decide +kernel
theorem dX7_best_156 : decode cX7_best 156 = .ok (.ireturn, 1) := by decide +kernel
theorem dX7_pull_0 : decode cX7_pull 0 = .ok (.aload_n 0, 1) := by decide +kernel
theorem dX7_pull_1 : decode cX7_pull 1 = .ok (.iconst 0, 1) := by decide +kernel
theorem dX7_pull_2 : decode cX7_pull 2 = .ok (.putfield 76, 3) := by decide +kernel
theorem dX7_pull_5 : decode cX7_pull 5 = .ok (.bipush (-9), 2) := by decide +kernel
theorem dX7_pull_7 : decode cX7_pull 7 = .ok (.istore_n 1, 1) := by decide +kernel
theorem dX7_pull_8 : decode cX7_pull 8 = .ok (.aload_n 0, 1) := by decide +kernel
theorem dX7_pull_9 : decode cX7_pull 9 = .ok (.invokevirtual 194, 3) := by decide +kernel
theorem dX7_pull_12 : decode cX7_pull 12 = .ok (.aload_n 0, 1) := by decide +kernel
theorem dX7_pull_13 : decode cX7_pull 13 = .ok (.invokevirtual 274, 3) := by decide +kernel
theorem dX7_pull_16 : decode cX7_pull 16 = .ok (.istore_n 2, 1) := by decide +kernel
theorem dX7_pull_17 : decode cX7_pull 17 = .ok (.aload_n 0, 1) := by decide +kernel
theorem dX7_pull_18 : decode cX7_pull 18 = .ok (.invokevirtual 200, 3) := by decide +kernel
theorem dX7_pull_21 : decode cX7_pull 21 = .ok (.iconst 0, 1) := by decide +kernel
theorem dX7_pull_22 : decode cX7_pull 22 = .ok (.istore_n 3, 1) := by decide +kernel
theorem dX7_pull_23 : decode cX7_pull 23 = .ok (.iload_n 3, 1) := by decide +kernel
theorem dX7_pull_24 : decode cX7_pull 24 = .ok (.aload_n 0, 1) := by decide +kernel
theorem dX7_pull_25 : decode cX7_pull 25 = .ok (.getfield 83, 3) := by decide +kernel
theorem dX7_pull_28 : decode cX7_pull 28 = .ok (.if_icmp .ge 52, 3) := by decide +kernel
theorem dX7_pull_31 : decode cX7_pull 31 = .ok (.aload_n 0, 1) := by decide +kernel
theorem dX7_pull_32 : decode cX7_pull 32 = .ok (.getfield 19, 3) := by decide +kernel
theorem dX7_pull_35 : decode cX7_pull 35 = .ok (.iload_n 3, 1) := by decide +kernel
theorem dX7_pull_36 : decode cX7_pull 36 = .ok (.iaload, 1) := by decide +kernel
theorem dX7_pull_37 : decode cX7_pull 37 = .ok (.ifCond .ne 37, 3) := by decide +kernel
theorem dX7_pull_40 : decode cX7_pull 40 = .ok (.aload_n 0, 1) := by decide +kernel
theorem dX7_pull_41 : decode cX7_pull 41 = .ok (.iload_n 3, 1) := by decide +kernel
theorem dX7_pull_42 : decode cX7_pull 42 = .ok (.invokevirtual 180, 3) := by decide +kernel
theorem dX7_pull_45 : decode cX7_pull 45 = .ok (.aload_n 0, 1) := by decide +kernel
theorem dX7_pull_46 : decode cX7_pull 46 = .ok (.invokevirtual 274, 3) := by decide +kernel
theorem dX7_pull_49 : decode cX7_pull 49 = .ok (.istore 4, 2) := by decide +kernel
theorem dX7_pull_51 : decode cX7_pull 51 = .ok (.aload_n 0, 1) := by decide +kernel
theorem dX7_pull_52 : decode cX7_pull 52 = .ok (.invokevirtual 200, 3) := by decide +kernel
theorem dX7_pull_55 : decode cX7_pull 55 = .ok (.iload 4, 2) := by decide +kernel
theorem dX7_pull_57 : decode cX7_pull 57 = .ok (.iload_n 2, 1) := by decide +kernel
theorem dX7_pull_58 : decode cX7_pull 58 = .ok (.if_icmp .ge 7, 3) := by decide +kernel
theorem dX7_pull_61 : decode cX7_pull 61 = .ok (.iload_n 3, 1) := by decide +kernel
theorem dX7_pull_62 : decode cX7_pull 62 = .ok (.goto 4, 3) := by decide +kernel
theorem dX7_pull_65 : decode cX7_pull 65 = .ok (.iload_n 1, 1) := by decide +kernel
theorem dX7_pull_66 : decode cX7_pull 66 = .ok (.istore_n 1, 1) := by decide +kernel
theorem dX7_pull_67 : decode cX7_pull 67 = .ok (.iload_n 2, 1) := by decide +kernel
theorem dX7_pull_68 : decode cX7_pull 68 = .ok (.iload 4, 2) := by decide +kernel
theorem dX7_pull_70 : decode cX7_pull 70 = .ok (.invokestatic 97, 3) := by decide +kernel
theorem dX7_pull_73 : decode cX7_pull 73 = .ok (.istore_n 2, 1) := by decide +kernel
theorem dX7_pull_74 : decode cX7_pull 74 = .ok (.iinc 3 1, 3) := by decide +kernel
theorem dX7_pull_77 : decode cX7_pull 77 = .ok (.goto (-54), 3) := by decide +kernel
theorem dX7_pull_80 : decode cX7_pull 80 = .ok (.iload_n 1, 1) := by decide +kernel
theorem dX7_pull_81 : decode cX7_pull 81 = .ok (.ireturn, 1) := by decide +kernel
theorem dX7_bestSlack_0 : decode cX7_bestSlack 0 = .ok (.aload_n 0, 1) := by decide +kernel
theorem dX7_bestSlack_1 : decode cX7_bestSlack 1 = .ok (.iconst 0, 1) := by decide +kernel
theorem dX7_bestSlack_2 : decode cX7_bestSlack 2 = .ok (.putfield 76, 3) := by decide +kernel
theorem dX7_bestSlack_5 : decode cX7_bestSlack 5 = .ok (.iload_n 1, 1) := by decide +kernel
theorem dX7_bestSlack_6 : decode cX7_bestSlack 6 = .ok (.i2l, 1) := by decide +kernel
theorem dX7_bestSlack_7 : decode cX7_bestSlack 7 = .ok (.lconst 0, 1) := by decide +kernel
theorem dX7_bestSlack_8 : decode cX7_bestSlack 8 = .ok (.lconst 1, 1) := by decide +kernel
theorem dX7_bestSlack_9 : decode cX7_bestSlack 9 = .ok (.invokestatic 86, 3) := by decide +kernel
theorem dX7_bestSlack_12 : decode cX7_bestSlack 12 = .ok (.ifCond .ne 10, 3) := by decide +kernel
theorem dX7_bestSlack_15 : decode cX7_bestSlack 15 = .ok (.aload_n 0, 1) := by decide +kernel
theorem dX7_bestSlack_16 : decode cX7_bestSlack 16 = .ok (.bipush (-2), 2) := by decide +kernel
theorem dX7_bestSlack_18 : decode cX7_bestSlack 18 = .ok (.invokevirtual 138, 3) := by decide +kernel
theorem dX7_bestSlack_21 : decode cX7_bestSlack 21 = .ok (.ireturn, 1) := by decide +kernel
theorem dX7_bestSlack_22 : decode cX7_bestSlack 22 = .ok (.iconst 0, 1) := by decide +kernel
theorem dX7_bestSlack_23 : decode cX7_bestSlack 23 = .ok (.istore_n 2, 1) := by decide +kernel
theorem dX7_bestSlack_24 : decode cX7_bestSlack 24 = .ok (.iconst (-1), 1) := by decide +kernel
theorem dX7_bestSlack_25 : decode cX7_bestSlack 25 = .ok (.istore_n 3, 1) := by decide +kernel
theorem dX7_bestSlack_26 : decode cX7_bestSlack 26 = .ok (.aload_n 0, 1) := by decide +kernel
theorem dX7_bestSlack_27 : decode cX7_bestSlack 27 = .ok (.invokevirtual 194, 3) := by decide +kernel
theorem dX7_bestSlack_30 : decode cX7_bestSlack 30 = .ok (.iconst 0, 1) := by decide +kernel
theorem dX7_bestSlack_31 : decode cX7_bestSlack 31 = .ok (.istore 4, 2) := by decide +kernel
theorem dX7_bestSlack_33 : decode cX7_bestSlack 33 = .ok (.iload 4, 2) := by decide +kernel
theorem dX7_bestSlack_35 : decode cX7_bestSlack 35 = .ok (.bipush 9, 2) := by decide +kernel
theorem dX7_bestSlack_37 : decode cX7_bestSlack 37 = .ok (.if_icmp .gt 66, 3) := by decide +kernel
theorem dX7_bestSlack_40 : decode cX7_bestSlack 40 = .ok (.aload_n 0, 1) := by decide +kernel
theorem dX7_bestSlack_41 : decode cX7_bestSlack 41 = .ok (.iload 4, 2) := by decide +kernel
theorem dX7_bestSlack_43 : decode cX7_bestSlack 43 = .ok (.putfield 114, 3) := by decide +kernel
theorem dX7_bestSlack_46 : decode cX7_bestSlack 46 = .ok (.aload_n 0, 1) := by decide +kernel
theorem dX7_bestSlack_47 : decode cX7_bestSlack 47 = .ok (.invokevirtual 274, 3) := by decide +kernel
theorem dX7_bestSlack_50 : decode cX7_bestSlack 50 = .ok (.iconst 5, 1) := by decide +kernel
theorem dX7_bestSlack_51 : decode cX7_bestSlack 51 = .ok (.aload_n 0, 1) := by decide +kernel
theorem dX7_bestSlack_52 : decode cX7_bestSlack 52 = .ok (.invokevirtual 253, 3) := by decide +kernel
theorem dX7_bestSlack_55 : decode cX7_bestSlack 55 = .ok (.imul, 1) := by decide +kernel
theorem dX7_bestSlack_56 : decode cX7_bestSlack 56 = .ok (.iadd, 1) := by decide +kernel
theorem dX7_bestSlack_57 : decode cX7_bestSlack 57 = .ok (.istore 5, 2) := by decide +kernel
theorem dX7_bestSlack_59 : decode cX7_bestSlack 59 = .ok (.aload_n 0, 1) := by decide +kernel
theorem dX7_bestSlack_60 : decode cX7_bestSlack 60 = .ok (.invokevirtual 200, 3) := by decide +kernel
theorem dX7_bestSlack_63 : decode cX7_bestSlack 63 = .ok (.iload_n 3, 1) := by decide +kernel
theorem dX7_bestSlack_64 : decode cX7_bestSlack 64 = .ok (.ifCond .lt 9, 3) := by decide +kernel
theorem dX7_bestSlack_67 : decode cX7_bestSlack 67 = .ok (.iload 5, 2) := by decide +kernel
theorem dX7_bestSlack_69 : decode cX7_bestSlack 69 = .ok (.iload_n 3, 1) := by decide +kernel
theorem dX7_bestSlack_70 : decode cX7_bestSlack 70 = .ok (.if_icmp .ge 8, 3) := by decide +kernel
theorem dX7_bestSlack_73 : decode cX7_bestSlack 73 = .ok (.iload 4, 2) := by decide +kernel
theorem dX7_bestSlack_75 : decode cX7_bestSlack 75 = .ok (.goto 4, 3) := by decide +kernel
theorem dX7_bestSlack_78 : decode cX7_bestSlack 78 = .ok (.iload_n 2, 1) := by decide +kernel
theorem dX7_bestSlack_79 : decode cX7_bestSlack 79 = .ok (.istore_n 2, 1) := by decide +kernel
theorem dX7_bestSlack_80 : decode cX7_bestSlack 80 = .ok (.iload_n 3, 1) := by decide +kernel
theorem dX7_bestSlack_81 : decode cX7_bestSlack 81 = .ok (.ifCond .lt 9, 3) := by decide +kernel
theorem dX7_bestSlack_84 : decode cX7_bestSlack 84 = .ok (.iload 5, 2) := by decide +kernel
theorem dX7_bestSlack_86 : decode cX7_bestSlack 86 = .ok (.iload_n 3, 1) := by decide +kernel
theorem dX7_bestSlack_87 : decode cX7_bestSlack 87 = .ok (.if_icmp .ge 8, 3) := by decide +kernel
theorem dX7_bestSlack_90 : decode cX7_bestSlack 90 = .ok (.iload 5, 2) := by decide +kernel
theorem dX7_bestSlack_92 : decode cX7_bestSlack 92 = .ok (.goto 4, 3) := by decide +kernel
theorem dX7_bestSlack_95 : decode cX7_bestSlack 95 = .ok (.iload_n 3, 1) := by decide +kernel
theorem dX7_bestSlack_96 : decode cX7_bestSlack 96 = .ok (.istore_n 3, 1) := by decide +kernel
theorem dX7_bestSlack_97 : decode cX7_bestSlack 97 = .ok (.iinc 4 1, 3) := by decide +kernel
theorem dX7_bestSlack_100 : decode cX7_bestSlack 100 = .ok (.goto (-67), 3) := by decide +kernel
theorem dX7_bestSlack_103 : decode cX7_bestSlack 103 = .ok (.iload_n 1, 1) := by decide +kernel
theorem dX7_bestSlack_104 : decode cX7_bestSlack 104 = .ok (.ifCond .ne 7, 3) := by decide +kernel
theorem dX7_bestSlack_107 : decode cX7_bestSlack 107 = .ok (.iload_n 2, 1) := by decide +kernel
theorem dX7_bestSlack_108 : decode cX7_bestSlack 108 = .ok (.goto 4, 3) := by decide +kernel
theorem dX7_bestSlack_111 : decode cX7_bestSlack 111 = .ok (.iload_n 3, 1) := by decide +kernel
theorem dX7_bestSlack_112 : decode cX7_bestSlack 112 = .ok (.ireturn, 1) := by decide +kernel
theorem dX7_rest_0 : decode cX7_rest 0 = .ok (.aload_n 0, 1) := by decide +kernel
theorem dX7_rest_1 : decode cX7_rest 1 = .ok (.iconst 0, 1) := by decide +kernel
theorem dX7_rest_2 : decode cX7_rest 2 = .ok (.putfield 76, 3) := by decide +kernel
theorem dX7_rest_5 : decode cX7_rest 5 = .ok (.bipush (-9), 2) := by decide +kernel
theorem dX7_rest_7 : decode cX7_rest 7 = .ok (.istore_n 1, 1) := by decide +kernel
theorem dX7_rest_8 : decode cX7_rest 8 = .ok (.aload_n 0, 1) := by decide +kernel
theorem dX7_rest_9 : decode cX7_rest 9 = .ok (.getfield 100, 3) := by decide +kernel
theorem dX7_rest_12 : decode cX7_rest 12 = .ok (.istore_n 2, 1) := by decide +kernel
theorem dX7_rest_13 : decode cX7_rest 13 = .ok (.aload_n 0, 1) := by decide +kernel
theorem dX7_rest_14 : decode cX7_rest 14 = .ok (.invokevirtual 194, 3) := by decide +kernel
theorem dX7_rest_17 : decode cX7_rest 17 = .ok (.aload_n 0, 1) := by decide +kernel
theorem dX7_rest_18 : decode cX7_rest 18 = .ok (.invokevirtual 274, 3) := by decide +kernel
theorem dX7_rest_21 : decode cX7_rest 21 = .ok (.istore_n 3, 1) := by decide +kernel
theorem dX7_rest_22 : decode cX7_rest 22 = .ok (.aload_n 0, 1) := by decide +kernel
theorem dX7_rest_23 : decode cX7_rest 23 = .ok (.invokevirtual 200, 3) := by decide +kernel
theorem dX7_rest_26 : decode cX7_rest 26 = .ok (.iconst 0, 1) := by decide +kernel
theorem dX7_rest_27 : decode cX7_rest 27 = .ok (.istore 4, 2) := by decide +kernel
theorem dX7_rest_29 : decode cX7_rest 29 = .ok (.iload 4, 2) := by decide +kernel
theorem dX7_rest_31 : decode cX7_rest 31 = .ok (.iload_n 2, 1) := by decide +kernel
theorem dX7_rest_32 : decode cX7_rest 32 = .ok (.if_icmp .gt 72, 3) := by decide +kernel
theorem dX7_rest_35 : decode cX7_rest 35 = .ok (.iconst 0, 1) := by decide +kernel
theorem dX7_rest_36 : decode cX7_rest 36 = .ok (.istore 5, 2) := by decide +kernel
theorem dX7_rest_38 : decode cX7_rest 38 = .ok (.iload 5, 2) := by decide +kernel
theorem dX7_rest_40 : decode cX7_rest 40 = .ok (.iload_n 2, 1) := by decide +kernel
theorem dX7_rest_41 : decode cX7_rest 41 = .ok (.if_icmp .ge 27, 3) := by decide +kernel
theorem dX7_rest_44 : decode cX7_rest 44 = .ok (.iload 5, 2) := by decide +kernel
theorem dX7_rest_46 : decode cX7_rest 46 = .ok (.iload 4, 2) := by decide +kernel
theorem dX7_rest_48 : decode cX7_rest 48 = .ok (.if_icmp .ne 9, 3) := by decide +kernel
theorem dX7_rest_51 : decode cX7_rest 51 = .ok (.aload_n 0, 1) := by decide +kernel
theorem dX7_rest_52 : decode cX7_rest 52 = .ok (.bipush 10, 2) := by decide +kernel
theorem dX7_rest_54 : decode cX7_rest 54 = .ok (.invokevirtual 188, 3) := by decide +kernel
theorem dX7_rest_57 : decode cX7_rest 57 = .ok (.aload_n 0, 1) := by decide +kernel
theorem dX7_rest_58 : decode cX7_rest 58 = .ok (.iconst 0, 1) := by decide +kernel
theorem dX7_rest_59 : decode cX7_rest 59 = .ok (.invokevirtual 117, 3) := by decide +kernel
theorem dX7_rest_62 : decode cX7_rest 62 = .ok (.iinc 5 1, 3) := by decide +kernel
theorem dX7_rest_65 : decode cX7_rest 65 = .ok (.goto (-27), 3) := by decide +kernel
theorem dX7_rest_68 : decode cX7_rest 68 = .ok (.aload_n 0, 1) := by decide +kernel
theorem dX7_rest_69 : decode cX7_rest 69 = .ok (.invokevirtual 247, 3) := by decide +kernel
theorem dX7_rest_72 : decode cX7_rest 72 = .ok (.istore 5, 2) := by decide +kernel
theorem dX7_rest_74 : decode cX7_rest 74 = .ok (.aload_n 0, 1) := by decide +kernel
theorem dX7_rest_75 : decode cX7_rest 75 = .ok (.invokevirtual 200, 3) := by decide +kernel
theorem dX7_rest_78 : decode cX7_rest 78 = .ok (.iload 5, 2) := by decide +kernel
theorem dX7_rest_80 : decode cX7_rest 80 = .ok (.iload_n 3, 1) := by decide +kernel
theorem dX7_rest_81 : decode cX7_rest 81 = .ok (.if_icmp .ge 8, 3) := by decide +kernel
theorem dX7_rest_84 : decode cX7_rest 84 = .ok (.iload 4, 2) := by decide +kernel
theorem dX7_rest_86 : decode cX7_rest 86 = .ok (.goto 4, 3) := by decide +kernel
theorem dX7_rest_89 : decode cX7_rest 89 = .ok (.iload_n 1, 1) := by decide +kernel
theorem dX7_rest_90 : decode cX7_rest 90 = .ok (.istore_n 1, 1) := by decide +kernel
theorem dX7_rest_91 : decode cX7_rest 91 = .ok (.iload_n 3, 1) := by decide +kernel
theorem dX7_rest_92 : decode cX7_rest 92 = .ok (.iload 5, 2) := by decide +kernel
theorem dX7_rest_94 : decode cX7_rest 94 = .ok (.invokestatic 97, 3) := by decide +kernel
theorem dX7_rest_97 : decode cX7_rest 97 = .ok (.istore_n 3, 1) := by decide +kernel
theorem dX7_rest_98 : decode cX7_rest 98 = .ok (.iinc 4 1, 3) := by decide +kernel
theorem dX7_rest_101 : decode cX7_rest 101 = .ok (.goto (-72), 3) := by decide +kernel
theorem dX7_rest_104 : decode cX7_rest 104 = .ok (.iload_n 1, 1) := by decide +kernel
theorem dX7_rest_105 : decode cX7_rest 105 = .ok (.ireturn, 1) := by decide +kernel
theorem dX7_saved_0 : decode cX7_saved 0 = .ok (.aload_n 0, 1) := by decide +kernel
theorem dX7_saved_1 : decode cX7_saved 1 = .ok (.iconst 0, 1) := by decide +kernel
theorem dX7_saved_2 : decode cX7_saved 2 = .ok (.putfield 76, 3) := by decide +kernel
theorem dX7_saved_5 : decode cX7_saved 5 = .ok (.aload_n 0, 1) := by decide +kernel
theorem dX7_saved_6 : decode cX7_saved 6 = .ok (.getfield 83, 3) := by decide +kernel
theorem dX7_saved_9 : decode cX7_saved 9 = .ok (.ifCond .ne 13, 3) := by decide +kernel
theorem dX7_saved_12 : decode cX7_saved 12 = .ok (.ldc 246, 2) := by decide +kernel
theorem dX7_saved_14 : decode cX7_saved 14 = .ok (.aload_n 0, 1) := by decide +kernel
theorem dX7_saved_15 : decode cX7_saved 15 = .ok (.bipush (-3), 2) := by decide +kernel
theorem dX7_saved_17 : decode cX7_saved 17 = .ok (.invokevirtual 138, 3) := by decide +kernel
theorem dX7_saved_20 : decode cX7_saved 20 = .ok (.isub, 1) := by decide +kernel
theorem dX7_saved_21 : decode cX7_saved 21 = .ok (.ireturn, 1) := by decide +kernel
theorem dX7_saved_22 : decode cX7_saved 22 = .ok (.aload_n 0, 1) := by decide +kernel
theorem dX7_saved_23 : decode cX7_saved 23 = .ok (.getfield 80, 3) := by decide +kernel
theorem dX7_saved_26 : decode cX7_saved 26 = .ok (.iconst 2, 1) := by decide +kernel
theorem dX7_saved_27 : decode cX7_saved 27 = .ok (.if_icmp .ne 5, 3) := by decide +kernel
theorem dX7_saved_30 : decode cX7_saved 30 = .ok (.iconst 0, 1) := by decide +kernel
theorem dX7_saved_31 : decode cX7_saved 31 = .ok (.ireturn, 1) := by decide +kernel
theorem dX7_saved_32 : decode cX7_saved 32 = .ok (.aload_n 0, 1) := by decide +kernel
theorem dX7_saved_33 : decode cX7_saved 33 = .ok (.invokevirtual 194, 3) := by decide +kernel
theorem dX7_saved_36 : decode cX7_saved 36 = .ok (.aload_n 0, 1) := by decide +kernel
theorem dX7_saved_37 : decode cX7_saved 37 = .ok (.invokevirtual 274, 3) := by decide +kernel
theorem dX7_saved_40 : decode cX7_saved 40 = .ok (.istore_n 1, 1) := by decide +kernel
theorem dX7_saved_41 : decode cX7_saved 41 = .ok (.aload_n 0, 1) := by decide +kernel
theorem dX7_saved_42 : decode cX7_saved 42 = .ok (.invokevirtual 200, 3) := by decide +kernel
theorem dX7_saved_45 : decode cX7_saved 45 = .ok (.aload_n 0, 1) := by decide +kernel
theorem dX7_saved_46 : decode cX7_saved 46 = .ok (.iconst 2, 1) := by decide +kernel
theorem dX7_saved_47 : decode cX7_saved 47 = .ok (.invokevirtual 174, 3) := by decide +kernel
theorem dX7_saved_50 : decode cX7_saved 50 = .ok (.aload_n 0, 1) := by decide +kernel
theorem dX7_saved_51 : decode cX7_saved 51 = .ok (.invokevirtual 274, 3) := by decide +kernel
theorem dX7_saved_54 : decode cX7_saved 54 = .ok (.istore_n 2, 1) := by decide +kernel
theorem dX7_saved_55 : decode cX7_saved 55 = .ok (.aload_n 0, 1) := by decide +kernel
theorem dX7_saved_56 : decode cX7_saved 56 = .ok (.invokevirtual 200, 3) := by decide +kernel
theorem dX7_saved_59 : decode cX7_saved 59 = .ok (.iload_n 1, 1) := by decide +kernel
theorem dX7_saved_60 : decode cX7_saved 60 = .ok (.iload_n 2, 1) := by decide +kernel
theorem dX7_saved_61 : decode cX7_saved 61 = .ok (.isub, 1) := by decide +kernel
theorem dX7_saved_62 : decode cX7_saved 62 = .ok (.ireturn, 1) := by decide +kernel
theorem dX7_can_0 : decode cX7_can 0 = .ok (.aload_n 0, 1) := by decide +kernel
theorem dX7_can_1 : decode cX7_can 1 = .ok (.iconst 0, 1) := by decide +kernel
theorem dX7_can_2 : decode cX7_can 2 = .ok (.putfield 76, 3) := by decide +kernel
theorem dX7_can_5 : decode cX7_can 5 = .ok (.iconst 0, 1) := by decide +kernel
theorem dX7_can_6 : decode cX7_can 6 = .ok (.istore 4, 2) := by decide +kernel
theorem dX7_can_8 : decode cX7_can 8 = .ok (.iload_n 1, 1) := by decide +kernel
theorem dX7_can_9 : decode cX7_can 9 = .ok (.ifCond .lt 11, 3) := by decide +kernel
theorem dX7_can_12 : decode cX7_can 12 = .ok (.iload_n 2, 1) := by decide +kernel
theorem dX7_can_13 : decode cX7_can 13 = .ok (.ifCond .lt 7, 3) := by decide +kernel
theorem dX7_can_16 : decode cX7_can 16 = .ok (.iload_n 3, 1) := by decide +kernel
theorem dX7_can_17 : decode cX7_can 17 = .ok (.ifCond .ge 10, 3) := by decide +kernel
theorem dX7_can_20 : decode cX7_can 20 = .ok (.bipush (-4), 2) := by decide +kernel
theorem dX7_can_22 : decode cX7_can 22 = .ok (.istore 4, 2) := by decide +kernel
theorem dX7_can_24 : decode cX7_can 24 = .ok (.goto 27, 3) := by decide +kernel
theorem dX7_can_27 : decode cX7_can 27 = .ok (.iload_n 1, 1) := by decide +kernel
theorem dX7_can_28 : decode cX7_can 28 = .ok (.bipush 9, 2) := by decide +kernel
theorem dX7_can_30 : decode cX7_can 30 = .ok (.if_icmp .gt 17, 3) := by decide +kernel
theorem dX7_can_33 : decode cX7_can 33 = .ok (.iload_n 2, 1) := by decide +kernel
theorem dX7_can_34 : decode cX7_can 34 = .ok (.sipush 240, 3) := by decide +kernel
theorem dX7_can_37 : decode cX7_can 37 = .ok (.if_icmp .gt 10, 3) := by decide +kernel
theorem dX7_can_40 : decode cX7_can 40 = .ok (.iload_n 3, 1) := by decide +kernel
theorem dX7_can_41 : decode cX7_can 41 = .ok (.sipush 999, 3) := by decide +kernel
theorem dX7_can_44 : decode cX7_can 44 = .ok (.if_icmp .le 7, 3) := by decide +kernel
theorem dX7_can_47 : decode cX7_can 47 = .ok (.bipush (-6), 2) := by decide +kernel
theorem dX7_can_49 : decode cX7_can 49 = .ok (.istore 4, 2) := by decide +kernel
theorem dX7_can_51 : decode cX7_can 51 = .ok (.iload 4, 2) := by decide +kernel
theorem dX7_can_53 : decode cX7_can 53 = .ok (.ifCond .ge 10, 3) := by decide +kernel
theorem dX7_can_56 : decode cX7_can 56 = .ok (.aload_n 0, 1) := by decide +kernel
theorem dX7_can_57 : decode cX7_can 57 = .ok (.iload 4, 2) := by decide +kernel
theorem dX7_can_59 : decode cX7_can 59 = .ok (.invokevirtual 138, 3) := by decide +kernel
theorem dX7_can_62 : decode cX7_can 62 = .ok (.ireturn, 1) := by decide +kernel
theorem dX7_can_63 : decode cX7_can 63 = .ok (.iconst 0, 1) := by decide +kernel
theorem dX7_can_64 : decode cX7_can 64 = .ok (.istore 5, 2) := by decide +kernel
theorem dX7_can_66 : decode cX7_can 66 = .ok (.aload_n 0, 1) := by decide +kernel
theorem dX7_can_67 : decode cX7_can 67 = .ok (.invokevirtual 194, 3) := by decide +kernel
theorem dX7_can_70 : decode cX7_can 70 = .ok (.iconst 0, 1) := by decide +kernel
theorem dX7_can_71 : decode cX7_can 71 = .ok (.istore 6, 2) := by decide +kernel
theorem dX7_can_73 : decode cX7_can 73 = .ok (.iload 6, 2) := by decide +kernel
theorem dX7_can_75 : decode cX7_can 75 = .ok (.bipush 6, 2) := by decide +kernel
theorem dX7_can_77 : decode cX7_can 77 = .ok (.if_icmp .ge 56, 3) := by decide +kernel
theorem dX7_can_80 : decode cX7_can 80 = .ok (.aload_n 0, 1) := by decide +kernel
theorem dX7_can_81 : decode cX7_can 81 = .ok (.iload 6, 2) := by decide +kernel
theorem dX7_can_83 : decode cX7_can 83 = .ok (.iload_n 1, 1) := by decide +kernel
theorem dX7_can_84 : decode cX7_can 84 = .ok (.iload_n 2, 1) := by decide +kernel
theorem dX7_can_85 : decode cX7_can 85 = .ok (.invokevirtual 170, 3) := by decide +kernel
theorem dX7_can_88 : decode cX7_can 88 = .ok (.ifCond .eq 35, 3) := by decide +kernel
theorem dX7_can_91 : decode cX7_can 91 = .ok (.aload_n 0, 1) := by decide +kernel
theorem dX7_can_92 : decode cX7_can 92 = .ok (.invokevirtual 243, 3) := by decide +kernel
theorem dX7_can_95 : decode cX7_can 95 = .ok (.iload 5, 2) := by decide +kernel
theorem dX7_can_97 : decode cX7_can 97 = .ok (.aload_n 0, 1) := by decide +kernel
theorem dX7_can_98 : decode cX7_can 98 = .ok (.getfield 25, 3) := by decide +kernel
theorem dX7_can_101 : decode cX7_can 101 = .ok (.aload_n 0, 1) := by decide +kernel
theorem dX7_can_102 : decode cX7_can 102 = .ok (.getfield 83, 3) := by decide +kernel
theorem dX7_can_105 : decode cX7_can 105 = .ok (.iconst 1, 1) := by decide +kernel
theorem dX7_can_106 : decode cX7_can 106 = .ok (.isub, 1) := by decide +kernel
theorem dX7_can_107 : decode cX7_can 107 = .ok (.iaload, 1) := by decide +kernel
theorem dX7_can_108 : decode cX7_can 108 = .ok (.iload_n 3, 1) := by decide +kernel
theorem dX7_can_109 : decode cX7_can 109 = .ok (.if_icmp .gt 10, 3) := by decide +kernel
theorem dX7_can_112 : decode cX7_can 112 = .ok (.iconst 1, 1) := by decide +kernel
theorem dX7_can_113 : decode cX7_can 113 = .ok (.iload 6, 2) := by decide +kernel
theorem dX7_can_115 : decode cX7_can 115 = .ok (.ishl, 1) := by decide +kernel
theorem dX7_can_116 : decode cX7_can 116 = .ok (.goto 4, 3) := by decide +kernel
theorem dX7_can_119 : decode cX7_can 119 = .ok (.iconst 0, 1) := by decide +kernel
theorem dX7_can_120 : decode cX7_can 120 = .ok (.ior, 1) := by decide +kernel
theorem dX7_can_121 : decode cX7_can 121 = .ok (.istore 5, 2) := by decide +kernel
theorem dX7_can_123 : decode cX7_can 123 = .ok (.aload_n 0, 1) := by decide +kernel
theorem dX7_can_124 : decode cX7_can 124 = .ok (.invokevirtual 200, 3) := by decide +kernel
theorem dX7_can_127 : decode cX7_can 127 = .ok (.iinc 6 1, 3) := by decide +kernel
theorem dX7_can_130 : decode cX7_can 130 = .ok (.goto (-57), 3) := by decide +kernel
theorem dX7_can_133 : decode cX7_can 133 = .ok (.iload 5, 2) := by decide +kernel
theorem dX7_can_135 : decode cX7_can 135 = .ok (.ireturn, 1) := by decide +kernel
theorem dX7_nextPosing_0 : decode cX7_nextPosing 0 = .ok (.iconst (-1), 1) := by decide +kernel
theorem dX7_nextPosing_1 : decode cX7_nextPosing 1 = .ok (.istore_n 2, 1) := by decide +kernel
theorem dX7_nextPosing_2 : decode cX7_nextPosing 2 = .ok (.iconst 0, 1) := by decide +kernel
theorem dX7_nextPosing_3 : decode cX7_nextPosing 3 = .ok (.istore_n 3, 1) := by decide +kernel
theorem dX7_nextPosing_4 : decode cX7_nextPosing 4 = .ok (.iload_n 3, 1) := by decide +kernel
theorem dX7_nextPosing_5 : decode cX7_nextPosing 5 = .ok (.aload_n 0, 1) := by decide +kernel
theorem dX7_nextPosing_6 : decode cX7_nextPosing 6 = .ok (.getfield 83, 3) := by decide +kernel
theorem dX7_nextPosing_9 : decode cX7_nextPosing 9 = .ok (.if_icmp .ge 62, 3) := by decide +kernel
theorem dX7_nextPosing_12 : decode cX7_nextPosing 12 = .ok (.iload_n 2, 1) := by decide +kernel
theorem dX7_nextPosing_13 : decode cX7_nextPosing 13 = .ok (.ifCond .lt 26, 3) := by decide +kernel
theorem dX7_nextPosing_16 : decode cX7_nextPosing 16 = .ok (.aload_n 0, 1) := by decide +kernel
theorem dX7_nextPosing_17 : decode cX7_nextPosing 17 = .ok (.getfield 25, 3) := by decide +kernel
theorem dX7_nextPosing_20 : decode cX7_nextPosing 20 = .ok (.iload_n 3, 1) := by decide +kernel
theorem dX7_nextPosing_21 : decode cX7_nextPosing 21 = .ok (.iaload, 1) := by decide +kernel
theorem dX7_nextPosing_22 : decode cX7_nextPosing 22 = .ok (.aload_n 0, 1) := by decide +kernel
theorem dX7_nextPosing_23 : decode cX7_nextPosing 23 = .ok (.getfield 25, 3) := by decide +kernel
theorem dX7_nextPosing_26 : decode cX7_nextPosing 26 = .ok (.iload_n 2, 1) := by decide +kernel
theorem dX7_nextPosing_27 : decode cX7_nextPosing 27 = .ok (.ifCond .ge 7, 3) := by decide +kernel
theorem dX7_nextPosing_30 : decode cX7_nextPosing 30 = .ok (.iconst 0, 1) := by decide +kernel
theorem dX7_nextPosing_31 : decode cX7_nextPosing 31 = .ok (.goto 4, 3) := by decide +kernel
theorem dX7_nextPosing_34 : decode cX7_nextPosing 34 = .ok (.iload_n 2, 1) := by decide +kernel
theorem dX7_nextPosing_35 : decode cX7_nextPosing 35 = .ok (.iaload, 1) := by decide +kernel
theorem dX7_nextPosing_36 : decode cX7_nextPosing 36 = .ok (.if_icmp .ge 7, 3) := by decide +kernel
theorem dX7_nextPosing_39 : decode cX7_nextPosing 39 = .ok (.iconst 1, 1) := by decide +kernel
theorem dX7_nextPosing_40 : decode cX7_nextPosing 40 = .ok (.goto 4, 3) := by decide +kernel
theorem dX7_nextPosing_43 : decode cX7_nextPosing 43 = .ok (.iconst 0, 1) := by decide +kernel
theorem dX7_nextPosing_44 : decode cX7_nextPosing 44 = .ok (.istore 4, 2) := by decide +kernel
theorem dX7_nextPosing_46 : decode cX7_nextPosing 46 = .ok (.iload_n 1, 1) := by decide +kernel
theorem dX7_nextPosing_47 : decode cX7_nextPosing 47 = .ok (.iload_n 3, 1) := by decide +kernel
theorem dX7_nextPosing_48 : decode cX7_nextPosing 48 = .ok (.invokestatic 265, 3) := by decide +kernel
theorem dX7_nextPosing_51 : decode cX7_nextPosing 51 = .ok (.ifCond .ne 12, 3) := by decide +kernel
theorem dX7_nextPosing_54 : decode cX7_nextPosing 54 = .ok (.iload 4, 2) := by decide +kernel
theorem dX7_nextPosing_56 : decode cX7_nextPosing 56 = .ok (.ifCond .eq 7, 3) := by decide +kernel
theorem dX7_nextPosing_59 : decode cX7_nextPosing 59 = .ok (.iload_n 3, 1) := by decide +kernel
theorem dX7_nextPosing_60 : decode cX7_nextPosing 60 = .ok (.goto 4, 3) := by decide +kernel
theorem dX7_nextPosing_63 : decode cX7_nextPosing 63 = .ok (.iload_n 2, 1) := by decide +kernel
theorem dX7_nextPosing_64 : decode cX7_nextPosing 64 = .ok (.istore_n 2, 1) := by decide +kernel
theorem dX7_nextPosing_65 : decode cX7_nextPosing 65 = .ok (.iinc 3 1, 3) := by decide +kernel
theorem dX7_nextPosing_68 : decode cX7_nextPosing 68 = .ok (.goto (-64), 3) := by decide +kernel
theorem dX7_nextPosing_71 : decode cX7_nextPosing 71 = .ok (.iload_n 2, 1) := by decide +kernel
theorem dX7_nextPosing_72 : decode cX7_nextPosing 72 = .ok (.ireturn, 1) := by decide +kernel
theorem dX7_pose_0 : decode cX7_pose 0 = .ok (.iconst 0, 1) := by decide +kernel
theorem dX7_pose_1 : decode cX7_pose 1 = .ok (.istore_n 1, 1) := by decide +kernel
theorem dX7_pose_2 : decode cX7_pose 2 = .ok (.iconst 0, 1) := by decide +kernel
theorem dX7_pose_3 : decode cX7_pose 3 = .ok (.istore_n 2, 1) := by decide +kernel
theorem dX7_pose_4 : decode cX7_pose 4 = .ok (.iconst 0, 1) := by decide +kernel
theorem dX7_pose_5 : decode cX7_pose 5 = .ok (.istore_n 3, 1) := by decide +kernel
theorem dX7_pose_6 : decode cX7_pose 6 = .ok (.iload_n 3, 1) := by decide +kernel
theorem dX7_pose_7 : decode cX7_pose 7 = .ok (.aload_n 0, 1) := by decide +kernel
theorem dX7_pose_8 : decode cX7_pose 8 = .ok (.getfield 83, 3) := by decide +kernel
theorem dX7_pose_11 : decode cX7_pose 11 = .ok (.if_icmp .ge 58, 3) := by decide +kernel
theorem dX7_pose_14 : decode cX7_pose 14 = .ok (.aload_n 0, 1) := by decide +kernel
theorem dX7_pose_15 : decode cX7_pose 15 = .ok (.iload_n 2, 1) := by decide +kernel
theorem dX7_pose_16 : decode cX7_pose 16 = .ok (.invokevirtual 277, 3) := by decide +kernel
theorem dX7_pose_19 : decode cX7_pose 19 = .ok (.istore 4, 2) := by decide +kernel
theorem dX7_pose_21 : decode cX7_pose 21 = .ok (.iload_n 2, 1) := by decide +kernel
theorem dX7_pose_22 : decode cX7_pose 22 = .ok (.iconst 1, 1) := by decide +kernel
theorem dX7_pose_23 : decode cX7_pose 23 = .ok (.iload 4, 2) := by decide +kernel
theorem dX7_pose_25 : decode cX7_pose 25 = .ok (.ishl, 1) := by decide +kernel
theorem dX7_pose_26 : decode cX7_pose 26 = .ok (.ior, 1) := by decide +kernel
theorem dX7_pose_27 : decode cX7_pose 27 = .ok (.istore_n 2, 1) := by decide +kernel
theorem dX7_pose_28 : decode cX7_pose 28 = .ok (.aload_n 0, 1) := by decide +kernel
theorem dX7_pose_29 : decode cX7_pose 29 = .ok (.getfield 67, 3) := by decide +kernel
theorem dX7_pose_32 : decode cX7_pose 32 = .ok (.iload 4, 2) := by decide +kernel
theorem dX7_pose_34 : decode cX7_pose 34 = .ok (.iload_n 1, 1) := by decide +kernel
theorem dX7_pose_35 : decode cX7_pose 35 = .ok (.aload_n 0, 1) := by decide +kernel
theorem dX7_pose_36 : decode cX7_pose 36 = .ok (.getfield 25, 3) := by decide +kernel
theorem dX7_pose_39 : decode cX7_pose 39 = .ok (.iload 4, 2) := by decide +kernel
theorem dX7_pose_41 : decode cX7_pose 41 = .ok (.iaload, 1) := by decide +kernel
theorem dX7_pose_42 : decode cX7_pose 42 = .ok (.iconst 2, 1) := by decide +kernel
theorem dX7_pose_43 : decode cX7_pose 43 = .ok (.iadd, 1) := by decide +kernel
theorem dX7_pose_44 : decode cX7_pose 44 = .ok (.invokestatic 90, 3) := by decide +kernel
theorem dX7_pose_47 : decode cX7_pose 47 = .ok (.iastore, 1) := by decide +kernel
theorem dX7_pose_48 : decode cX7_pose 48 = .ok (.aload_n 0, 1) := by decide +kernel
theorem dX7_pose_49 : decode cX7_pose 49 = .ok (.getfield 67, 3) := by decide +kernel
theorem dX7_pose_52 : decode cX7_pose 52 = .ok (.iload 4, 2) := by decide +kernel
theorem dX7_pose_54 : decode cX7_pose 54 = .ok (.iaload, 1) := by decide +kernel
theorem dX7_pose_55 : decode cX7_pose 55 = .ok (.aload_n 0, 1) := by decide +kernel
theorem dX7_pose_56 : decode cX7_pose 56 = .ok (.iload 4, 2) := by decide +kernel
theorem dX7_pose_58 : decode cX7_pose 58 = .ok (.invokevirtual 228, 3) := by decide +kernel
theorem dX7_pose_61 : decode cX7_pose 61 = .ok (.iadd, 1) := by decide +kernel
theorem dX7_pose_62 : decode cX7_pose 62 = .ok (.istore_n 1, 1) := by decide +kernel
theorem dX7_pose_63 : decode cX7_pose 63 = .ok (.iinc 3 1, 3) := by decide +kernel
theorem dX7_pose_66 : decode cX7_pose 66 = .ok (.goto (-60), 3) := by decide +kernel
theorem dX7_pose_69 : decode cX7_pose 69 = .ok (.iload_n 1, 1) := by decide +kernel
theorem dX7_pose_70 : decode cX7_pose 70 = .ok (.ireturn, 1) := by decide +kernel
theorem dX7_fountain_0 : decode cX7_fountain 0 = .ok (.aload_n 0, 1) := by decide +kernel
theorem dX7_fountain_1 : decode cX7_fountain 1 = .ok (.iconst 0, 1) := by decide +kernel
theorem dX7_fountain_2 : decode cX7_fountain 2 = .ok (.putfield 76, 3) := by decide +kernel
theorem dX7_fountain_5 : decode cX7_fountain 5 = .ok (.aload_n 0, 1) := by decide +kernel
theorem dX7_fountain_6 : decode cX7_fountain 6 = .ok (.iload_n 1, 1) := by decide +kernel
theorem dX7_fountain_7 : decode cX7_fountain 7 = .ok (.invokevirtual 177, 3) := by decide +kernel
theorem dX7_fountain_10 : decode cX7_fountain 10 = .ok (.ifCond .ne 9, 3) := by decide +kernel
theorem dX7_fountain_13 : decode cX7_fountain 13 = .ok (.aload_n 0, 1) := by decide +kernel
theorem dX7_fountain_14 : decode cX7_fountain 14 = .ok (.iconst (-1), 1) := by decide +kernel
theorem dX7_fountain_15 : decode cX7_fountain 15 = .ok (.invokevirtual 138, 3) := by decide +kernel
theorem dX7_fountain_18 : decode cX7_fountain 18 = .ok (.ireturn, 1) := by decide +kernel
theorem dX7_fountain_19 : decode cX7_fountain 19 = .ok (.aload_n 0, 1) := by decide +kernel
theorem dX7_fountain_20 : decode cX7_fountain 20 = .ok (.invokevirtual 194, 3) := by decide +kernel
theorem dX7_fountain_23 : decode cX7_fountain 23 = .ok (.aload_n 0, 1) := by decide +kernel
theorem dX7_fountain_24 : decode cX7_fountain 24 = .ok (.invokevirtual 243, 3) := by decide +kernel
theorem dX7_fountain_27 : decode cX7_fountain 27 = .ok (.aload_n 0, 1) := by decide +kernel
theorem dX7_fountain_28 : decode cX7_fountain 28 = .ok (.invokevirtual 280, 3) := by decide +kernel
theorem dX7_fountain_31 : decode cX7_fountain 31 = .ok (.pop, 1) := by decide +kernel
theorem dX7_fountain_32 : decode cX7_fountain 32 = .ok (.aload_n 0, 1) := by decide +kernel
theorem dX7_fountain_33 : decode cX7_fountain 33 = .ok (.invokevirtual 200, 3) := by decide +kernel
theorem dX7_fountain_36 : decode cX7_fountain 36 = .ok (.aload_n 0, 1) := by decide +kernel
theorem dX7_fountain_37 : decode cX7_fountain 37 = .ok (.getfield 67, 3) := by decide +kernel
theorem dX7_fountain_40 : decode cX7_fountain 40 = .ok (.iload_n 1, 1) := by decide +kernel
theorem dX7_fountain_41 : decode cX7_fountain 41 = .ok (.iaload, 1) := by decide +kernel
theorem dX7_fountain_42 : decode cX7_fountain 42 = .ok (.ireturn, 1) := by decide +kernel
theorem dX7_fountains_0 : decode cX7_fountains 0 = .ok (.aload_n 0, 1) := by decide +kernel
theorem dX7_fountains_1 : decode cX7_fountains 1 = .ok (.iconst 0, 1) := by decide +kernel
theorem dX7_fountains_2 : decode cX7_fountains 2 = .ok (.putfield 76, 3) := by decide +kernel
theorem dX7_fountains_5 : decode cX7_fountains 5 = .ok (.iload_n 1, 1) := by decide +kernel
theorem dX7_fountains_6 : decode cX7_fountains 6 = .ok (.i2l, 1) := by decide +kernel
theorem dX7_fountains_7 : decode cX7_fountains 7 = .ok (.lconst 0, 1) := by decide +kernel
theorem dX7_fountains_8 : decode cX7_fountains 8 = .ok (.lconst 1, 1) := by decide +kernel
theorem dX7_fountains_9 : decode cX7_fountains 9 = .ok (.invokestatic 86, 3) := by decide +kernel
theorem dX7_fountains_12 : decode cX7_fountains 12 = .ok (.ifCond .ne 10, 3) := by decide +kernel
theorem dX7_fountains_15 : decode cX7_fountains 15 = .ok (.aload_n 0, 1) := by decide +kernel
theorem dX7_fountains_16 : decode cX7_fountains 16 = .ok (.bipush (-2), 2) := by decide +kernel
theorem dX7_fountains_18 : decode cX7_fountains 18 = .ok (.invokevirtual 138, 3) := by decide +kernel
theorem dX7_fountains_21 : decode cX7_fountains 21 = .ok (.ireturn, 1) := by decide +kernel
theorem dX7_fountains_22 : decode cX7_fountains 22 = .ok (.aload_n 0, 1) := by decide +kernel
theorem dX7_fountains_23 : decode cX7_fountains 23 = .ok (.invokevirtual 194, 3) := by decide +kernel
theorem dX7_fountains_26 : decode cX7_fountains 26 = .ok (.aload_n 0, 1) := by decide +kernel
theorem dX7_fountains_27 : decode cX7_fountains 27 = .ok (.invokevirtual 243, 3) := by decide +kernel
theorem dX7_fountains_30 : decode cX7_fountains 30 = .ok (.aload_n 0, 1) := by decide +kernel
theorem dX7_fountains_31 : decode cX7_fountains 31 = .ok (.invokevirtual 280, 3) := by decide +kernel
theorem dX7_fountains_34 : decode cX7_fountains 34 = .ok (.istore_n 2, 1) := by decide +kernel
theorem dX7_fountains_35 : decode cX7_fountains 35 = .ok (.bipush (-9), 2) := by decide +kernel
theorem dX7_fountains_37 : decode cX7_fountains 37 = .ok (.istore_n 3, 1) := by decide +kernel
theorem dX7_fountains_38 : decode cX7_fountains 38 = .ok (.iconst (-1), 1) := by decide +kernel
theorem dX7_fountains_39 : decode cX7_fountains 39 = .ok (.istore 4, 2) := by decide +kernel
theorem dX7_fountains_41 : decode cX7_fountains 41 = .ok (.iconst 0, 1) := by decide +kernel
theorem dX7_fountains_42 : decode cX7_fountains 42 = .ok (.istore 5, 2) := by decide +kernel
theorem dX7_fountains_44 : decode cX7_fountains 44 = .ok (.iload 5, 2) := by decide +kernel
theorem dX7_fountains_46 : decode cX7_fountains 46 = .ok (.aload_n 0, 1) := by decide +kernel
theorem dX7_fountains_47 : decode cX7_fountains 47 = .ok (.getfield 83, 3) := by decide +kernel
theorem dX7_fountains_50 : decode cX7_fountains 50 = .ok (.if_icmp .ge 51, 3) := by decide +kernel
theorem dX7_fountains_53 : decode cX7_fountains 53 = .ok (.aload_n 0, 1) := by decide +kernel
theorem dX7_fountains_54 : decode cX7_fountains 54 = .ok (.getfield 67, 3) := by decide +kernel
theorem dX7_fountains_57 : decode cX7_fountains 57 = .ok (.iload 5, 2) := by decide +kernel
theorem dX7_fountains_59 : decode cX7_fountains 59 = .ok (.iaload, 1) := by decide +kernel
theorem dX7_fountains_60 : decode cX7_fountains 60 = .ok (.aload_n 0, 1) := by decide +kernel
theorem dX7_fountains_61 : decode cX7_fountains 61 = .ok (.getfield 25, 3) := by decide +kernel
theorem dX7_fountains_64 : decode cX7_fountains 64 = .ok (.iload 5, 2) := by decide +kernel
theorem dX7_fountains_66 : decode cX7_fountains 66 = .ok (.iaload, 1) := by decide +kernel
theorem dX7_fountains_67 : decode cX7_fountains 67 = .ok (.isub, 1) := by decide +kernel
theorem dX7_fountains_68 : decode cX7_fountains 68 = .ok (.iconst 2, 1) := by decide +kernel
theorem dX7_fountains_69 : decode cX7_fountains 69 = .ok (.isub, 1) := by decide +kernel
theorem dX7_fountains_70 : decode cX7_fountains 70 = .ok (.istore 6, 2) := by decide +kernel
theorem dX7_fountains_72 : decode cX7_fountains 72 = .ok (.iload 6, 2) := by decide +kernel
theorem dX7_fountains_74 : decode cX7_fountains 74 = .ok (.iload 4, 2) := by decide +kernel
theorem dX7_fountains_76 : decode cX7_fountains 76 = .ok (.if_icmp .le 8, 3) := by decide +kernel
theorem dX7_fountains_79 : decode cX7_fountains 79 = .ok (.iload 5, 2) := by decide +kernel
theorem dX7_fountains_81 : decode cX7_fountains 81 = .ok (.goto 4, 3) := by decide +kernel
theorem dX7_fountains_84 : decode cX7_fountains 84 = .ok (.iload_n 3, 1) := by decide +kernel
theorem dX7_fountains_85 : decode cX7_fountains 85 = .ok (.istore_n 3, 1) := by decide +kernel
theorem dX7_fountains_86 : decode cX7_fountains 86 = .ok (.iload 4, 2) := by decide +kernel
theorem dX7_fountains_88 : decode cX7_fountains 88 = .ok (.iload 6, 2) := by decide +kernel
theorem dX7_fountains_90 : decode cX7_fountains 90 = .ok (.invokestatic 90, 3) := by decide +kernel
theorem dX7_fountains_93 : decode cX7_fountains 93 = .ok (.istore 4, 2) := by decide +kernel
theorem dX7_fountains_95 : decode cX7_fountains 95 = .ok (.iinc 5 1, 3) := by decide +kernel
theorem dX7_fountains_98 : decode cX7_fountains 98 = .ok (.goto (-54), 3) := by decide +kernel
theorem dX7_fountains_101 : decode cX7_fountains 101 = .ok (.aload_n 0, 1) := by decide +kernel
theorem dX7_fountains_102 : decode cX7_fountains 102 = .ok (.invokevirtual 200, 3) := by decide +kernel
theorem dX7_fountains_105 : decode cX7_fountains 105 = .ok (.iload_n 1, 1) := by decide +kernel
theorem dX7_fountains_106 : decode cX7_fountains 106 = .ok (.ifCond .ne 7, 3) := by decide +kernel
theorem dX7_fountains_109 : decode cX7_fountains 109 = .ok (.iload_n 3, 1) := by decide +kernel
theorem dX7_fountains_110 : decode cX7_fountains 110 = .ok (.goto 4, 3) := by decide +kernel
theorem dX7_fountains_113 : decode cX7_fountains 113 = .ok (.iload_n 2, 1) := by decide +kernel
theorem dX7_fountains_114 : decode cX7_fountains 114 = .ok (.ireturn, 1) := by decide +kernel
theorem dX7_insideAt_0 : decode cX7_insideAt 0 = .ok (.iconst 0, 1) := by decide +kernel
theorem dX7_insideAt_1 : decode cX7_insideAt 1 = .ok (.istore_n 2, 1) := by decide +kernel
theorem dX7_insideAt_2 : decode cX7_insideAt 2 = .ok (.iconst 0, 1) := by decide +kernel
theorem dX7_insideAt_3 : decode cX7_insideAt 3 = .ok (.istore_n 3, 1) := by decide +kernel
theorem dX7_insideAt_4 : decode cX7_insideAt 4 = .ok (.iload_n 3, 1) := by decide +kernel
theorem dX7_insideAt_5 : decode cX7_insideAt 5 = .ok (.aload_n 0, 1) := by decide +kernel
theorem dX7_insideAt_6 : decode cX7_insideAt 6 = .ok (.getfield 83, 3) := by decide +kernel
theorem dX7_insideAt_9 : decode cX7_insideAt 9 = .ok (.if_icmp .ge 41, 3) := by decide +kernel
theorem dX7_insideAt_12 : decode cX7_insideAt 12 = .ok (.iload_n 2, 1) := by decide +kernel
theorem dX7_insideAt_13 : decode cX7_insideAt 13 = .ok (.aload_n 0, 1) := by decide +kernel
theorem dX7_insideAt_14 : decode cX7_insideAt 14 = .ok (.getfield 22, 3) := by decide +kernel
theorem dX7_insideAt_17 : decode cX7_insideAt 17 = .ok (.iload_n 3, 1) := by decide +kernel
theorem dX7_insideAt_18 : decode cX7_insideAt 18 = .ok (.iaload, 1) := by decide +kernel
theorem dX7_insideAt_19 : decode cX7_insideAt 19 = .ok (.iload_n 1, 1) := by decide +kernel
theorem dX7_insideAt_20 : decode cX7_insideAt 20 = .ok (.if_icmp .gt 21, 3) := by decide +kernel
theorem dX7_insideAt_23 : decode cX7_insideAt 23 = .ok (.aload_n 0, 1) := by decide +kernel
theorem dX7_insideAt_24 : decode cX7_insideAt 24 = .ok (.getfield 25, 3) := by decide +kernel
theorem dX7_insideAt_27 : decode cX7_insideAt 27 = .ok (.iload_n 3, 1) := by decide +kernel
theorem dX7_insideAt_28 : decode cX7_insideAt 28 = .ok (.iaload, 1) := by decide +kernel
theorem dX7_insideAt_29 : decode cX7_insideAt 29 = .ok (.iload_n 1, 1) := by decide +kernel
theorem dX7_insideAt_30 : decode cX7_insideAt 30 = .ok (.if_icmp .le 11, 3) := by decide +kernel
theorem dX7_insideAt_33 : decode cX7_insideAt 33 = .ok (.aload_n 0, 1) := by decide +kernel
theorem dX7_insideAt_34 : decode cX7_insideAt 34 = .ok (.iload_n 3, 1) := by decide +kernel
theorem dX7_insideAt_35 : decode cX7_insideAt 35 = .ok (.invokevirtual 225, 3) := by decide +kernel
theorem dX7_insideAt_38 : decode cX7_insideAt 38 = .ok (.goto 4, 3) := by decide +kernel
theorem dX7_insideAt_41 : decode cX7_insideAt 41 = .ok (.iconst 0, 1) := by decide +kernel
theorem dX7_insideAt_42 : decode cX7_insideAt 42 = .ok (.iadd, 1) := by decide +kernel
theorem dX7_insideAt_43 : decode cX7_insideAt 43 = .ok (.istore_n 2, 1) := by decide +kernel
theorem dX7_insideAt_44 : decode cX7_insideAt 44 = .ok (.iinc 3 1, 3) := by decide +kernel
theorem dX7_insideAt_47 : decode cX7_insideAt 47 = .ok (.goto (-43), 3) := by decide +kernel
theorem dX7_insideAt_50 : decode cX7_insideAt 50 = .ok (.iload_n 2, 1) := by decide +kernel
theorem dX7_insideAt_51 : decode cX7_insideAt 51 = .ok (.ireturn, 1) := by decide +kernel
theorem dX7_inside_0 : decode cX7_inside 0 = .ok (.aload_n 0, 1) := by decide +kernel
theorem dX7_inside_1 : decode cX7_inside 1 = .ok (.iconst 0, 1) := by decide +kernel
theorem dX7_inside_2 : decode cX7_inside 2 = .ok (.putfield 76, 3) := by decide +kernel
theorem dX7_inside_5 : decode cX7_inside 5 = .ok (.iload_n 1, 1) := by decide +kernel
theorem dX7_inside_6 : decode cX7_inside 6 = .ok (.iconst 0, 1) := by decide +kernel
theorem dX7_inside_7 : decode cX7_inside 7 = .ok (.sipush 999, 3) := by decide +kernel
theorem dX7_inside_10 : decode cX7_inside 10 = .ok (.invokestatic 233, 3) := by decide +kernel
theorem dX7_inside_13 : decode cX7_inside 13 = .ok (.ifCond .ge 16, 3) := by decide +kernel
theorem dX7_inside_16 : decode cX7_inside 16 = .ok (.aload_n 0, 1) := by decide +kernel
theorem dX7_inside_17 : decode cX7_inside 17 = .ok (.iload_n 1, 1) := by decide +kernel
theorem dX7_inside_18 : decode cX7_inside 18 = .ok (.iconst 0, 1) := by decide +kernel
theorem dX7_inside_19 : decode cX7_inside 19 = .ok (.sipush 999, 3) := by decide +kernel
theorem dX7_inside_22 : decode cX7_inside 22 = .ok (.invokestatic 233, 3) := by decide +kernel
theorem dX7_inside_25 : decode cX7_inside 25 = .ok (.invokevirtual 138, 3) := by decide +kernel
theorem dX7_inside_28 : decode cX7_inside 28 = .ok (.ireturn, 1) := by decide +kernel
theorem dX7_inside_29 : decode cX7_inside 29 = .ok (.aload_n 0, 1) := by decide +kernel
theorem dX7_inside_30 : decode cX7_inside 30 = .ok (.invokevirtual 194, 3) := by decide +kernel
theorem dX7_inside_33 : decode cX7_inside 33 = .ok (.aload_n 0, 1) := by decide +kernel
theorem dX7_inside_34 : decode cX7_inside 34 = .ok (.invokevirtual 243, 3) := by decide +kernel
theorem dX7_inside_37 : decode cX7_inside 37 = .ok (.aload_n 0, 1) := by decide +kernel
theorem dX7_inside_38 : decode cX7_inside 38 = .ok (.iload_n 1, 1) := by decide +kernel
theorem dX7_inside_39 : decode cX7_inside 39 = .ok (.invokevirtual 283, 3) := by decide +kernel
theorem dX7_inside_42 : decode cX7_inside 42 = .ok (.istore_n 2, 1) := by decide +kernel
theorem dX7_inside_43 : decode cX7_inside 43 = .ok (.aload_n 0, 1) := by decide +kernel
theorem dX7_inside_44 : decode cX7_inside 44 = .ok (.invokevirtual 200, 3) := by decide +kernel
theorem dX7_inside_47 : decode cX7_inside 47 = .ok (.iload_n 2, 1) := by decide +kernel
theorem dX7_inside_48 : decode cX7_inside 48 = .ok (.ireturn, 1) := by decide +kernel
theorem dX7_crowded_0 : decode cX7_crowded 0 = .ok (.aload_n 0, 1) := by decide +kernel
theorem dX7_crowded_1 : decode cX7_crowded 1 = .ok (.iconst 0, 1) := by decide +kernel
theorem dX7_crowded_2 : decode cX7_crowded 2 = .ok (.putfield 76, 3) := by decide +kernel
theorem dX7_crowded_5 : decode cX7_crowded 5 = .ok (.iconst 0, 1) := by decide +kernel
theorem dX7_crowded_6 : decode cX7_crowded 6 = .ok (.istore_n 1, 1) := by decide +kernel
theorem dX7_crowded_7 : decode cX7_crowded 7 = .ok (.iconst 0, 1) := by decide +kernel
theorem dX7_crowded_8 : decode cX7_crowded 8 = .ok (.istore_n 2, 1) := by decide +kernel
theorem dX7_crowded_9 : decode cX7_crowded 9 = .ok (.aload_n 0, 1) := by decide +kernel
theorem dX7_crowded_10 : decode cX7_crowded 10 = .ok (.invokevirtual 194, 3) := by decide +kernel
theorem dX7_crowded_13 : decode cX7_crowded 13 = .ok (.aload_n 0, 1) := by decide +kernel
theorem dX7_crowded_14 : decode cX7_crowded 14 = .ok (.invokevirtual 243, 3) := by decide +kernel
theorem dX7_crowded_17 : decode cX7_crowded 17 = .ok (.iconst 0, 1) := by decide +kernel
theorem dX7_crowded_18 : decode cX7_crowded 18 = .ok (.istore_n 3, 1) := by decide +kernel
theorem dX7_crowded_19 : decode cX7_crowded 19 = .ok (.iload_n 3, 1) := by decide +kernel
theorem dX7_crowded_20 : decode cX7_crowded 20 = .ok (.sipush 999, 3) := by decide +kernel
theorem dX7_crowded_23 : decode cX7_crowded 23 = .ok (.if_icmp .gt 35, 3) := by decide +kernel
theorem dX7_crowded_26 : decode cX7_crowded 26 = .ok (.aload_n 0, 1) := by decide +kernel
theorem dX7_crowded_27 : decode cX7_crowded 27 = .ok (.iload_n 3, 1) := by decide +kernel
theorem dX7_crowded_28 : decode cX7_crowded 28 = .ok (.invokevirtual 283, 3) := by decide +kernel
theorem dX7_crowded_31 : decode cX7_crowded 31 = .ok (.istore 4, 2) := by decide +kernel
theorem dX7_crowded_33 : decode cX7_crowded 33 = .ok (.iload 4, 2) := by decide +kernel
theorem dX7_crowded_35 : decode cX7_crowded 35 = .ok (.iload_n 2, 1) := by decide +kernel
theorem dX7_crowded_36 : decode cX7_crowded 36 = .ok (.if_icmp .le 7, 3) := by decide +kernel
theorem dX7_crowded_39 : decode cX7_crowded 39 = .ok (.iload_n 3, 1) := by decide +kernel
theorem dX7_crowded_40 : decode cX7_crowded 40 = .ok (.goto 4, 3) := by decide +kernel
theorem dX7_crowded_43 : decode cX7_crowded 43 = .ok (.iload_n 1, 1) := by decide +kernel
theorem dX7_crowded_44 : decode cX7_crowded 44 = .ok (.istore_n 1, 1) := by decide +kernel
theorem dX7_crowded_45 : decode cX7_crowded 45 = .ok (.iload_n 2, 1) := by decide +kernel
theorem dX7_crowded_46 : decode cX7_crowded 46 = .ok (.iload 4, 2) := by decide +kernel
theorem dX7_crowded_48 : decode cX7_crowded 48 = .ok (.invokestatic 90, 3) := by decide +kernel
theorem dX7_crowded_51 : decode cX7_crowded 51 = .ok (.istore_n 2, 1) := by decide +kernel
theorem dX7_crowded_52 : decode cX7_crowded 52 = .ok (.iinc 3 1, 3) := by decide +kernel
theorem dX7_crowded_55 : decode cX7_crowded 55 = .ok (.goto (-36), 3) := by decide +kernel
theorem dX7_crowded_58 : decode cX7_crowded 58 = .ok (.aload_n 0, 1) := by decide +kernel
theorem dX7_crowded_59 : decode cX7_crowded 59 = .ok (.invokevirtual 200, 3) := by decide +kernel
theorem dX7_crowded_62 : decode cX7_crowded 62 = .ok (.iload_n 1, 1) := by decide +kernel
theorem dX7_crowded_63 : decode cX7_crowded 63 = .ok (.ireturn, 1) := by decide +kernel
theorem dX7_price_0 : decode cX7_price 0 = .ok (.aload_n 0, 1) := by decide +kernel
theorem dX7_price_1 : decode cX7_price 1 = .ok (.iconst 0, 1) := by decide +kernel
theorem dX7_price_2 : decode cX7_price 2 = .ok (.putfield 76, 3) := by decide +kernel
theorem dX7_price_5 : decode cX7_price 5 = .ok (.iload_n 1, 1) := by decide +kernel
theorem dX7_price_6 : decode cX7_price 6 = .ok (.iconst 0, 1) := by decide +kernel
theorem dX7_price_7 : decode cX7_price 7 = .ok (.sipush 999, 3) := by decide +kernel
theorem dX7_price_10 : decode cX7_price 10 = .ok (.invokestatic 233, 3) := by decide +kernel
theorem dX7_price_13 : decode cX7_price 13 = .ok (.ifCond .ge 16, 3) := by decide +kernel
theorem dX7_price_16 : decode cX7_price 16 = .ok (.aload_n 0, 1) := by decide +kernel
theorem dX7_price_17 : decode cX7_price 17 = .ok (.iload_n 1, 1) := by decide +kernel
theorem dX7_price_18 : decode cX7_price 18 = .ok (.iconst 0, 1) := by decide +kernel
theorem dX7_price_19 : decode cX7_price 19 = .ok (.sipush 999, 3) := by decide +kernel
theorem dX7_price_22 : decode cX7_price 22 = .ok (.invokestatic 233, 3) := by decide +kernel
theorem dX7_price_25 : decode cX7_price 25 = .ok (.invokevirtual 138, 3) := by decide +kernel
theorem dX7_price_28 : decode cX7_price 28 = .ok (.ireturn, 1) := by decide +kernel
theorem dX7_price_29 : decode cX7_price 29 = .ok (.bipush 20, 2) := by decide +kernel
theorem dX7_price_31 : decode cX7_price 31 = .ok (.istore_n 2, 1) := by decide +kernel
theorem dX7_price_32 : decode cX7_price 32 = .ok (.iconst 0, 1) := by decide +kernel
theorem dX7_price_33 : decode cX7_price 33 = .ok (.istore_n 3, 1) := by decide +kernel
theorem dX7_price_34 : decode cX7_price 34 = .ok (.iload_n 3, 1) := by decide +kernel
theorem dX7_price_35 : decode cX7_price 35 = .ok (.aload_n 0, 1) := by decide +kernel
theorem dX7_price_36 : decode cX7_price 36 = .ok (.getfield 83, 3) := by decide +kernel
theorem dX7_price_39 : decode cX7_price 39 = .ok (.if_icmp .ge 39, 3) := by decide +kernel
theorem dX7_price_42 : decode cX7_price 42 = .ok (.iload_n 2, 1) := by decide +kernel
theorem dX7_price_43 : decode cX7_price 43 = .ok (.aload_n 0, 1) := by decide +kernel
theorem dX7_price_44 : decode cX7_price 44 = .ok (.getfield 16, 3) := by decide +kernel
theorem dX7_price_47 : decode cX7_price 47 = .ok (.iload_n 3, 1) := by decide +kernel
theorem dX7_price_48 : decode cX7_price 48 = .ok (.iaload, 1) := by decide +kernel
theorem dX7_price_49 : decode cX7_price 49 = .ok (.iload_n 1, 1) := by decide +kernel
theorem dX7_price_50 : decode cX7_price 50 = .ok (.isub, 1) := by decide +kernel
theorem dX7_price_51 : decode cX7_price 51 = .ok (.i2l, 1) := by decide +kernel
theorem dX7_price_52 : decode cX7_price 52 = .ok (.ldc2_w 286, 3) := by decide +kernel
theorem dX7_price_55 : decode cX7_price 55 = .ok (.ldc2_w 288, 3) := by decide +kernel
theorem dX7_price_58 : decode cX7_price 58 = .ok (.invokestatic 86, 3) := by decide +kernel
theorem dX7_price_61 : decode cX7_price 61 = .ok (.ifCond .eq 8, 3) := by decide +kernel
theorem dX7_price_64 : decode cX7_price 64 = .ok (.bipush 10, 2) := by decide +kernel
theorem dX7_price_66 : decode cX7_price 66 = .ok (.goto 4, 3) := by decide +kernel
theorem dX7_price_69 : decode cX7_price 69 = .ok (.iconst 0, 1) := by decide +kernel
theorem dX7_price_70 : decode cX7_price 70 = .ok (.iadd, 1) := by decide +kernel
theorem dX7_price_71 : decode cX7_price 71 = .ok (.istore_n 2, 1) := by decide +kernel
theorem dX7_price_72 : decode cX7_price 72 = .ok (.iinc 3 1, 3) := by decide +kernel
theorem dX7_price_75 : decode cX7_price 75 = .ok (.goto (-41), 3) := by decide +kernel
theorem dX7_price_78 : decode cX7_price 78 = .ok (.iload_n 2, 1) := by decide +kernel
theorem dX7_price_79 : decode cX7_price 79 = .ok (.ireturn, 1) := by decide +kernel
theorem dX7_divisor_0 : decode cX7_divisor 0 = .ok (.lload_n 0, 1) := by decide +kernel
theorem dX7_divisor_1 : decode cX7_divisor 1 = .ok (.lstore 4, 2) := by decide +kernel
theorem dX7_divisor_3 : decode cX7_divisor 3 = .ok (.lload_n 2, 1) := by decide +kernel
theorem dX7_divisor_4 : decode cX7_divisor 4 = .ok (.lstore 6, 2) := by decide +kernel
theorem dX7_divisor_6 : decode cX7_divisor 6 = .ok (.lload 6, 2) := by decide +kernel
theorem dX7_divisor_8 : decode cX7_divisor 8 = .ok (.lconst 0, 1) := by decide +kernel
theorem dX7_divisor_9 : decode cX7_divisor 9 = .ok (.lcmp, 1) := by decide +kernel
theorem dX7_divisor_10 : decode cX7_divisor 10 = .ok (.ifCond .eq 21, 3) := by decide +kernel
theorem dX7_divisor_13 : decode cX7_divisor 13 = .ok (.lload 4, 2) := by decide +kernel
theorem dX7_divisor_15 : decode cX7_divisor 15 = .ok (.lload 6, 2) := by decide +kernel
theorem dX7_divisor_17 : decode cX7_divisor 17 = .ok (.lrem, 1) := by decide +kernel
theorem dX7_divisor_18 : decode cX7_divisor 18 = .ok (.lstore 8, 2) := by decide +kernel
theorem dX7_divisor_20 : decode cX7_divisor 20 = .ok (.lload 6, 2) := by decide +kernel
theorem dX7_divisor_22 : decode cX7_divisor 22 = .ok (.lstore 4, 2) := by decide +kernel
theorem dX7_divisor_24 : decode cX7_divisor 24 = .ok (.lload 8, 2) := by decide +kernel
theorem dX7_divisor_26 : decode cX7_divisor 26 = .ok (.lstore 6, 2) := by decide +kernel
theorem dX7_divisor_28 : decode cX7_divisor 28 = .ok (.goto (-22), 3) := by decide +kernel
theorem dX7_divisor_31 : decode cX7_divisor 31 = .ok (.lload 4, 2) := by decide +kernel
theorem dX7_divisor_33 : decode cX7_divisor 33 = .ok (.lreturn, 1) := by decide +kernel
theorem dX7_partOf_0 : decode cX7_partOf 0 = .ok (.lload_n 0, 1) := by decide +kernel
theorem dX7_partOf_1 : decode cX7_partOf 1 = .ok (.lconst 0, 1) := by decide +kernel
theorem dX7_partOf_2 : decode cX7_partOf 2 = .ok (.lcmp, 1) := by decide +kernel
theorem dX7_partOf_3 : decode cX7_partOf 3 = .ok (.ifCond .ne 7, 3) := by decide +kernel
theorem dX7_partOf_6 : decode cX7_partOf 6 = .ok (.iload 4, 2) := by decide +kernel
theorem dX7_partOf_8 : decode cX7_partOf 8 = .ok (.i2l, 1) := by decide +kernel
theorem dX7_partOf_9 : decode cX7_partOf 9 = .ok (.lreturn, 1) := by decide +kernel
theorem dX7_partOf_10 : decode cX7_partOf 10 = .ok (.lload_n 0, 1) := by decide +kernel
theorem dX7_partOf_11 : decode cX7_partOf 11 = .ok (.lload_n 2, 1) := by decide +kernel
theorem dX7_partOf_12 : decode cX7_partOf 12 = .ok (.invokestatic 290, 3) := by decide +kernel
theorem dX7_partOf_15 : decode cX7_partOf 15 = .ok (.lstore 5, 2) := by decide +kernel
theorem dX7_partOf_17 : decode cX7_partOf 17 = .ok (.iload 4, 2) := by decide +kernel
theorem dX7_partOf_19 : decode cX7_partOf 19 = .ok (.ifCond .ne 10, 3) := by decide +kernel
theorem dX7_partOf_22 : decode cX7_partOf 22 = .ok (.lload_n 0, 1) := by decide +kernel
theorem dX7_partOf_23 : decode cX7_partOf 23 = .ok (.lload 5, 2) := by decide +kernel
theorem dX7_partOf_25 : decode cX7_partOf 25 = .ok (.ldiv, 1) := by decide +kernel
theorem dX7_partOf_26 : decode cX7_partOf 26 = .ok (.goto 7, 3) := by decide +kernel
theorem dX7_partOf_29 : decode cX7_partOf 29 = .ok (.lload_n 2, 1) := by decide +kernel
theorem dX7_partOf_30 : decode cX7_partOf 30 = .ok (.lload 5, 2) := by decide +kernel
theorem dX7_partOf_32 : decode cX7_partOf 32 = .ok (.ldiv, 1) := by decide +kernel
theorem dX7_partOf_33 : decode cX7_partOf 33 = .ok (.lreturn, 1) := by decide +kernel
theorem dX7_odds_0 : decode cX7_odds 0 = .ok (.aload_n 0, 1) := by decide +kernel
theorem dX7_odds_1 : decode cX7_odds 1 = .ok (.iconst 0, 1) := by decide +kernel
theorem dX7_odds_2 : decode cX7_odds 2 = .ok (.putfield 76, 3) := by decide +kernel
theorem dX7_odds_5 : decode cX7_odds 5 = .ok (.iconst 0, 1) := by decide +kernel
theorem dX7_odds_6 : decode cX7_odds 6 = .ok (.istore 5, 2) := by decide +kernel
theorem dX7_odds_8 : decode cX7_odds 8 = .ok (.iload_n 1, 1) := by decide +kernel
theorem dX7_odds_9 : decode cX7_odds 9 = .ok (.ifCond .lt 12, 3) := by decide +kernel
theorem dX7_odds_12 : decode cX7_odds 12 = .ok (.iload_n 3, 1) := by decide +kernel
theorem dX7_odds_13 : decode cX7_odds 13 = .ok (.ifCond .lt 8, 3) := by decide +kernel
theorem dX7_odds_16 : decode cX7_odds 16 = .ok (.iload_n 2, 1) := by decide +kernel
theorem dX7_odds_17 : decode cX7_odds 17 = .ok (.iconst 2, 1) := by decide +kernel
theorem dX7_odds_18 : decode cX7_odds 18 = .ok (.if_icmp .ge 10, 3) := by decide +kernel
theorem dX7_odds_21 : decode cX7_odds 21 = .ok (.bipush (-4), 2) := by decide +kernel
theorem dX7_odds_23 : decode cX7_odds 23 = .ok (.istore 5, 2) := by decide +kernel
theorem dX7_odds_25 : decode cX7_odds 25 = .ok (.goto 26, 3) := by decide +kernel
theorem dX7_odds_28 : decode cX7_odds 28 = .ok (.iload_n 1, 1) := by decide +kernel
theorem dX7_odds_29 : decode cX7_odds 29 = .ok (.bipush 7, 2) := by decide +kernel
theorem dX7_odds_31 : decode cX7_odds 31 = .ok (.if_icmp .gt 16, 3) := by decide +kernel
theorem dX7_odds_34 : decode cX7_odds 34 = .ok (.iload_n 2, 1) := by decide +kernel
theorem dX7_odds_35 : decode cX7_odds 35 = .ok (.bipush 20, 2) := by decide +kernel
theorem dX7_odds_37 : decode cX7_odds 37 = .ok (.if_icmp .gt 10, 3) := by decide +kernel
theorem dX7_odds_40 : decode cX7_odds 40 = .ok (.iload_n 3, 1) := by decide +kernel
theorem dX7_odds_41 : decode cX7_odds 41 = .ok (.sipush 999, 3) := by decide +kernel
theorem dX7_odds_44 : decode cX7_odds 44 = .ok (.if_icmp .le 7, 3) := by decide +kernel
theorem dX7_odds_47 : decode cX7_odds 47 = .ok (.bipush (-6), 2) := by decide +kernel
theorem dX7_odds_49 : decode cX7_odds 49 = .ok (.istore 5, 2) := by decide +kernel
theorem dX7_odds_51 : decode cX7_odds 51 = .ok (.iload 5, 2) := by decide +kernel
theorem dX7_odds_53 : decode cX7_odds 53 = .ok (.iload 4, 2) := by decide +kernel
theorem dX7_odds_55 : decode cX7_odds 55 = .ok (.iconst 1, 1) := by decide +kernel
theorem dX7_odds_56 : decode cX7_odds 56 = .ok (.invokestatic 240, 3) := by decide +kernel
theorem dX7_odds_59 : decode cX7_odds 59 = .ok (.istore 5, 2) := by decide +kernel
theorem dX7_odds_61 : decode cX7_odds 61 = .ok (.iload 5, 2) := by decide +kernel
theorem dX7_odds_63 : decode cX7_odds 63 = .ok (.ifCond .ge 15, 3) := by decide +kernel
theorem dX7_odds_66 : decode cX7_odds 66 = .ok (.ldc2_w 294, 3) := by decide +kernel
theorem dX7_odds_69 : decode cX7_odds 69 = .ok (.aload_n 0, 1) := by decide +kernel
theorem dX7_odds_70 : decode cX7_odds 70 = .ok (.iload 5, 2) := by decide +kernel
theorem dX7_odds_72 : decode cX7_odds 72 = .ok (.invokevirtual 138, 3) := by decide +kernel
theorem dX7_odds_75 : decode cX7_odds 75 = .ok (.i2l, 1) := by decide +kernel
theorem dX7_odds_76 : decode cX7_odds 76 = .ok (.lsub, 1) := by decide +kernel
theorem dX7_odds_77 : decode cX7_odds 77 = .ok (.lreturn, 1) := by decide +kernel
theorem dX7_odds_78 : decode cX7_odds 78 = .ok (.iload_n 1, 1) := by decide +kernel
theorem dX7_odds_79 : decode cX7_odds 79 = .ok (.aload_n 0, 1) := by decide +kernel
theorem dX7_odds_80 : decode cX7_odds 80 = .ok (.getfield 100, 3) := by decide +kernel
theorem dX7_odds_83 : decode cX7_odds 83 = .ok (.invokestatic 97, 3) := by decide +kernel
theorem dX7_odds_86 : decode cX7_odds 86 = .ok (.istore 6, 2) := by decide +kernel
theorem dX7_odds_88 : decode cX7_odds 88 = .ok (.lconst 0, 1) := by decide +kernel
theorem dX7_odds_89 : decode cX7_odds 89 = .ok (.lstore 7, 2) := by decide +kernel
theorem dX7_odds_91 : decode cX7_odds 91 = .ok (.lconst 1, 1) := by decide +kernel
theorem dX7_odds_92 : decode cX7_odds 92 = .ok (.lstore 9, 2) := by decide +kernel
theorem dX7_odds_94 : decode cX7_odds 94 = .ok (.iconst 0, 1) := by decide +kernel
theorem dX7_odds_95 : decode cX7_odds 95 = .ok (.istore 11, 2) := by decide +kernel
theorem dX7_odds_97 : decode cX7_odds 97 = .ok (.iload 11, 2) := by decide +kernel
theorem dX7_odds_99 : decode cX7_odds 99 = .ok (.iload 6, 2) := by decide +kernel
theorem dX7_odds_101 : decode cX7_odds 101 = .ok (.if_icmp .ge 16, 3) := by decide +kernel
theorem dX7_odds_104 : decode cX7_odds 104 = .ok (.lload 9, 2) := by decide +kernel
theorem dX7_odds_106 : decode cX7_odds 106 = .ok (.iload_n 2, 1) := by decide +kernel
theorem dX7_odds_107 : decode cX7_odds 107 = .ok (.i2l, 1) := by decide +kernel
theorem dX7_odds_108 : decode cX7_odds 108 = .ok (.lmul, 1) := by decide +kernel
theorem dX7_odds_109 : decode cX7_odds 109 = .ok (.lstore 9, 2) := by decide +kernel
theorem dX7_odds_111 : decode cX7_odds 111 = .ok (.iinc 11 1, 3) := by decide +kernel
theorem dX7_odds_114 : decode cX7_odds 114 = .ok (.goto (-17), 3) := by decide +kernel
theorem dX7_odds_117 : decode cX7_odds 117 = .ok (.aload_n 0, 1) := by decide +kernel
theorem dX7_odds_118 : decode cX7_odds 118 = .ok (.invokevirtual 194, 3) := by decide +kernel
theorem dX7_odds_121 : decode cX7_odds 121 = .ok (.iconst 0, 1) := by decide +kernel
theorem dX7_odds_122 : decode cX7_odds 122 = .ok (.istore 11, 2) := by decide +kernel
theorem dX7_odds_124 : decode cX7_odds 124 = .ok (.iload 11, 2) := by decide +kernel
theorem dX7_odds_126 : decode cX7_odds 126 = .ok (.iconst 1, 1) := by decide +kernel
theorem dX7_odds_127 : decode cX7_odds 127 = .ok (.iload 6, 2) := by decide +kernel
theorem dX7_odds_129 : decode cX7_odds 129 = .ok (.ishl, 1) := by decide +kernel
theorem dX7_odds_130 : decode cX7_odds 130 = .ok (.if_icmp .ge 114, 3) := by decide +kernel
theorem dX7_odds_133 : decode cX7_odds 133 = .ok (.lconst 1, 1) := by decide +kernel
theorem dX7_odds_134 : decode cX7_odds 134 = .ok (.lstore 12, 2) := by decide +kernel
theorem dX7_odds_136 : decode cX7_odds 136 = .ok (.iconst 0, 1) := by decide +kernel
theorem dX7_odds_137 : decode cX7_odds 137 = .ok (.istore 14, 2) := by decide +kernel
theorem dX7_odds_139 : decode cX7_odds 139 = .ok (.aload_n 0, 1) := by decide +kernel
theorem dX7_odds_140 : decode cX7_odds 140 = .ok (.getfield 100, 3) := by decide +kernel
theorem dX7_odds_143 : decode cX7_odds 143 = .ok (.ifCond .le 72, 3) := by decide +kernel
theorem dX7_odds_146 : decode cX7_odds 146 = .ok (.iload 14, 2) := by decide +kernel
theorem dX7_odds_148 : decode cX7_odds 148 = .ok (.iload 6, 2) := by decide +kernel
theorem dX7_odds_150 : decode cX7_odds 150 = .ok (.if_icmp .ge 17, 3) := by decide +kernel
theorem dX7_odds_153 : decode cX7_odds 153 = .ok (.iload 11, 2) := by decide +kernel
theorem dX7_odds_155 : decode cX7_odds 155 = .ok (.iload 14, 2) := by decide +kernel
theorem dX7_odds_157 : decode cX7_odds 157 = .ok (.invokestatic 265, 3) := by decide +kernel
theorem dX7_odds_160 : decode cX7_odds 160 = .ok (.ifCond .eq 7, 3) := by decide +kernel
theorem dX7_odds_163 : decode cX7_odds 163 = .ok (.iconst 1, 1) := by decide +kernel
theorem dX7_odds_164 : decode cX7_odds 164 = .ok (.goto 4, 3) := by decide +kernel
theorem dX7_odds_167 : decode cX7_odds 167 = .ok (.iconst 0, 1) := by decide +kernel
theorem dX7_odds_168 : decode cX7_odds 168 = .ok (.istore 15, 2) := by decide +kernel
theorem dX7_odds_170 : decode cX7_odds 170 = .ok (.lload 12, 2) := by decide +kernel
theorem dX7_odds_172 : decode cX7_odds 172 = .ok (.iload 15, 2) := by decide +kernel
theorem dX7_odds_174 : decode cX7_odds 174 = .ok (.ifCond .ne 10, 3) := by decide +kernel
theorem dX7_odds_177 : decode cX7_odds 177 = .ok (.iload 14, 2) := by decide +kernel
theorem dX7_odds_179 : decode cX7_odds 179 = .ok (.iload 6, 2) := by decide +kernel
theorem dX7_odds_181 : decode cX7_odds 181 = .ok (.if_icmp .lt 7, 3) := by decide +kernel
theorem dX7_odds_184 : decode cX7_odds 184 = .ok (.lconst 1, 1) := by decide +kernel
theorem dX7_odds_185 : decode cX7_odds 185 = .ok (.goto 7, 3) := by decide +kernel
theorem dX7_odds_188 : decode cX7_odds 188 = .ok (.iload_n 2, 1) := by decide +kernel
theorem dX7_odds_189 : decode cX7_odds 189 = .ok (.iconst 1, 1) := by decide +kernel
theorem dX7_odds_190 : decode cX7_odds 190 = .ok (.isub, 1) := by decide +kernel
theorem dX7_odds_191 : decode cX7_odds 191 = .ok (.i2l, 1) := by decide +kernel
theorem dX7_odds_192 : decode cX7_odds 192 = .ok (.lmul, 1) := by decide +kernel
theorem dX7_odds_193 : decode cX7_odds 193 = .ok (.lstore 12, 2) := by decide +kernel
theorem dX7_odds_195 : decode cX7_odds 195 = .ok (.aload_n 0, 1) := by decide +kernel
theorem dX7_odds_196 : decode cX7_odds 196 = .ok (.iload 15, 2) := by decide +kernel
theorem dX7_odds_198 : decode cX7_odds 198 = .ok (.ifCond .eq 7, 3) := by decide +kernel
theorem dX7_odds_201 : decode cX7_odds 201 = .ok (.iconst 5, 1) := by decide +kernel
theorem dX7_odds_202 : decode cX7_odds 202 = .ok (.goto 4, 3) := by decide +kernel
theorem dX7_odds_205 : decode cX7_odds 205 = .ok (.iconst 0, 1) := by decide +kernel
theorem dX7_odds_206 : decode cX7_odds 206 = .ok (.invokevirtual 117, 3) := by decide +kernel
theorem dX7_odds_209 : decode cX7_odds 209 = .ok (.iinc 14 1, 3) := by decide +kernel
theorem dX7_odds_212 : decode cX7_odds 212 = .ok (.goto (-73), 3) := by decide +kernel
theorem dX7_odds_215 : decode cX7_odds 215 = .ok (.lload 7, 2) := by decide +kernel
theorem dX7_odds_217 : decode cX7_odds 217 = .ok (.aload_n 0, 1) := by decide +kernel
theorem dX7_odds_218 : decode cX7_odds 218 = .ok (.invokevirtual 250, 3) := by decide +kernel
theorem dX7_odds_221 : decode cX7_odds 221 = .ok (.iload_n 3, 1) := by decide +kernel
theorem dX7_odds_222 : decode cX7_odds 222 = .ok (.if_icmp .gt 8, 3) := by decide +kernel
theorem dX7_odds_225 : decode cX7_odds 225 = .ok (.lload 12, 2) := by decide +kernel
theorem dX7_odds_227 : decode cX7_odds 227 = .ok (.goto 4, 3) := by decide +kernel
theorem dX7_odds_230 : decode cX7_odds 230 = .ok (.lconst 0, 1) := by decide +kernel
theorem dX7_odds_231 : decode cX7_odds 231 = .ok (.ladd, 1) := by decide +kernel
theorem dX7_odds_232 : decode cX7_odds 232 = .ok (.lstore 7, 2) := by decide +kernel
theorem dX7_odds_234 : decode cX7_odds 234 = .ok (.aload_n 0, 1) := by decide +kernel
theorem dX7_odds_235 : decode cX7_odds 235 = .ok (.invokevirtual 200, 3) := by decide +kernel
theorem dX7_odds_238 : decode cX7_odds 238 = .ok (.iinc 11 1, 3) := by decide +kernel
theorem dX7_odds_241 : decode cX7_odds 241 = .ok (.goto (-117), 3) := by decide +kernel
theorem dX7_odds_244 : decode cX7_odds 244 = .ok (.lload 7, 2) := by decide +kernel
theorem dX7_odds_246 : decode cX7_odds 246 = .ok (.lload 9, 2) := by decide +kernel
theorem dX7_odds_248 : decode cX7_odds 248 = .ok (.iload 4, 2) := by decide +kernel
theorem dX7_odds_250 : decode cX7_odds 250 = .ok (.invokestatic 296, 3) := by decide +kernel
theorem dX7_odds_253 : decode cX7_odds 253 = .ok (.lreturn, 1) := by decide +kernel
theorem dX7_two_0 : decode cX7_two 0 = .ok (.aload_n 0, 1) := by decide +kernel
theorem dX7_two_1 : decode cX7_two 1 = .ok (.iconst 0, 1) := by decide +kernel
theorem dX7_two_2 : decode cX7_two 2 = .ok (.putfield 76, 3) := by decide +kernel
theorem dX7_two_5 : decode cX7_two 5 = .ok (.aload_n 0, 1) := by decide +kernel
theorem dX7_two_6 : decode cX7_two 6 = .ok (.iload_n 1, 1) := by decide +kernel
theorem dX7_two_7 : decode cX7_two 7 = .ok (.invokevirtual 177, 3) := by decide +kernel
theorem dX7_two_10 : decode cX7_two 10 = .ok (.ifCond .eq 20, 3) := by decide +kernel
theorem dX7_two_13 : decode cX7_two 13 = .ok (.aload_n 0, 1) := by decide +kernel
theorem dX7_two_14 : decode cX7_two 14 = .ok (.iload_n 2, 1) := by decide +kernel
theorem dX7_two_15 : decode cX7_two 15 = .ok (.invokevirtual 177, 3) := by decide +kernel
theorem dX7_two_18 : decode cX7_two 18 = .ok (.ifCond .eq 12, 3) := by decide +kernel
theorem dX7_two_21 : decode cX7_two 21 = .ok (.iload_n 1, 1) := by decide +kernel
theorem dX7_two_22 : decode cX7_two 22 = .ok (.iload_n 2, 1) := by decide +kernel
theorem dX7_two_23 : decode cX7_two 23 = .ok (.if_icmp .eq 7, 3) := by decide +kernel
theorem dX7_two_26 : decode cX7_two 26 = .ok (.iconst 0, 1) := by decide +kernel
theorem dX7_two_27 : decode cX7_two 27 = .ok (.goto 4, 3) := by decide +kernel
theorem dX7_two_30 : decode cX7_two 30 = .ok (.iconst (-1), 1) := by decide +kernel
theorem dX7_two_31 : decode cX7_two 31 = .ok (.istore_n 3, 1) := by decide +kernel
theorem dX7_two_32 : decode cX7_two 32 = .ok (.iload_n 3, 1) := by decide +kernel
theorem dX7_two_33 : decode cX7_two 33 = .ok (.ifCond .ne 28, 3) := by decide +kernel
theorem dX7_two_36 : decode cX7_two 36 = .ok (.aload_n 0, 1) := by decide +kernel
theorem dX7_two_37 : decode cX7_two 37 = .ok (.getfield 19, 3) := by decide +kernel
theorem dX7_two_40 : decode cX7_two 40 = .ok (.iload_n 1, 1) := by decide +kernel
theorem dX7_two_41 : decode cX7_two 41 = .ok (.iaload, 1) := by decide +kernel
theorem dX7_two_42 : decode cX7_two 42 = .ok (.iconst 1, 1) := by decide +kernel
theorem dX7_two_43 : decode cX7_two 43 = .ok (.if_icmp .eq 13, 3) := by decide +kernel
theorem dX7_two_46 : decode cX7_two 46 = .ok (.aload_n 0, 1) := by decide +kernel
theorem dX7_two_47 : decode cX7_two 47 = .ok (.getfield 19, 3) := by decide +kernel
theorem dX7_two_50 : decode cX7_two 50 = .ok (.iload_n 2, 1) := by decide +kernel
theorem dX7_two_51 : decode cX7_two 51 = .ok (.iaload, 1) := by decide +kernel
theorem dX7_two_52 : decode cX7_two 52 = .ok (.iconst 1, 1) := by decide +kernel
theorem dX7_two_53 : decode cX7_two 53 = .ok (.if_icmp .ne 8, 3) := by decide +kernel
theorem dX7_two_56 : decode cX7_two 56 = .ok (.bipush (-3), 2) := by decide +kernel
theorem dX7_two_58 : decode cX7_two 58 = .ok (.goto 4, 3) := by decide +kernel
theorem dX7_two_61 : decode cX7_two 61 = .ok (.iload_n 3, 1) := by decide +kernel
theorem dX7_two_62 : decode cX7_two 62 = .ok (.istore_n 3, 1) := by decide +kernel
theorem dX7_two_63 : decode cX7_two 63 = .ok (.iload_n 3, 1) := by decide +kernel
theorem dX7_two_64 : decode cX7_two 64 = .ok (.ifCond .ge 9, 3) := by decide +kernel
theorem dX7_two_67 : decode cX7_two 67 = .ok (.aload_n 0, 1) := by decide +kernel
theorem dX7_two_68 : decode cX7_two 68 = .ok (.iload_n 3, 1) := by decide +kernel
theorem dX7_two_69 : decode cX7_two 69 = .ok (.invokevirtual 138, 3) := by decide +kernel
theorem dX7_two_72 : decode cX7_two 72 = .ok (.ireturn, 1) := by decide +kernel
theorem dX7_two_73 : decode cX7_two 73 = .ok (.aload_n 0, 1) := by decide +kernel
theorem dX7_two_74 : decode cX7_two 74 = .ok (.invokevirtual 194, 3) := by decide +kernel
theorem dX7_two_77 : decode cX7_two 77 = .ok (.iconst 0, 1) := by decide +kernel
theorem dX7_two_78 : decode cX7_two 78 = .ok (.istore 4, 2) := by decide +kernel
theorem dX7_two_80 : decode cX7_two 80 = .ok (.iload 4, 2) := by decide +kernel
theorem dX7_two_82 : decode cX7_two 82 = .ok (.iconst 4, 1) := by decide +kernel
theorem dX7_two_83 : decode cX7_two 83 = .ok (.if_icmp .ge 87, 3) := by decide +kernel
theorem dX7_two_86 : decode cX7_two 86 = .ok (.iload 4, 2) := by decide +kernel
theorem dX7_two_88 : decode cX7_two 88 = .ok (.iconst 2, 1) := by decide +kernel
theorem dX7_two_89 : decode cX7_two 89 = .ok (.irem, 1) := by decide +kernel
theorem dX7_two_90 : decode cX7_two 90 = .ok (.iconst 1, 1) := by decide +kernel
theorem dX7_two_91 : decode cX7_two 91 = .ok (.if_icmp .ne 8, 3) := by decide +kernel
theorem dX7_two_94 : decode cX7_two 94 = .ok (.aload_n 0, 1) := by decide +kernel
theorem dX7_two_95 : decode cX7_two 95 = .ok (.iload_n 2, 1) := by decide +kernel
theorem dX7_two_96 : decode cX7_two 96 = .ok (.invokevirtual 180, 3) := by decide +kernel
theorem dX7_two_99 : decode cX7_two 99 = .ok (.iload 4, 2) := by decide +kernel
theorem dX7_two_101 : decode cX7_two 101 = .ok (.iconst 2, 1) := by decide +kernel
theorem dX7_two_102 : decode cX7_two 102 = .ok (.idiv, 1) := by decide +kernel
theorem dX7_two_103 : decode cX7_two 103 = .ok (.iconst 1, 1) := by decide +kernel
theorem dX7_two_104 : decode cX7_two 104 = .ok (.if_icmp .ne 8, 3) := by decide +kernel
theorem dX7_two_107 : decode cX7_two 107 = .ok (.aload_n 0, 1) := by decide +kernel
theorem dX7_two_108 : decode cX7_two 108 = .ok (.iload_n 1, 1) := by decide +kernel
theorem dX7_two_109 : decode cX7_two 109 = .ok (.invokevirtual 180, 3) := by decide +kernel
theorem dX7_two_112 : decode cX7_two 112 = .ok (.aload_n 0, 1) := by decide +kernel
theorem dX7_two_113 : decode cX7_two 113 = .ok (.invokevirtual 243, 3) := by decide +kernel
theorem dX7_two_116 : decode cX7_two 116 = .ok (.aload_n 0, 1) := by decide +kernel
theorem dX7_two_117 : decode cX7_two 117 = .ok (.getfield 70, 3) := by decide +kernel
theorem dX7_two_120 : decode cX7_two 120 = .ok (.iconst 2, 1) := by decide +kernel
theorem dX7_two_121 : decode cX7_two 121 = .ok (.iload 4, 2) := by decide +kernel
theorem dX7_two_123 : decode cX7_two 123 = .ok (.imul, 1) := by decide +kernel
theorem dX7_two_124 : decode cX7_two 124 = .ok (.aload_n 0, 1) := by decide +kernel
theorem dX7_two_125 : decode cX7_two 125 = .ok (.iload_n 1, 1) := by decide +kernel
theorem dX7_two_126 : decode cX7_two 126 = .ok (.invokevirtual 121, 3) := by decide +kernel
theorem dX7_two_129 : decode cX7_two 129 = .ok (.iconst 4, 1) := by decide +kernel
theorem dX7_two_130 : decode cX7_two 130 = .ok (.iload 4, 2) := by decide +kernel
theorem dX7_two_132 : decode cX7_two 132 = .ok (.iconst 2, 1) := by decide +kernel
theorem dX7_two_133 : decode cX7_two 133 = .ok (.idiv, 1) := by decide +kernel
theorem dX7_two_134 : decode cX7_two 134 = .ok (.imul, 1) := by decide +kernel
theorem dX7_two_135 : decode cX7_two 135 = .ok (.iadd, 1) := by decide +kernel
theorem dX7_two_136 : decode cX7_two 136 = .ok (.iastore, 1) := by decide +kernel
theorem dX7_two_137 : decode cX7_two 137 = .ok (.aload_n 0, 1) := by decide +kernel
theorem dX7_two_138 : decode cX7_two 138 = .ok (.getfield 70, 3) := by decide +kernel
theorem dX7_two_141 : decode cX7_two 141 = .ok (.iconst 2, 1) := by decide +kernel
theorem dX7_two_142 : decode cX7_two 142 = .ok (.iload 4, 2) := by decide +kernel
theorem dX7_two_144 : decode cX7_two 144 = .ok (.imul, 1) := by decide +kernel
theorem dX7_two_145 : decode cX7_two 145 = .ok (.iconst 1, 1) := by decide +kernel
theorem dX7_two_146 : decode cX7_two 146 = .ok (.iadd, 1) := by decide +kernel
theorem dX7_two_147 : decode cX7_two 147 = .ok (.aload_n 0, 1) := by decide +kernel
theorem dX7_two_148 : decode cX7_two 148 = .ok (.iload_n 2, 1) := by decide +kernel
theorem dX7_two_149 : decode cX7_two 149 = .ok (.invokevirtual 121, 3) := by decide +kernel
theorem dX7_two_152 : decode cX7_two 152 = .ok (.iconst 4, 1) := by decide +kernel
theorem dX7_two_153 : decode cX7_two 153 = .ok (.iload 4, 2) := by decide +kernel
theorem dX7_two_155 : decode cX7_two 155 = .ok (.iconst 2, 1) := by decide +kernel
theorem dX7_two_156 : decode cX7_two 156 = .ok (.irem, 1) := by decide +kernel
theorem dX7_two_157 : decode cX7_two 157 = .ok (.imul, 1) := by decide +kernel
theorem dX7_two_158 : decode cX7_two 158 = .ok (.iadd, 1) := by decide +kernel
theorem dX7_two_159 : decode cX7_two 159 = .ok (.iastore, 1) := by decide +kernel
theorem dX7_two_160 : decode cX7_two 160 = .ok (.aload_n 0, 1) := by decide +kernel
theorem dX7_two_161 : decode cX7_two 161 = .ok (.invokevirtual 200, 3) := by decide +kernel
theorem dX7_two_164 : decode cX7_two 164 = .ok (.iinc 4 1, 3) := by decide +kernel
theorem dX7_two_167 : decode cX7_two 167 = .ok (.goto (-87), 3) := by decide +kernel
theorem dX7_two_170 : decode cX7_two 170 = .ok (.iconst 0, 1) := by decide +kernel
theorem dX7_two_171 : decode cX7_two 171 = .ok (.istore 4, 2) := by decide +kernel
theorem dX7_two_173 : decode cX7_two 173 = .ok (.iload 4, 2) := by decide +kernel
theorem dX7_two_175 : decode cX7_two 175 = .ok (.iconst 4, 1) := by decide +kernel
theorem dX7_two_176 : decode cX7_two 176 = .ok (.if_icmp .ge 98, 3) := by decide +kernel
theorem dX7_two_179 : decode cX7_two 179 = .ok (.iconst 2, 1) := by decide +kernel
theorem dX7_two_180 : decode cX7_two 180 = .ok (.iconst 1, 1) := by decide +kernel
theorem dX7_two_181 : decode cX7_two 181 = .ok (.iload 4, 2) := by decide +kernel
theorem dX7_two_183 : decode cX7_two 183 = .ok (.iconst 2, 1) := by decide +kernel
theorem dX7_two_184 : decode cX7_two 184 = .ok (.idiv, 1) := by decide +kernel
theorem dX7_two_185 : decode cX7_two 185 = .ok (.isub, 1) := by decide +kernel
theorem dX7_two_186 : decode cX7_two 186 = .ok (.imul, 1) := by decide +kernel
theorem dX7_two_187 : decode cX7_two 187 = .ok (.iload 4, 2) := by decide +kernel
theorem dX7_two_189 : decode cX7_two 189 = .ok (.iconst 2, 1) := by decide +kernel
theorem dX7_two_190 : decode cX7_two 190 = .ok (.irem, 1) := by decide +kernel
theorem dX7_two_191 : decode cX7_two 191 = .ok (.iadd, 1) := by decide +kernel
theorem dX7_two_192 : decode cX7_two 192 = .ok (.istore 5, 2) := by decide +kernel
theorem dX7_two_194 : decode cX7_two 194 = .ok (.iconst 2, 1) := by decide +kernel
theorem dX7_two_195 : decode cX7_two 195 = .ok (.iload 4, 2) := by decide +kernel
theorem dX7_two_197 : decode cX7_two 197 = .ok (.iconst 2, 1) := by decide +kernel
theorem dX7_two_198 : decode cX7_two 198 = .ok (.idiv, 1) := by decide +kernel
theorem dX7_two_199 : decode cX7_two 199 = .ok (.imul, 1) := by decide +kernel
theorem dX7_two_200 : decode cX7_two 200 = .ok (.iconst 1, 1) := by decide +kernel
theorem dX7_two_201 : decode cX7_two 201 = .ok (.iadd, 1) := by decide +kernel
theorem dX7_two_202 : decode cX7_two 202 = .ok (.iload 4, 2) := by decide +kernel
theorem dX7_two_204 : decode cX7_two 204 = .ok (.iconst 2, 1) := by decide +kernel
theorem dX7_two_205 : decode cX7_two 205 = .ok (.irem, 1) := by decide +kernel
theorem dX7_two_206 : decode cX7_two 206 = .ok (.isub, 1) := by decide +kernel
theorem dX7_two_207 : decode cX7_two 207 = .ok (.istore 6, 2) := by decide +kernel
theorem dX7_two_209 : decode cX7_two 209 = .ok (.aload_n 0, 1) := by decide +kernel
theorem dX7_two_210 : decode cX7_two 210 = .ok (.getfield 70, 3) := by decide +kernel
theorem dX7_two_213 : decode cX7_two 213 = .ok (.iconst 2, 1) := by decide +kernel
theorem dX7_two_214 : decode cX7_two 214 = .ok (.iload 4, 2) := by decide +kernel
theorem dX7_two_216 : decode cX7_two 216 = .ok (.imul, 1) := by decide +kernel
theorem dX7_two_217 : decode cX7_two 217 = .ok (.iaload, 1) := by decide +kernel
theorem dX7_two_218 : decode cX7_two 218 = .ok (.aload_n 0, 1) := by decide +kernel
theorem dX7_two_219 : decode cX7_two 219 = .ok (.getfield 70, 3) := by decide +kernel
theorem dX7_two_222 : decode cX7_two 222 = .ok (.iconst 2, 1) := by decide +kernel
theorem dX7_two_223 : decode cX7_two 223 = .ok (.iload 5, 2) := by decide +kernel
theorem dX7_two_225 : decode cX7_two 225 = .ok (.imul, 1) := by decide +kernel
theorem dX7_two_226 : decode cX7_two 226 = .ok (.iaload, 1) := by decide +kernel
theorem dX7_two_227 : decode cX7_two 227 = .ok (.if_icmp .gt 41, 3) := by decide +kernel
theorem dX7_two_230 : decode cX7_two 230 = .ok (.aload_n 0, 1) := by decide +kernel
theorem dX7_two_231 : decode cX7_two 231 = .ok (.getfield 70, 3) := by decide +kernel
theorem dX7_two_234 : decode cX7_two 234 = .ok (.iconst 2, 1) := by decide +kernel
theorem dX7_two_235 : decode cX7_two 235 = .ok (.iload 4, 2) := by decide +kernel
theorem dX7_two_237 : decode cX7_two 237 = .ok (.imul, 1) := by decide +kernel
theorem dX7_two_238 : decode cX7_two 238 = .ok (.iconst 1, 1) := by decide +kernel
theorem dX7_two_239 : decode cX7_two 239 = .ok (.iadd, 1) := by decide +kernel
theorem dX7_two_240 : decode cX7_two 240 = .ok (.iaload, 1) := by decide +kernel
theorem dX7_two_241 : decode cX7_two 241 = .ok (.aload_n 0, 1) := by decide +kernel
theorem dX7_two_242 : decode cX7_two 242 = .ok (.getfield 70, 3) := by decide +kernel
theorem dX7_two_245 : decode cX7_two 245 = .ok (.iconst 2, 1) := by decide +kernel
theorem dX7_two_246 : decode cX7_two 246 = .ok (.iload 6, 2) := by decide +kernel
theorem dX7_two_248 : decode cX7_two 248 = .ok (.imul, 1) := by decide +kernel
theorem dX7_two_249 : decode cX7_two 249 = .ok (.iconst 1, 1) := by decide +kernel
theorem dX7_two_250 : decode cX7_two 250 = .ok (.iadd, 1) := by decide +kernel
theorem dX7_two_251 : decode cX7_two 251 = .ok (.iaload, 1) := by decide +kernel
theorem dX7_two_252 : decode cX7_two 252 = .ok (.if_icmp .gt 16, 3) := by decide +kernel
theorem dX7_two_255 : decode cX7_two 255 = .ok (.bipush 10, 2) := by decide +kernel
theorem dX7_two_257 : decode cX7_two 257 = .ok (.iload 4, 2) := by decide +kernel
theorem dX7_two_259 : decode cX7_two 259 = .ok (.iconst 2, 1) := by decide +kernel
theorem dX7_two_260 : decode cX7_two 260 = .ok (.idiv, 1) := by decide +kernel
theorem dX7_two_261 : decode cX7_two 261 = .ok (.imul, 1) := by decide +kernel
theorem dX7_two_262 : decode cX7_two 262 = .ok (.iload 4, 2) := by decide +kernel
theorem dX7_two_264 : decode cX7_two 264 = .ok (.iconst 2, 1) := by decide +kernel
theorem dX7_two_265 : decode cX7_two 265 = .ok (.irem, 1) := by decide +kernel
theorem dX7_two_266 : decode cX7_two 266 = .ok (.iadd, 1) := by decide +kernel
theorem dX7_two_267 : decode cX7_two 267 = .ok (.ireturn, 1) := by decide +kernel
theorem dX7_two_268 : decode cX7_two 268 = .ok (.iinc 4 1, 3) := by decide +kernel
theorem dX7_two_271 : decode cX7_two 271 = .ok (.goto (-98), 3) := by decide +kernel
theorem dX7_two_274 : decode cX7_two 274 = .ok (.bipush (-9), 2) := by decide +kernel
theorem dX7_two_276 : decode cX7_two 276 = .ok (.ireturn, 1) := by decide +kernel
theorem dX7_isRow_0 : decode cX7_isRow 0 = .ok (.aload_n 0, 1) := by decide +kernel
theorem dX7_isRow_1 : decode cX7_isRow 1 = .ok (.invokevirtual 243, 3) := by decide +kernel
theorem dX7_isRow_4 : decode cX7_isRow 4 = .ok (.aload_n 0, 1) := by decide +kernel
theorem dX7_isRow_5 : decode cX7_isRow 5 = .ok (.getfield 300, 3) := by decide +kernel
theorem dX7_isRow_8 : decode cX7_isRow 8 = .ok (.aload_n 0, 1) := by decide +kernel
theorem dX7_isRow_9 : decode cX7_isRow 9 = .ok (.getfield 83, 3) := by decide +kernel
theorem dX7_isRow_12 : decode cX7_isRow 12 = .ok (.if_icmp .gt 7, 3) := by decide +kernel
theorem dX7_isRow_15 : decode cX7_isRow 15 = .ok (.iconst 1, 1) := by decide +kernel
theorem dX7_isRow_16 : decode cX7_isRow 16 = .ok (.goto 4, 3) := by decide +kernel
theorem dX7_isRow_19 : decode cX7_isRow 19 = .ok (.iconst 0, 1) := by decide +kernel
theorem dX7_isRow_20 : decode cX7_isRow 20 = .ok (.istore_n 1, 1) := by decide +kernel
theorem dX7_isRow_21 : decode cX7_isRow 21 = .ok (.iconst 0, 1) := by decide +kernel
theorem dX7_isRow_22 : decode cX7_isRow 22 = .ok (.istore_n 2, 1) := by decide +kernel
theorem dX7_isRow_23 : decode cX7_isRow 23 = .ok (.iload_n 2, 1) := by decide +kernel
theorem dX7_isRow_24 : decode cX7_isRow 24 = .ok (.aload_n 0, 1) := by decide +kernel
theorem dX7_isRow_25 : decode cX7_isRow 25 = .ok (.getfield 300, 3) := by decide +kernel
theorem dX7_isRow_28 : decode cX7_isRow 28 = .ok (.if_icmp .ge 34, 3) := by decide +kernel
theorem dX7_isRow_31 : decode cX7_isRow 31 = .ok (.iload_n 1, 1) := by decide +kernel
theorem dX7_isRow_32 : decode cX7_isRow 32 = .ok (.ifCond .eq 30, 3) := by decide +kernel
theorem dX7_isRow_35 : decode cX7_isRow 35 = .ok (.aload_n 0, 1) := by decide +kernel
theorem dX7_isRow_36 : decode cX7_isRow 36 = .ok (.getfield 73, 3) := by decide +kernel
theorem dX7_isRow_39 : decode cX7_isRow 39 = .ok (.iload_n 2, 1) := by decide +kernel
theorem dX7_isRow_40 : decode cX7_isRow 40 = .ok (.iaload, 1) := by decide +kernel
theorem dX7_isRow_41 : decode cX7_isRow 41 = .ok (.aload_n 0, 1) := by decide +kernel
theorem dX7_isRow_42 : decode cX7_isRow 42 = .ok (.getfield 25, 3) := by decide +kernel
theorem dX7_isRow_45 : decode cX7_isRow 45 = .ok (.iload_n 2, 1) := by decide +kernel
theorem dX7_isRow_46 : decode cX7_isRow 46 = .ok (.iaload, 1) := by decide +kernel
theorem dX7_isRow_47 : decode cX7_isRow 47 = .ok (.if_icmp .ne 7, 3) := by decide +kernel
theorem dX7_isRow_50 : decode cX7_isRow 50 = .ok (.iconst 1, 1) := by decide +kernel
theorem dX7_isRow_51 : decode cX7_isRow 51 = .ok (.goto 4, 3) := by decide +kernel
theorem dX7_isRow_54 : decode cX7_isRow 54 = .ok (.iconst 0, 1) := by decide +kernel
theorem dX7_isRow_55 : decode cX7_isRow 55 = .ok (.istore_n 1, 1) := by decide +kernel
theorem dX7_isRow_56 : decode cX7_isRow 56 = .ok (.iinc 2 1, 3) := by decide +kernel
theorem dX7_isRow_59 : decode cX7_isRow 59 = .ok (.goto (-36), 3) := by decide +kernel
theorem dX7_isRow_62 : decode cX7_isRow 62 = .ok (.aload_n 0, 1) := by decide +kernel
theorem dX7_isRow_63 : decode cX7_isRow 63 = .ok (.invokevirtual 200, 3) := by decide +kernel
theorem dX7_isRow_66 : decode cX7_isRow 66 = .ok (.iload_n 1, 1) := by decide +kernel
theorem dX7_isRow_67 : decode cX7_isRow 67 = .ok (.ireturn, 1) := by decide +kernel
theorem dX7_whenBy_0 : decode cX7_whenBy 0 = .ok (.iconst 0, 1) := by decide +kernel
theorem dX7_whenBy_1 : decode cX7_whenBy 1 = .ok (.istore_n 3, 1) := by decide +kernel
theorem dX7_whenBy_2 : decode cX7_whenBy 2 = .ok (.bipush (-9), 2) := by decide +kernel
theorem dX7_whenBy_4 : decode cX7_whenBy 4 = .ok (.istore 4, 2) := by decide +kernel
theorem dX7_whenBy_6 : decode cX7_whenBy 6 = .ok (.iconst 0, 1) := by decide +kernel
theorem dX7_whenBy_7 : decode cX7_whenBy 7 = .ok (.istore 5, 2) := by decide +kernel
theorem dX7_whenBy_9 : decode cX7_whenBy 9 = .ok (.iload 5, 2) := by decide +kernel
theorem dX7_whenBy_11 : decode cX7_whenBy 11 = .ok (.sipush 240, 3) := by decide +kernel
theorem dX7_whenBy_14 : decode cX7_whenBy 14 = .ok (.if_icmp .gt 55, 3) := by decide +kernel
theorem dX7_whenBy_17 : decode cX7_whenBy 17 = .ok (.aload_n 0, 1) := by decide +kernel
theorem dX7_whenBy_18 : decode cX7_whenBy 18 = .ok (.getfield 16, 3) := by decide +kernel
theorem dX7_whenBy_21 : decode cX7_whenBy 21 = .ok (.iload_n 1, 1) := by decide +kernel
theorem dX7_whenBy_22 : decode cX7_whenBy 22 = .ok (.iload 5, 2) := by decide +kernel
theorem dX7_whenBy_24 : decode cX7_whenBy 24 = .ok (.iastore, 1) := by decide +kernel
theorem dX7_whenBy_25 : decode cX7_whenBy 25 = .ok (.aload_n 0, 1) := by decide +kernel
theorem dX7_whenBy_26 : decode cX7_whenBy 26 = .ok (.invokevirtual 303, 3) := by decide +kernel
theorem dX7_whenBy_29 : decode cX7_whenBy 29 = .ok (.istore 6, 2) := by decide +kernel
theorem dX7_whenBy_31 : decode cX7_whenBy 31 = .ok (.iload_n 3, 1) := by decide +kernel
theorem dX7_whenBy_32 : decode cX7_whenBy 32 = .ok (.iload 6, 2) := by decide +kernel
theorem dX7_whenBy_34 : decode cX7_whenBy 34 = .ok (.ifCond .eq 7, 3) := by decide +kernel
theorem dX7_whenBy_37 : decode cX7_whenBy 37 = .ok (.iconst 1, 1) := by decide +kernel
theorem dX7_whenBy_38 : decode cX7_whenBy 38 = .ok (.goto 4, 3) := by decide +kernel
theorem dX7_whenBy_41 : decode cX7_whenBy 41 = .ok (.iconst 0, 1) := by decide +kernel
theorem dX7_whenBy_42 : decode cX7_whenBy 42 = .ok (.iadd, 1) := by decide +kernel
theorem dX7_whenBy_43 : decode cX7_whenBy 43 = .ok (.istore_n 3, 1) := by decide +kernel
theorem dX7_whenBy_44 : decode cX7_whenBy 44 = .ok (.iload 6, 2) := by decide +kernel
theorem dX7_whenBy_46 : decode cX7_whenBy 46 = .ok (.ifCond .eq 13, 3) := by decide +kernel
theorem dX7_whenBy_49 : decode cX7_whenBy 49 = .ok (.iload 4, 2) := by decide +kernel
theorem dX7_whenBy_51 : decode cX7_whenBy 51 = .ok (.ifCond .ge 8, 3) := by decide +kernel
theorem dX7_whenBy_54 : decode cX7_whenBy 54 = .ok (.iload 5, 2) := by decide +kernel
theorem dX7_whenBy_56 : decode cX7_whenBy 56 = .ok (.goto 5, 3) := by decide +kernel
theorem dX7_whenBy_59 : decode cX7_whenBy 59 = .ok (.iload 4, 2) := by decide +kernel
theorem dX7_whenBy_61 : decode cX7_whenBy 61 = .ok (.istore 4, 2) := by decide +kernel
theorem dX7_whenBy_63 : decode cX7_whenBy 63 = .ok (.iinc 5 1, 3) := by decide +kernel
theorem dX7_whenBy_66 : decode cX7_whenBy 66 = .ok (.goto (-57), 3) := by decide +kernel
theorem dX7_whenBy_69 : decode cX7_whenBy 69 = .ok (.iload_n 2, 1) := by decide +kernel
theorem dX7_whenBy_70 : decode cX7_whenBy 70 = .ok (.iconst 2, 1) := by decide +kernel
theorem dX7_whenBy_71 : decode cX7_whenBy 71 = .ok (.if_icmp .ne 7, 3) := by decide +kernel
theorem dX7_whenBy_74 : decode cX7_whenBy 74 = .ok (.iload_n 3, 1) := by decide +kernel
theorem dX7_whenBy_75 : decode cX7_whenBy 75 = .ok (.goto 5, 3) := by decide +kernel
theorem dX7_whenBy_78 : decode cX7_whenBy 78 = .ok (.iload 4, 2) := by decide +kernel
theorem dX7_whenBy_80 : decode cX7_whenBy 80 = .ok (.ireturn, 1) := by decide +kernel
theorem dX7_whatWas_0 : decode cX7_whatWas 0 = .ok (.aload_n 0, 1) := by decide +kernel
theorem dX7_whatWas_1 : decode cX7_whatWas 1 = .ok (.iconst 0, 1) := by decide +kernel
theorem dX7_whatWas_2 : decode cX7_whatWas 2 = .ok (.putfield 76, 3) := by decide +kernel
theorem dX7_whatWas_5 : decode cX7_whatWas 5 = .ok (.aload_n 0, 1) := by decide +kernel
theorem dX7_whatWas_6 : decode cX7_whatWas 6 = .ok (.iload_n 1, 1) := by decide +kernel
theorem dX7_whatWas_7 : decode cX7_whatWas 7 = .ok (.invokevirtual 177, 3) := by decide +kernel
theorem dX7_whatWas_10 : decode cX7_whatWas 10 = .ok (.ifCond .eq 7, 3) := by decide +kernel
theorem dX7_whatWas_13 : decode cX7_whatWas 13 = .ok (.iconst 0, 1) := by decide +kernel
theorem dX7_whatWas_14 : decode cX7_whatWas 14 = .ok (.goto 4, 3) := by decide +kernel
theorem dX7_whatWas_17 : decode cX7_whatWas 17 = .ok (.iconst (-1), 1) := by decide +kernel
theorem dX7_whatWas_18 : decode cX7_whatWas 18 = .ok (.iload_n 2, 1) := by decide +kernel
theorem dX7_whatWas_19 : decode cX7_whatWas 19 = .ok (.iconst 3, 1) := by decide +kernel
theorem dX7_whatWas_20 : decode cX7_whatWas 20 = .ok (.invokestatic 240, 3) := by decide +kernel
theorem dX7_whatWas_23 : decode cX7_whatWas 23 = .ok (.istore_n 3, 1) := by decide +kernel
theorem dX7_whatWas_24 : decode cX7_whatWas 24 = .ok (.iload_n 3, 1) := by decide +kernel
theorem dX7_whatWas_25 : decode cX7_whatWas 25 = .ok (.ifCond .ge 9, 3) := by decide +kernel
theorem dX7_whatWas_28 : decode cX7_whatWas 28 = .ok (.aload_n 0, 1) := by decide +kernel
theorem dX7_whatWas_29 : decode cX7_whatWas 29 = .ok (.iload_n 3, 1) := by decide +kernel
theorem dX7_whatWas_30 : decode cX7_whatWas 30 = .ok (.invokevirtual 138, 3) := by decide +kernel
theorem dX7_whatWas_33 : decode cX7_whatWas 33 = .ok (.ireturn, 1) := by decide +kernel
theorem dX7_whatWas_34 : decode cX7_whatWas 34 = .ok (.aload_n 0, 1) := by decide +kernel
theorem dX7_whatWas_35 : decode cX7_whatWas 35 = .ok (.invokevirtual 194, 3) := by decide +kernel
theorem dX7_whatWas_38 : decode cX7_whatWas 38 = .ok (.iload_n 2, 1) := by decide +kernel
theorem dX7_whatWas_39 : decode cX7_whatWas 39 = .ok (.iconst 1, 1) := by decide +kernel
theorem dX7_whatWas_40 : decode cX7_whatWas 40 = .ok (.if_icmp .le 10, 3) := by decide +kernel
theorem dX7_whatWas_43 : decode cX7_whatWas 43 = .ok (.aload_n 0, 1) := by decide +kernel
theorem dX7_whatWas_44 : decode cX7_whatWas 44 = .ok (.iload_n 1, 1) := by decide +kernel
theorem dX7_whatWas_45 : decode cX7_whatWas 45 = .ok (.iload_n 2, 1) := by decide +kernel
theorem dX7_whatWas_46 : decode cX7_whatWas 46 = .ok (.invokevirtual 307, 3) := by decide +kernel
theorem dX7_whatWas_49 : decode cX7_whatWas 49 = .ok (.ireturn, 1) := by decide +kernel
theorem dX7_whatWas_50 : decode cX7_whatWas 50 = .ok (.iconst 0, 1) := by decide +kernel
theorem dX7_whatWas_51 : decode cX7_whatWas 51 = .ok (.istore 4, 2) := by decide +kernel
theorem dX7_whatWas_53 : decode cX7_whatWas 53 = .ok (.iconst 0, 1) := by decide +kernel
theorem dX7_whatWas_54 : decode cX7_whatWas 54 = .ok (.istore 5, 2) := by decide +kernel
theorem dX7_whatWas_56 : decode cX7_whatWas 56 = .ok (.iload 5, 2) := by decide +kernel
theorem dX7_whatWas_58 : decode cX7_whatWas 58 = .ok (.iload_n 2, 1) := by decide +kernel
theorem dX7_whatWas_59 : decode cX7_whatWas 59 = .ok (.ifCond .ne 8, 3) := by decide +kernel
theorem dX7_whatWas_62 : decode cX7_whatWas 62 = .ok (.bipush 6, 2) := by decide +kernel
theorem dX7_whatWas_64 : decode cX7_whatWas 64 = .ok (.goto 5, 3) := by decide +kernel
theorem dX7_whatWas_67 : decode cX7_whatWas 67 = .ok (.bipush 10, 2) := by decide +kernel
theorem dX7_whatWas_69 : decode cX7_whatWas 69 = .ok (.if_icmp .ge 72, 3) := by decide +kernel
theorem dX7_whatWas_72 : decode cX7_whatWas 72 = .ok (.aload_n 0, 1) := by decide +kernel
theorem dX7_whatWas_73 : decode cX7_whatWas 73 = .ok (.getfield 7, 3) := by decide +kernel
theorem dX7_whatWas_76 : decode cX7_whatWas 76 = .ok (.iload_n 1, 1) := by decide +kernel
theorem dX7_whatWas_77 : decode cX7_whatWas 77 = .ok (.iload_n 2, 1) := by decide +kernel
theorem dX7_whatWas_78 : decode cX7_whatWas 78 = .ok (.ifCond .ne 8, 3) := by decide +kernel
theorem dX7_whatWas_81 : decode cX7_whatWas 81 = .ok (.iload 5, 2) := by decide +kernel
theorem dX7_whatWas_83 : decode cX7_whatWas 83 = .ok (.goto 9, 3) := by decide +kernel
theorem dX7_whatWas_86 : decode cX7_whatWas 86 = .ok (.aload_n 0, 1) := by decide +kernel
theorem dX7_whatWas_87 : decode cX7_whatWas 87 = .ok (.getfield 7, 3) := by decide +kernel
theorem dX7_whatWas_90 : decode cX7_whatWas 90 = .ok (.iload_n 1, 1) := by decide +kernel
theorem dX7_whatWas_91 : decode cX7_whatWas 91 = .ok (.iaload, 1) := by decide +kernel
theorem dX7_whatWas_92 : decode cX7_whatWas 92 = .ok (.iastore, 1) := by decide +kernel
theorem dX7_whatWas_93 : decode cX7_whatWas 93 = .ok (.aload_n 0, 1) := by decide +kernel
theorem dX7_whatWas_94 : decode cX7_whatWas 94 = .ok (.getfield 13, 3) := by decide +kernel
theorem dX7_whatWas_97 : decode cX7_whatWas 97 = .ok (.iload_n 1, 1) := by decide +kernel
theorem dX7_whatWas_98 : decode cX7_whatWas 98 = .ok (.iload_n 2, 1) := by decide +kernel
theorem dX7_whatWas_99 : decode cX7_whatWas 99 = .ok (.iconst 1, 1) := by decide +kernel
theorem dX7_whatWas_100 : decode cX7_whatWas 100 = .ok (.if_icmp .ne 8, 3) := by decide +kernel
theorem dX7_whatWas_103 : decode cX7_whatWas 103 = .ok (.iload 5, 2) := by decide +kernel
theorem dX7_whatWas_105 : decode cX7_whatWas 105 = .ok (.goto 9, 3) := by decide +kernel
theorem dX7_whatWas_108 : decode cX7_whatWas 108 = .ok (.aload_n 0, 1) := by decide +kernel
theorem dX7_whatWas_109 : decode cX7_whatWas 109 = .ok (.getfield 13, 3) := by decide +kernel
theorem dX7_whatWas_112 : decode cX7_whatWas 112 = .ok (.iload_n 1, 1) := by decide +kernel
theorem dX7_whatWas_113 : decode cX7_whatWas 113 = .ok (.iaload, 1) := by decide +kernel
theorem dX7_whatWas_114 : decode cX7_whatWas 114 = .ok (.iastore, 1) := by decide +kernel
theorem dX7_whatWas_115 : decode cX7_whatWas 115 = .ok (.iload 4, 2) := by decide +kernel
theorem dX7_whatWas_117 : decode cX7_whatWas 117 = .ok (.aload_n 0, 1) := by decide +kernel
theorem dX7_whatWas_118 : decode cX7_whatWas 118 = .ok (.invokevirtual 303, 3) := by decide +kernel
theorem dX7_whatWas_121 : decode cX7_whatWas 121 = .ok (.ifCond .eq 10, 3) := by decide +kernel
theorem dX7_whatWas_124 : decode cX7_whatWas 124 = .ok (.iconst 1, 1) := by decide +kernel
theorem dX7_whatWas_125 : decode cX7_whatWas 125 = .ok (.iload 5, 2) := by decide +kernel
theorem dX7_whatWas_127 : decode cX7_whatWas 127 = .ok (.ishl, 1) := by decide +kernel
theorem dX7_whatWas_128 : decode cX7_whatWas 128 = .ok (.goto 4, 3) := by decide +kernel
theorem dX7_whatWas_131 : decode cX7_whatWas 131 = .ok (.iconst 0, 1) := by decide +kernel
theorem dX7_whatWas_132 : decode cX7_whatWas 132 = .ok (.ior, 1) := by decide +kernel
theorem dX7_whatWas_133 : decode cX7_whatWas 133 = .ok (.istore 4, 2) := by decide +kernel
theorem dX7_whatWas_135 : decode cX7_whatWas 135 = .ok (.iinc 5 1, 3) := by decide +kernel
theorem dX7_whatWas_138 : decode cX7_whatWas 138 = .ok (.goto (-82), 3) := by decide +kernel
theorem dX7_whatWas_141 : decode cX7_whatWas 141 = .ok (.iload 4, 2) := by decide +kernel
theorem dX7_whatWas_143 : decode cX7_whatWas 143 = .ok (.ireturn, 1) := by decide +kernel
theorem dX7_longest_0 : decode cX7_longest 0 = .ok (.aload_n 0, 1) := by decide +kernel
theorem dX7_longest_1 : decode cX7_longest 1 = .ok (.iconst 0, 1) := by decide +kernel
theorem dX7_longest_2 : decode cX7_longest 2 = .ok (.putfield 76, 3) := by decide +kernel
theorem dX7_longest_5 : decode cX7_longest 5 = .ok (.iload_n 1, 1) := by decide +kernel
theorem dX7_longest_6 : decode cX7_longest 6 = .ok (.i2l, 1) := by decide +kernel
theorem dX7_longest_7 : decode cX7_longest 7 = .ok (.lconst 0, 1) := by decide +kernel
theorem dX7_longest_8 : decode cX7_longest 8 = .ok (.ldc2_w 126, 3) := by decide +kernel
theorem dX7_longest_11 : decode cX7_longest 11 = .ok (.invokestatic 86, 3) := by decide +kernel
theorem dX7_longest_14 : decode cX7_longest 14 = .ok (.ifCond .ne 10, 3) := by decide +kernel
theorem dX7_longest_17 : decode cX7_longest 17 = .ok (.aload_n 0, 1) := by decide +kernel
theorem dX7_longest_18 : decode cX7_longest 18 = .ok (.bipush (-2), 2) := by decide +kernel
theorem dX7_longest_20 : decode cX7_longest 20 = .ok (.invokevirtual 138, 3) := by decide +kernel
theorem dX7_longest_23 : decode cX7_longest 23 = .ok (.ireturn, 1) := by decide +kernel
theorem dX7_longest_24 : decode cX7_longest 24 = .ok (.bipush (-9), 2) := by decide +kernel
theorem dX7_longest_26 : decode cX7_longest 26 = .ok (.istore_n 2, 1) := by decide +kernel
theorem dX7_longest_27 : decode cX7_longest 27 = .ok (.bipush (-9), 2) := by decide +kernel
theorem dX7_longest_29 : decode cX7_longest 29 = .ok (.istore_n 3, 1) := by decide +kernel
theorem dX7_longest_30 : decode cX7_longest 30 = .ok (.iconst 0, 1) := by decide +kernel
theorem dX7_longest_31 : decode cX7_longest 31 = .ok (.istore 4, 2) := by decide +kernel
theorem dX7_longest_33 : decode cX7_longest 33 = .ok (.iconst 0, 1) := by decide +kernel
theorem dX7_longest_34 : decode cX7_longest 34 = .ok (.istore 5, 2) := by decide +kernel
theorem dX7_longest_36 : decode cX7_longest 36 = .ok (.iload 5, 2) := by decide +kernel
theorem dX7_longest_38 : decode cX7_longest 38 = .ok (.aload_n 0, 1) := by decide +kernel
theorem dX7_longest_39 : decode cX7_longest 39 = .ok (.getfield 83, 3) := by decide +kernel
theorem dX7_longest_42 : decode cX7_longest 42 = .ok (.if_icmp .ge 185, 3) := by decide +kernel
theorem dX7_longest_45 : decode cX7_longest 45 = .ok (.iload_n 2, 1) := by decide +kernel
theorem dX7_longest_46 : decode cX7_longest 46 = .ok (.ifCond .lt 54, 3) := by decide +kernel
theorem dX7_longest_49 : decode cX7_longest 49 = .ok (.aload_n 0, 1) := by decide +kernel
theorem dX7_longest_50 : decode cX7_longest 50 = .ok (.getfield 7, 3) := by decide +kernel
theorem dX7_longest_53 : decode cX7_longest 53 = .ok (.iload 5, 2) := by decide +kernel
theorem dX7_longest_55 : decode cX7_longest 55 = .ok (.iaload, 1) := by decide +kernel
theorem dX7_longest_56 : decode cX7_longest 56 = .ok (.aload_n 0, 1) := by decide +kernel
theorem dX7_longest_57 : decode cX7_longest 57 = .ok (.getfield 13, 3) := by decide +kernel
theorem dX7_longest_60 : decode cX7_longest 60 = .ok (.iload 5, 2) := by decide +kernel
theorem dX7_longest_62 : decode cX7_longest 62 = .ok (.iaload, 1) := by decide +kernel
theorem dX7_longest_63 : decode cX7_longest 63 = .ok (.invokestatic 111, 3) := by decide +kernel
theorem dX7_longest_66 : decode cX7_longest 66 = .ok (.aload_n 0, 1) := by decide +kernel
theorem dX7_longest_67 : decode cX7_longest 67 = .ok (.getfield 7, 3) := by decide +kernel
theorem dX7_longest_70 : decode cX7_longest 70 = .ok (.iload_n 2, 1) := by decide +kernel
theorem dX7_longest_71 : decode cX7_longest 71 = .ok (.ifCond .ge 7, 3) := by decide +kernel
theorem dX7_longest_74 : decode cX7_longest 74 = .ok (.iconst 0, 1) := by decide +kernel
theorem dX7_longest_75 : decode cX7_longest 75 = .ok (.goto 4, 3) := by decide +kernel
theorem dX7_longest_78 : decode cX7_longest 78 = .ok (.iload_n 2, 1) := by decide +kernel
theorem dX7_longest_79 : decode cX7_longest 79 = .ok (.iaload, 1) := by decide +kernel
theorem dX7_longest_80 : decode cX7_longest 80 = .ok (.aload_n 0, 1) := by decide +kernel
theorem dX7_longest_81 : decode cX7_longest 81 = .ok (.getfield 13, 3) := by decide +kernel
theorem dX7_longest_84 : decode cX7_longest 84 = .ok (.iload_n 2, 1) := by decide +kernel
theorem dX7_longest_85 : decode cX7_longest 85 = .ok (.ifCond .ge 7, 3) := by decide +kernel
theorem dX7_longest_88 : decode cX7_longest 88 = .ok (.iconst 0, 1) := by decide +kernel
theorem dX7_longest_89 : decode cX7_longest 89 = .ok (.goto 4, 3) := by decide +kernel
theorem dX7_longest_92 : decode cX7_longest 92 = .ok (.iload_n 2, 1) := by decide +kernel
theorem dX7_longest_93 : decode cX7_longest 93 = .ok (.iaload, 1) := by decide +kernel
theorem dX7_longest_94 : decode cX7_longest 94 = .ok (.invokestatic 111, 3) := by decide +kernel
theorem dX7_longest_97 : decode cX7_longest 97 = .ok (.if_icmp .le 7, 3) := by decide +kernel
theorem dX7_longest_100 : decode cX7_longest 100 = .ok (.iconst 1, 1) := by decide +kernel
theorem dX7_longest_101 : decode cX7_longest 101 = .ok (.goto 4, 3) := by decide +kernel
theorem dX7_longest_104 : decode cX7_longest 104 = .ok (.iconst 0, 1) := by decide +kernel
theorem dX7_longest_105 : decode cX7_longest 105 = .ok (.istore 6, 2) := by decide +kernel
theorem dX7_longest_107 : decode cX7_longest 107 = .ok (.iload 6, 2) := by decide +kernel
theorem dX7_longest_109 : decode cX7_longest 109 = .ok (.ifCond .eq 8, 3) := by decide +kernel
theorem dX7_longest_112 : decode cX7_longest 112 = .ok (.iload 5, 2) := by decide +kernel
theorem dX7_longest_114 : decode cX7_longest 114 = .ok (.goto 4, 3) := by decide +kernel
theorem dX7_longest_117 : decode cX7_longest 117 = .ok (.iload_n 2, 1) := by decide +kernel
theorem dX7_longest_118 : decode cX7_longest 118 = .ok (.istore_n 2, 1) := by decide +kernel
theorem dX7_longest_119 : decode cX7_longest 119 = .ok (.aload_n 0, 1) := by decide +kernel
theorem dX7_longest_120 : decode cX7_longest 120 = .ok (.getfield 19, 3) := by decide +kernel
theorem dX7_longest_123 : decode cX7_longest 123 = .ok (.iload 5, 2) := by decide +kernel
theorem dX7_longest_125 : decode cX7_longest 125 = .ok (.iaload, 1) := by decide +kernel
theorem dX7_longest_126 : decode cX7_longest 126 = .ok (.ifCond .ne 34, 3) := by decide +kernel
theorem dX7_longest_129 : decode cX7_longest 129 = .ok (.iload_n 3, 1) := by decide +kernel
theorem dX7_longest_130 : decode cX7_longest 130 = .ok (.ifCond .lt 25, 3) := by decide +kernel
theorem dX7_longest_133 : decode cX7_longest 133 = .ok (.aload_n 0, 1) := by decide +kernel
theorem dX7_longest_134 : decode cX7_longest 134 = .ok (.iload 5, 2) := by decide +kernel
theorem dX7_longest_136 : decode cX7_longest 136 = .ok (.invokevirtual 225, 3) := by decide +kernel
theorem dX7_longest_139 : decode cX7_longest 139 = .ok (.aload_n 0, 1) := by decide +kernel
theorem dX7_longest_140 : decode cX7_longest 140 = .ok (.iload_n 3, 1) := by decide +kernel
theorem dX7_longest_141 : decode cX7_longest 141 = .ok (.ifCond .ge 7, 3) := by decide +kernel
theorem dX7_longest_144 : decode cX7_longest 144 = .ok (.iconst 0, 1) := by decide +kernel
theorem dX7_longest_145 : decode cX7_longest 145 = .ok (.goto 4, 3) := by decide +kernel
theorem dX7_longest_148 : decode cX7_longest 148 = .ok (.iload_n 3, 1) := by decide +kernel
theorem dX7_longest_149 : decode cX7_longest 149 = .ok (.invokevirtual 225, 3) := by decide +kernel
theorem dX7_longest_152 : decode cX7_longest 152 = .ok (.if_icmp .le 8, 3) := by decide +kernel
theorem dX7_longest_155 : decode cX7_longest 155 = .ok (.iload 5, 2) := by decide +kernel
theorem dX7_longest_157 : decode cX7_longest 157 = .ok (.goto 4, 3) := by decide +kernel
theorem dX7_longest_160 : decode cX7_longest 160 = .ok (.iload_n 3, 1) := by decide +kernel
theorem dX7_longest_161 : decode cX7_longest 161 = .ok (.istore_n 3, 1) := by decide +kernel
theorem dX7_longest_162 : decode cX7_longest 162 = .ok (.iload 5, 2) := by decide +kernel
theorem dX7_longest_164 : decode cX7_longest 164 = .ok (.iconst 1, 1) := by decide +kernel
theorem dX7_longest_165 : decode cX7_longest 165 = .ok (.iadd, 1) := by decide +kernel
theorem dX7_longest_166 : decode cX7_longest 166 = .ok (.istore 7, 2) := by decide +kernel
theorem dX7_longest_168 : decode cX7_longest 168 = .ok (.iload 7, 2) := by decide +kernel
theorem dX7_longest_170 : decode cX7_longest 170 = .ok (.aload_n 0, 1) := by decide +kernel
theorem dX7_longest_171 : decode cX7_longest 171 = .ok (.getfield 83, 3) := by decide +kernel
theorem dX7_longest_174 : decode cX7_longest 174 = .ok (.if_icmp .ge 47, 3) := by decide +kernel
theorem dX7_longest_177 : decode cX7_longest 177 = .ok (.iload 4, 2) := by decide +kernel
theorem dX7_longest_179 : decode cX7_longest 179 = .ok (.aload_n 0, 1) := by decide +kernel
theorem dX7_longest_180 : decode cX7_longest 180 = .ok (.getfield 16, 3) := by decide +kernel
theorem dX7_longest_183 : decode cX7_longest 183 = .ok (.iload 5, 2) := by decide +kernel
theorem dX7_longest_185 : decode cX7_longest 185 = .ok (.iaload, 1) := by decide +kernel
theorem dX7_longest_186 : decode cX7_longest 186 = .ok (.aload_n 0, 1) := by decide +kernel
theorem dX7_longest_187 : decode cX7_longest 187 = .ok (.getfield 16, 3) := by decide +kernel
theorem dX7_longest_190 : decode cX7_longest 190 = .ok (.iload 7, 2) := by decide +kernel
theorem dX7_longest_192 : decode cX7_longest 192 = .ok (.iaload, 1) := by decide +kernel
theorem dX7_longest_193 : decode cX7_longest 193 = .ok (.isub, 1) := by decide +kernel
theorem dX7_longest_194 : decode cX7_longest 194 = .ok (.i2l, 1) := by decide +kernel
theorem dX7_longest_195 : decode cX7_longest 195 = .ok (.ldc2_w 310, 3) := by decide +kernel
theorem dX7_longest_198 : decode cX7_longest 198 = .ok (.ldc2_w 312, 3) := by decide +kernel
theorem dX7_longest_201 : decode cX7_longest 201 = .ok (.invokestatic 86, 3) := by decide +kernel
theorem dX7_longest_204 : decode cX7_longest 204 = .ok (.ifCond .eq 7, 3) := by decide +kernel
theorem dX7_longest_207 : decode cX7_longest 207 = .ok (.iconst 1, 1) := by decide +kernel
theorem dX7_longest_208 : decode cX7_longest 208 = .ok (.goto 4, 3) := by decide +kernel
theorem dX7_longest_211 : decode cX7_longest 211 = .ok (.iconst 0, 1) := by decide +kernel
theorem dX7_longest_212 : decode cX7_longest 212 = .ok (.iadd, 1) := by decide +kernel
theorem dX7_longest_213 : decode cX7_longest 213 = .ok (.istore 4, 2) := by decide +kernel
theorem dX7_longest_215 : decode cX7_longest 215 = .ok (.iinc 7 1, 3) := by decide +kernel
theorem dX7_longest_218 : decode cX7_longest 218 = .ok (.goto (-50), 3) := by decide +kernel
theorem dX7_longest_221 : decode cX7_longest 221 = .ok (.iinc 5 1, 3) := by decide +kernel
theorem dX7_longest_224 : decode cX7_longest 224 = .ok (.goto (-188), 3) := by decide +kernel
theorem dX7_longest_227 : decode cX7_longest 227 = .ok (.iload_n 1, 1) := by decide +kernel
theorem dX7_longest_228 : decode cX7_longest 228 = .ok (.ifCond .ne 7, 3) := by decide +kernel
theorem dX7_longest_231 : decode cX7_longest 231 = .ok (.iload_n 2, 1) := by decide +kernel
theorem dX7_longest_232 : decode cX7_longest 232 = .ok (.goto 14, 3) := by decide +kernel
theorem dX7_longest_235 : decode cX7_longest 235 = .ok (.iload_n 1, 1) := by decide +kernel
theorem dX7_longest_236 : decode cX7_longest 236 = .ok (.iconst 1, 1) := by decide +kernel
theorem dX7_longest_237 : decode cX7_longest 237 = .ok (.if_icmp .ne 7, 3) := by decide +kernel
theorem dX7_longest_240 : decode cX7_longest 240 = .ok (.iload_n 3, 1) := by decide +kernel
theorem dX7_longest_241 : decode cX7_longest 241 = .ok (.goto 5, 3) := by decide +kernel
theorem dX7_longest_244 : decode cX7_longest 244 = .ok (.iload 4, 2) := by decide +kernel
theorem dX7_longest_246 : decode cX7_longest 246 = .ok (.ireturn, 1) := by decide +kernel
theorem dX7_mean_0 : decode cX7_mean 0 = .ok (.aload_n 0, 1) := by decide +kernel
theorem dX7_mean_1 : decode cX7_mean 1 = .ok (.iconst 0, 1) := by decide +kernel
theorem dX7_mean_2 : decode cX7_mean 2 = .ok (.putfield 76, 3) := by decide +kernel
theorem dX7_mean_5 : decode cX7_mean 5 = .ok (.iload_n 1, 1) := by decide +kernel
theorem dX7_mean_6 : decode cX7_mean 6 = .ok (.i2l, 1) := by decide +kernel
theorem dX7_mean_7 : decode cX7_mean 7 = .ok (.lconst 0, 1) := by decide +kernel
theorem dX7_mean_8 : decode cX7_mean 8 = .ok (.lconst 1, 1) := by decide +kernel
theorem dX7_mean_9 : decode cX7_mean 9 = .ok (.invokestatic 86, 3) := by decide +kernel
theorem dX7_mean_12 : decode cX7_mean 12 = .ok (.ifCond .ne 15, 3) := by decide +kernel
theorem dX7_mean_15 : decode cX7_mean 15 = .ok (.ldc2_w 294, 3) := by decide +kernel
theorem dX7_mean_18 : decode cX7_mean 18 = .ok (.aload_n 0, 1) := by decide +kernel
theorem dX7_mean_19 : decode cX7_mean 19 = .ok (.bipush (-2), 2) := by decide +kernel
theorem dX7_mean_21 : decode cX7_mean 21 = .ok (.invokevirtual 138, 3) := by decide +kernel
theorem dX7_mean_24 : decode cX7_mean 24 = .ok (.i2l, 1) := by decide +kernel
theorem dX7_mean_25 : decode cX7_mean 25 = .ok (.lsub, 1) := by decide +kernel
theorem dX7_mean_26 : decode cX7_mean 26 = .ok (.lreturn, 1) := by decide +kernel
theorem dX7_mean_27 : decode cX7_mean 27 = .ok (.aload_n 0, 1) := by decide +kernel
theorem dX7_mean_28 : decode cX7_mean 28 = .ok (.invokevirtual 194, 3) := by decide +kernel
theorem dX7_mean_31 : decode cX7_mean 31 = .ok (.aload_n 0, 1) := by decide +kernel
theorem dX7_mean_32 : decode cX7_mean 32 = .ok (.invokevirtual 274, 3) := by decide +kernel
theorem dX7_mean_35 : decode cX7_mean 35 = .ok (.istore_n 2, 1) := by decide +kernel
theorem dX7_mean_36 : decode cX7_mean 36 = .ok (.aload_n 0, 1) := by decide +kernel
theorem dX7_mean_37 : decode cX7_mean 37 = .ok (.invokevirtual 200, 3) := by decide +kernel
theorem dX7_mean_40 : decode cX7_mean 40 = .ok (.iload_n 2, 1) := by decide +kernel
theorem dX7_mean_41 : decode cX7_mean 41 = .ok (.i2l, 1) := by decide +kernel
theorem dX7_mean_42 : decode cX7_mean 42 = .ok (.aload_n 0, 1) := by decide +kernel
theorem dX7_mean_43 : decode cX7_mean 43 = .ok (.getfield 83, 3) := by decide +kernel
theorem dX7_mean_46 : decode cX7_mean 46 = .ok (.i2l, 1) := by decide +kernel
theorem dX7_mean_47 : decode cX7_mean 47 = .ok (.iload_n 1, 1) := by decide +kernel
theorem dX7_mean_48 : decode cX7_mean 48 = .ok (.invokestatic 296, 3) := by decide +kernel
theorem dX7_mean_51 : decode cX7_mean 51 = .ok (.lreturn, 1) := by decide +kernel
theorem dX7_early_0 : decode cX7_early 0 = .ok (.aload_n 0, 1) := by decide +kernel
theorem dX7_early_1 : decode cX7_early 1 = .ok (.iconst 0, 1) := by decide +kernel
theorem dX7_early_2 : decode cX7_early 2 = .ok (.putfield 76, 3) := by decide +kernel
theorem dX7_early_5 : decode cX7_early 5 = .ok (.iconst 0, 1) := by decide +kernel
theorem dX7_early_6 : decode cX7_early 6 = .ok (.istore_n 1, 1) := by decide +kernel
theorem dX7_early_7 : decode cX7_early 7 = .ok (.aload_n 0, 1) := by decide +kernel
theorem dX7_early_8 : decode cX7_early 8 = .ok (.invokevirtual 194, 3) := by decide +kernel
theorem dX7_early_11 : decode cX7_early 11 = .ok (.aload_n 0, 1) := by decide +kernel
theorem dX7_early_12 : decode cX7_early 12 = .ok (.invokevirtual 243, 3) := by decide +kernel
theorem dX7_early_15 : decode cX7_early 15 = .ok (.iconst 0, 1) := by decide +kernel
theorem dX7_early_16 : decode cX7_early 16 = .ok (.istore_n 2, 1) := by decide +kernel
theorem dX7_early_17 : decode cX7_early 17 = .ok (.iload_n 2, 1) := by decide +kernel
theorem dX7_early_18 : decode cX7_early 18 = .ok (.aload_n 0, 1) := by decide +kernel
theorem dX7_early_19 : decode cX7_early 19 = .ok (.getfield 83, 3) := by decide +kernel
theorem dX7_early_22 : decode cX7_early 22 = .ok (.if_icmp .ge 34, 3) := by decide +kernel
theorem dX7_early_25 : decode cX7_early 25 = .ok (.iload_n 1, 1) := by decide +kernel
theorem dX7_early_26 : decode cX7_early 26 = .ok (.aload_n 0, 1) := by decide +kernel
theorem dX7_early_27 : decode cX7_early 27 = .ok (.getfield 22, 3) := by decide +kernel
theorem dX7_early_30 : decode cX7_early 30 = .ok (.iload_n 2, 1) := by decide +kernel
theorem dX7_early_31 : decode cX7_early 31 = .ok (.iaload, 1) := by decide +kernel
theorem dX7_early_32 : decode cX7_early 32 = .ok (.aload_n 0, 1) := by decide +kernel
theorem dX7_early_33 : decode cX7_early 33 = .ok (.getfield 16, 3) := by decide +kernel
theorem dX7_early_36 : decode cX7_early 36 = .ok (.iload_n 2, 1) := by decide +kernel
theorem dX7_early_37 : decode cX7_early 37 = .ok (.iaload, 1) := by decide +kernel
theorem dX7_early_38 : decode cX7_early 38 = .ok (.if_icmp .ge 9, 3) := by decide +kernel
theorem dX7_early_41 : decode cX7_early 41 = .ok (.iconst 1, 1) := by decide +kernel
theorem dX7_early_42 : decode cX7_early 42 = .ok (.iload_n 2, 1) := by decide +kernel
theorem dX7_early_43 : decode cX7_early 43 = .ok (.ishl, 1) := by decide +kernel
theorem dX7_early_44 : decode cX7_early 44 = .ok (.goto 4, 3) := by decide +kernel
theorem dX7_early_47 : decode cX7_early 47 = .ok (.iconst 0, 1) := by decide +kernel
theorem dX7_early_48 : decode cX7_early 48 = .ok (.ior, 1) := by decide +kernel
theorem dX7_early_49 : decode cX7_early 49 = .ok (.istore_n 1, 1) := by decide +kernel
theorem dX7_early_50 : decode cX7_early 50 = .ok (.iinc 2 1, 3) := by decide +kernel
theorem dX7_early_53 : decode cX7_early 53 = .ok (.goto (-36), 3) := by decide +kernel
theorem dX7_early_56 : decode cX7_early 56 = .ok (.aload_n 0, 1) := by decide +kernel
theorem dX7_early_57 : decode cX7_early 57 = .ok (.invokevirtual 200, 3) := by decide +kernel
theorem dX7_early_60 : decode cX7_early 60 = .ok (.iload_n 1, 1) := by decide +kernel
theorem dX7_early_61 : decode cX7_early 61 = .ok (.ireturn, 1) := by decide +kernel
theorem dX7_worst_0 : decode cX7_worst 0 = .ok (.aload_n 0, 1) := by decide +kernel
theorem dX7_worst_1 : decode cX7_worst 1 = .ok (.iconst 0, 1) := by decide +kernel
theorem dX7_worst_2 : decode cX7_worst 2 = .ok (.putfield 76, 3) := by decide +kernel
theorem dX7_worst_5 : decode cX7_worst 5 = .ok (.bipush (-9), 2) := by decide +kernel
theorem dX7_worst_7 : decode cX7_worst 7 = .ok (.istore_n 1, 1) := by decide +kernel
theorem dX7_worst_8 : decode cX7_worst 8 = .ok (.iconst 0, 1) := by decide +kernel
theorem dX7_worst_9 : decode cX7_worst 9 = .ok (.istore_n 2, 1) := by decide +kernel
theorem dX7_worst_10 : decode cX7_worst 10 = .ok (.aload_n 0, 1) := by decide +kernel
theorem dX7_worst_11 : decode cX7_worst 11 = .ok (.invokevirtual 194, 3) := by decide +kernel
theorem dX7_worst_14 : decode cX7_worst 14 = .ok (.aload_n 0, 1) := by decide +kernel
theorem dX7_worst_15 : decode cX7_worst 15 = .ok (.invokevirtual 243, 3) := by decide +kernel
theorem dX7_worst_18 : decode cX7_worst 18 = .ok (.iconst 0, 1) := by decide +kernel
theorem dX7_worst_19 : decode cX7_worst 19 = .ok (.istore_n 3, 1) := by decide +kernel
theorem dX7_worst_20 : decode cX7_worst 20 = .ok (.iload_n 3, 1) := by decide +kernel
theorem dX7_worst_21 : decode cX7_worst 21 = .ok (.aload_n 0, 1) := by decide +kernel
theorem dX7_worst_22 : decode cX7_worst 22 = .ok (.getfield 83, 3) := by decide +kernel
theorem dX7_worst_25 : decode cX7_worst 25 = .ok (.if_icmp .ge 34, 3) := by decide +kernel
theorem dX7_worst_28 : decode cX7_worst 28 = .ok (.aload_n 0, 1) := by decide +kernel
theorem dX7_worst_29 : decode cX7_worst 29 = .ok (.iload_n 3, 1) := by decide +kernel
theorem dX7_worst_30 : decode cX7_worst 30 = .ok (.invokevirtual 121, 3) := by decide +kernel
theorem dX7_worst_33 : decode cX7_worst 33 = .ok (.iload_n 2, 1) := by decide +kernel
theorem dX7_worst_34 : decode cX7_worst 34 = .ok (.if_icmp .le 7, 3) := by decide +kernel
theorem dX7_worst_37 : decode cX7_worst 37 = .ok (.iload_n 3, 1) := by decide +kernel
theorem dX7_worst_38 : decode cX7_worst 38 = .ok (.goto 4, 3) := by decide +kernel
theorem dX7_worst_41 : decode cX7_worst 41 = .ok (.iload_n 1, 1) := by decide +kernel
theorem dX7_worst_42 : decode cX7_worst 42 = .ok (.istore_n 1, 1) := by decide +kernel
theorem dX7_worst_43 : decode cX7_worst 43 = .ok (.iload_n 2, 1) := by decide +kernel
theorem dX7_worst_44 : decode cX7_worst 44 = .ok (.aload_n 0, 1) := by decide +kernel
theorem dX7_worst_45 : decode cX7_worst 45 = .ok (.iload_n 3, 1) := by decide +kernel
theorem dX7_worst_46 : decode cX7_worst 46 = .ok (.invokevirtual 121, 3) := by decide +kernel
theorem dX7_worst_49 : decode cX7_worst 49 = .ok (.invokestatic 90, 3) := by decide +kernel
theorem dX7_worst_52 : decode cX7_worst 52 = .ok (.istore_n 2, 1) := by decide +kernel
theorem dX7_worst_53 : decode cX7_worst 53 = .ok (.iinc 3 1, 3) := by decide +kernel
theorem dX7_worst_56 : decode cX7_worst 56 = .ok (.goto (-36), 3) := by decide +kernel
theorem dX7_worst_59 : decode cX7_worst 59 = .ok (.aload_n 0, 1) := by decide +kernel
theorem dX7_worst_60 : decode cX7_worst 60 = .ok (.invokevirtual 200, 3) := by decide +kernel
theorem dX7_worst_63 : decode cX7_worst 63 = .ok (.iload_n 1, 1) := by decide +kernel
theorem dX7_worst_64 : decode cX7_worst 64 = .ok (.ireturn, 1) := by decide +kernel
theorem dX7_idle_0 : decode cX7_idle 0 = .ok (.aload_n 0, 1) := by decide +kernel
theorem dX7_idle_1 : decode cX7_idle 1 = .ok (.iconst 0, 1) := by decide +kernel
theorem dX7_idle_2 : decode cX7_idle 2 = .ok (.putfield 76, 3) := by decide +kernel
theorem dX7_idle_5 : decode cX7_idle 5 = .ok (.iconst 0, 1) := by decide +kernel
theorem dX7_idle_6 : decode cX7_idle 6 = .ok (.istore_n 1, 1) := by decide +kernel
theorem dX7_idle_7 : decode cX7_idle 7 = .ok (.aload_n 0, 1) := by decide +kernel
theorem dX7_idle_8 : decode cX7_idle 8 = .ok (.invokevirtual 194, 3) := by decide +kernel
theorem dX7_idle_11 : decode cX7_idle 11 = .ok (.aload_n 0, 1) := by decide +kernel
theorem dX7_idle_12 : decode cX7_idle 12 = .ok (.invokevirtual 243, 3) := by decide +kernel
theorem dX7_idle_15 : decode cX7_idle 15 = .ok (.aload_n 0, 1) := by decide +kernel
theorem dX7_idle_16 : decode cX7_idle 16 = .ok (.invokevirtual 250, 3) := by decide +kernel
theorem dX7_idle_19 : decode cX7_idle 19 = .ok (.istore_n 2, 1) := by decide +kernel
theorem dX7_idle_20 : decode cX7_idle 20 = .ok (.iconst 0, 1) := by decide +kernel
theorem dX7_idle_21 : decode cX7_idle 21 = .ok (.istore_n 3, 1) := by decide +kernel
theorem dX7_idle_22 : decode cX7_idle 22 = .ok (.iload_n 3, 1) := by decide +kernel
theorem dX7_idle_23 : decode cX7_idle 23 = .ok (.iload_n 2, 1) := by decide +kernel
theorem dX7_idle_24 : decode cX7_idle 24 = .ok (.if_icmp .ge 25, 3) := by decide +kernel
theorem dX7_idle_27 : decode cX7_idle 27 = .ok (.iload_n 1, 1) := by decide +kernel
theorem dX7_idle_28 : decode cX7_idle 28 = .ok (.aload_n 0, 1) := by decide +kernel
theorem dX7_idle_29 : decode cX7_idle 29 = .ok (.iload_n 3, 1) := by decide +kernel
theorem dX7_idle_30 : decode cX7_idle 30 = .ok (.invokevirtual 283, 3) := by decide +kernel
theorem dX7_idle_33 : decode cX7_idle 33 = .ok (.ifCond .ne 7, 3) := by decide +kernel
theorem dX7_idle_36 : decode cX7_idle 36 = .ok (.iconst 1, 1) := by decide +kernel
theorem dX7_idle_37 : decode cX7_idle 37 = .ok (.goto 4, 3) := by decide +kernel
theorem dX7_idle_40 : decode cX7_idle 40 = .ok (.iconst 0, 1) := by decide +kernel
theorem dX7_idle_41 : decode cX7_idle 41 = .ok (.iadd, 1) := by decide +kernel
theorem dX7_idle_42 : decode cX7_idle 42 = .ok (.istore_n 1, 1) := by decide +kernel
theorem dX7_idle_43 : decode cX7_idle 43 = .ok (.iinc 3 1, 3) := by decide +kernel
theorem dX7_idle_46 : decode cX7_idle 46 = .ok (.goto (-24), 3) := by decide +kernel
theorem dX7_idle_49 : decode cX7_idle 49 = .ok (.aload_n 0, 1) := by decide +kernel
theorem dX7_idle_50 : decode cX7_idle 50 = .ok (.invokevirtual 200, 3) := by decide +kernel
theorem dX7_idle_53 : decode cX7_idle 53 = .ok (.iload_n 1, 1) := by decide +kernel
theorem dX7_idle_54 : decode cX7_idle 54 = .ok (.ireturn, 1) := by decide +kernel
theorem dX7_span_0 : decode cX7_span 0 = .ok (.aload_n 0, 1) := by decide +kernel
theorem dX7_span_1 : decode cX7_span 1 = .ok (.iconst 0, 1) := by decide +kernel
theorem dX7_span_2 : decode cX7_span 2 = .ok (.putfield 76, 3) := by decide +kernel
theorem dX7_span_5 : decode cX7_span 5 = .ok (.iconst 0, 1) := by decide +kernel
theorem dX7_span_6 : decode cX7_span 6 = .ok (.istore_n 1, 1) := by decide +kernel
theorem dX7_span_7 : decode cX7_span 7 = .ok (.aload_n 0, 1) := by decide +kernel
theorem dX7_span_8 : decode cX7_span 8 = .ok (.invokevirtual 194, 3) := by decide +kernel
theorem dX7_span_11 : decode cX7_span 11 = .ok (.aload_n 0, 1) := by decide +kernel
theorem dX7_span_12 : decode cX7_span 12 = .ok (.invokevirtual 243, 3) := by decide +kernel
theorem dX7_span_15 : decode cX7_span 15 = .ok (.iconst 0, 1) := by decide +kernel
theorem dX7_span_16 : decode cX7_span 16 = .ok (.istore_n 2, 1) := by decide +kernel
theorem dX7_span_17 : decode cX7_span 17 = .ok (.iload_n 2, 1) := by decide +kernel
theorem dX7_span_18 : decode cX7_span 18 = .ok (.aload_n 0, 1) := by decide +kernel
theorem dX7_span_19 : decode cX7_span 19 = .ok (.getfield 83, 3) := by decide +kernel
theorem dX7_span_22 : decode cX7_span 22 = .ok (.if_icmp .ge 26, 3) := by decide +kernel
theorem dX7_span_25 : decode cX7_span 25 = .ok (.iload_n 1, 1) := by decide +kernel
theorem dX7_span_26 : decode cX7_span 26 = .ok (.aload_n 0, 1) := by decide +kernel
theorem dX7_span_27 : decode cX7_span 27 = .ok (.getfield 22, 3) := by decide +kernel
theorem dX7_span_30 : decode cX7_span 30 = .ok (.iload_n 2, 1) := by decide +kernel
theorem dX7_span_31 : decode cX7_span 31 = .ok (.iaload, 1) := by decide +kernel
theorem dX7_span_32 : decode cX7_span 32 = .ok (.aload_n 0, 1) := by decide +kernel
theorem dX7_span_33 : decode cX7_span 33 = .ok (.iload_n 2, 1) := by decide +kernel
theorem dX7_span_34 : decode cX7_span 34 = .ok (.invokevirtual 107, 3) := by decide +kernel
theorem dX7_span_37 : decode cX7_span 37 = .ok (.isub, 1) := by decide +kernel
theorem dX7_span_38 : decode cX7_span 38 = .ok (.invokestatic 90, 3) := by decide +kernel
theorem dX7_span_41 : decode cX7_span 41 = .ok (.istore_n 1, 1) := by decide +kernel
theorem dX7_span_42 : decode cX7_span 42 = .ok (.iinc 2 1, 3) := by decide +kernel
theorem dX7_span_45 : decode cX7_span 45 = .ok (.goto (-28), 3) := by decide +kernel
theorem dX7_span_48 : decode cX7_span 48 = .ok (.aload_n 0, 1) := by decide +kernel
theorem dX7_span_49 : decode cX7_span 49 = .ok (.invokevirtual 200, 3) := by decide +kernel
theorem dX7_span_52 : decode cX7_span 52 = .ok (.iload_n 1, 1) := by decide +kernel
theorem dX7_span_53 : decode cX7_span 53 = .ok (.ireturn, 1) := by decide +kernel
theorem dX7_swap_0 : decode cX7_swap 0 = .ok (.aload_n 0, 1) := by decide +kernel
theorem dX7_swap_1 : decode cX7_swap 1 = .ok (.iconst 0, 1) := by decide +kernel
theorem dX7_swap_2 : decode cX7_swap 2 = .ok (.putfield 76, 3) := by decide +kernel
theorem dX7_swap_5 : decode cX7_swap 5 = .ok (.bipush (-9), 2) := by decide +kernel
theorem dX7_swap_7 : decode cX7_swap 7 = .ok (.istore_n 1, 1) := by decide +kernel
theorem dX7_swap_8 : decode cX7_swap 8 = .ok (.aload_n 0, 1) := by decide +kernel
theorem dX7_swap_9 : decode cX7_swap 9 = .ok (.invokevirtual 194, 3) := by decide +kernel
theorem dX7_swap_12 : decode cX7_swap 12 = .ok (.aload_n 0, 1) := by decide +kernel
theorem dX7_swap_13 : decode cX7_swap 13 = .ok (.invokevirtual 274, 3) := by decide +kernel
theorem dX7_swap_16 : decode cX7_swap 16 = .ok (.istore_n 2, 1) := by decide +kernel
theorem dX7_swap_17 : decode cX7_swap 17 = .ok (.aload_n 0, 1) := by decide +kernel
theorem dX7_swap_18 : decode cX7_swap 18 = .ok (.invokevirtual 200, 3) := by decide +kernel
theorem dX7_swap_21 : decode cX7_swap 21 = .ok (.iconst 0, 1) := by decide +kernel
theorem dX7_swap_22 : decode cX7_swap 22 = .ok (.istore_n 3, 1) := by decide +kernel
theorem dX7_swap_23 : decode cX7_swap 23 = .ok (.iload_n 3, 1) := by decide +kernel
theorem dX7_swap_24 : decode cX7_swap 24 = .ok (.aload_n 0, 1) := by decide +kernel
theorem dX7_swap_25 : decode cX7_swap 25 = .ok (.getfield 83, 3) := by decide +kernel
theorem dX7_swap_28 : decode cX7_swap 28 = .ok (.if_icmp .ge 106, 3) := by decide +kernel
theorem dX7_swap_31 : decode cX7_swap 31 = .ok (.iload_n 3, 1) := by decide +kernel
theorem dX7_swap_32 : decode cX7_swap 32 = .ok (.iconst 1, 1) := by decide +kernel
theorem dX7_swap_33 : decode cX7_swap 33 = .ok (.iadd, 1) := by decide +kernel
theorem dX7_swap_34 : decode cX7_swap 34 = .ok (.istore 4, 2) := by decide +kernel
theorem dX7_swap_36 : decode cX7_swap 36 = .ok (.iload 4, 2) := by decide +kernel
theorem dX7_swap_38 : decode cX7_swap 38 = .ok (.aload_n 0, 1) := by decide +kernel
theorem dX7_swap_39 : decode cX7_swap 39 = .ok (.getfield 83, 3) := by decide +kernel
theorem dX7_swap_42 : decode cX7_swap 42 = .ok (.if_icmp .ge 86, 3) := by decide +kernel
theorem dX7_swap_45 : decode cX7_swap 45 = .ok (.aload_n 0, 1) := by decide +kernel
theorem dX7_swap_46 : decode cX7_swap 46 = .ok (.iload_n 3, 1) := by decide +kernel
theorem dX7_swap_47 : decode cX7_swap 47 = .ok (.invokevirtual 135, 3) := by decide +kernel
theorem dX7_swap_50 : decode cX7_swap 50 = .ok (.istore 5, 2) := by decide +kernel
theorem dX7_swap_52 : decode cX7_swap 52 = .ok (.aload_n 0, 1) := by decide +kernel
theorem dX7_swap_53 : decode cX7_swap 53 = .ok (.iload 4, 2) := by decide +kernel
theorem dX7_swap_55 : decode cX7_swap 55 = .ok (.invokevirtual 135, 3) := by decide +kernel
theorem dX7_swap_58 : decode cX7_swap 58 = .ok (.istore 6, 2) := by decide +kernel
theorem dX7_swap_60 : decode cX7_swap 60 = .ok (.iload 5, 2) := by decide +kernel
theorem dX7_swap_62 : decode cX7_swap 62 = .ok (.ifCond .lt 60, 3) := by decide +kernel
theorem dX7_swap_65 : decode cX7_swap 65 = .ok (.iload 6, 2) := by decide +kernel
theorem dX7_swap_67 : decode cX7_swap 67 = .ok (.ifCond .lt 55, 3) := by decide +kernel
theorem dX7_swap_70 : decode cX7_swap 70 = .ok (.aload_n 0, 1) := by decide +kernel
theorem dX7_swap_71 : decode cX7_swap 71 = .ok (.getfield 31, 3) := by decide +kernel
theorem dX7_swap_74 : decode cX7_swap 74 = .ok (.iload 5, 2) := by decide +kernel
theorem dX7_swap_76 : decode cX7_swap 76 = .ok (.iload 4, 2) := by decide +kernel
theorem dX7_swap_78 : decode cX7_swap 78 = .ok (.iastore, 1) := by decide +kernel
theorem dX7_swap_79 : decode cX7_swap 79 = .ok (.aload_n 0, 1) := by decide +kernel
theorem dX7_swap_80 : decode cX7_swap 80 = .ok (.getfield 31, 3) := by decide +kernel
theorem dX7_swap_83 : decode cX7_swap 83 = .ok (.iload 6, 2) := by decide +kernel
theorem dX7_swap_85 : decode cX7_swap 85 = .ok (.iload_n 3, 1) := by decide +kernel
theorem dX7_swap_86 : decode cX7_swap 86 = .ok (.iastore, 1) := by decide +kernel
theorem dX7_swap_87 : decode cX7_swap 87 = .ok (.aload_n 0, 1) := by decide +kernel
theorem dX7_swap_88 : decode cX7_swap 88 = .ok (.invokevirtual 274, 3) := by decide +kernel
theorem dX7_swap_91 : decode cX7_swap 91 = .ok (.istore 7, 2) := by decide +kernel
theorem dX7_swap_93 : decode cX7_swap 93 = .ok (.aload_n 0, 1) := by decide +kernel
theorem dX7_swap_94 : decode cX7_swap 94 = .ok (.invokevirtual 200, 3) := by decide +kernel
theorem dX7_swap_97 : decode cX7_swap 97 = .ok (.iload 7, 2) := by decide +kernel
theorem dX7_swap_99 : decode cX7_swap 99 = .ok (.iload_n 2, 1) := by decide +kernel
theorem dX7_swap_100 : decode cX7_swap 100 = .ok (.if_icmp .ge 13, 3) := by decide +kernel
theorem dX7_swap_103 : decode cX7_swap 103 = .ok (.bipush 10, 2) := by decide +kernel
theorem dX7_swap_105 : decode cX7_swap 105 = .ok (.iload_n 3, 1) := by decide +kernel
theorem dX7_swap_106 : decode cX7_swap 106 = .ok (.imul, 1) := by decide +kernel
theorem dX7_swap_107 : decode cX7_swap 107 = .ok (.iload 4, 2) := by decide +kernel
theorem dX7_swap_109 : decode cX7_swap 109 = .ok (.iadd, 1) := by decide +kernel
theorem dX7_swap_110 : decode cX7_swap 110 = .ok (.goto 4, 3) := by decide +kernel
theorem dX7_swap_113 : decode cX7_swap 113 = .ok (.iload_n 1, 1) := by decide +kernel
theorem dX7_swap_114 : decode cX7_swap 114 = .ok (.istore_n 1, 1) := by decide +kernel
theorem dX7_swap_115 : decode cX7_swap 115 = .ok (.iload_n 2, 1) := by decide +kernel
theorem dX7_swap_116 : decode cX7_swap 116 = .ok (.iload 7, 2) := by decide +kernel
theorem dX7_swap_118 : decode cX7_swap 118 = .ok (.invokestatic 97, 3) := by decide +kernel
theorem dX7_swap_121 : decode cX7_swap 121 = .ok (.istore_n 2, 1) := by decide +kernel
theorem dX7_swap_122 : decode cX7_swap 122 = .ok (.iinc 4 1, 3) := by decide +kernel
theorem dX7_swap_125 : decode cX7_swap 125 = .ok (.goto (-89), 3) := by decide +kernel
theorem dX7_swap_128 : decode cX7_swap 128 = .ok (.iinc 3 1, 3) := by decide +kernel
theorem dX7_swap_131 : decode cX7_swap 131 = .ok (.goto (-108), 3) := by decide +kernel
theorem dX7_swap_134 : decode cX7_swap 134 = .ok (.iload_n 1, 1) := by decide +kernel
theorem dX7_swap_135 : decode cX7_swap 135 = .ok (.ireturn, 1) := by decide +kernel
theorem dX7_turned_0 : decode cX7_turned 0 = .ok (.aload_n 0, 1) := by decide +kernel
theorem dX7_turned_1 : decode cX7_turned 1 = .ok (.iconst 0, 1) := by decide +kernel
theorem dX7_turned_2 : decode cX7_turned 2 = .ok (.putfield 76, 3) := by decide +kernel
theorem dX7_turned_5 : decode cX7_turned 5 = .ok (.aload_n 0, 1) := by decide +kernel
theorem dX7_turned_6 : decode cX7_turned 6 = .ok (.invokevirtual 194, 3) := by decide +kernel
theorem dX7_turned_9 : decode cX7_turned 9 = .ok (.iconst 0, 1) := by decide +kernel
theorem dX7_turned_10 : decode cX7_turned 10 = .ok (.istore_n 1, 1) := by decide +kernel
theorem dX7_turned_11 : decode cX7_turned 11 = .ok (.iload_n 1, 1) := by decide +kernel
theorem dX7_turned_12 : decode cX7_turned 12 = .ok (.aload_n 0, 1) := by decide +kernel
theorem dX7_turned_13 : decode cX7_turned 13 = .ok (.getfield 100, 3) := by decide +kernel
theorem dX7_turned_16 : decode cX7_turned 16 = .ok (.iconst 2, 1) := by decide +kernel
theorem dX7_turned_17 : decode cX7_turned 17 = .ok (.idiv, 1) := by decide +kernel
theorem dX7_turned_18 : decode cX7_turned 18 = .ok (.if_icmp .ge 49, 3) := by decide +kernel
theorem dX7_turned_21 : decode cX7_turned 21 = .ok (.aload_n 0, 1) := by decide +kernel
theorem dX7_turned_22 : decode cX7_turned 22 = .ok (.getfield 31, 3) := by decide +kernel
theorem dX7_turned_25 : decode cX7_turned 25 = .ok (.iload_n 1, 1) := by decide +kernel
theorem dX7_turned_26 : decode cX7_turned 26 = .ok (.iaload, 1) := by decide +kernel
theorem dX7_turned_27 : decode cX7_turned 27 = .ok (.istore_n 2, 1) := by decide +kernel
theorem dX7_turned_28 : decode cX7_turned 28 = .ok (.aload_n 0, 1) := by decide +kernel
theorem dX7_turned_29 : decode cX7_turned 29 = .ok (.getfield 31, 3) := by decide +kernel
theorem dX7_turned_32 : decode cX7_turned 32 = .ok (.iload_n 1, 1) := by decide +kernel
theorem dX7_turned_33 : decode cX7_turned 33 = .ok (.aload_n 0, 1) := by decide +kernel
theorem dX7_turned_34 : decode cX7_turned 34 = .ok (.getfield 31, 3) := by decide +kernel
theorem dX7_turned_37 : decode cX7_turned 37 = .ok (.aload_n 0, 1) := by decide +kernel
theorem dX7_turned_38 : decode cX7_turned 38 = .ok (.getfield 100, 3) := by decide +kernel
theorem dX7_turned_41 : decode cX7_turned 41 = .ok (.iconst 1, 1) := by decide +kernel
theorem dX7_turned_42 : decode cX7_turned 42 = .ok (.isub, 1) := by decide +kernel
theorem dX7_turned_43 : decode cX7_turned 43 = .ok (.iload_n 1, 1) := by decide +kernel
theorem dX7_turned_44 : decode cX7_turned 44 = .ok (.isub, 1) := by decide +kernel
theorem dX7_turned_45 : decode cX7_turned 45 = .ok (.iaload, 1) := by decide +kernel
theorem dX7_turned_46 : decode cX7_turned 46 = .ok (.iastore, 1) := by decide +kernel
theorem dX7_turned_47 : decode cX7_turned 47 = .ok (.aload_n 0, 1) := by decide +kernel
theorem dX7_turned_48 : decode cX7_turned 48 = .ok (.getfield 31, 3) := by decide +kernel
theorem dX7_turned_51 : decode cX7_turned 51 = .ok (.aload_n 0, 1) := by decide +kernel
theorem dX7_turned_52 : decode cX7_turned 52 = .ok (.getfield 100, 3) := by decide +kernel
theorem dX7_turned_55 : decode cX7_turned 55 = .ok (.iconst 1, 1) := by decide +kernel
theorem dX7_turned_56 : decode cX7_turned 56 = .ok (.isub, 1) := by decide +kernel
theorem dX7_turned_57 : decode cX7_turned 57 = .ok (.iload_n 1, 1) := by decide +kernel
theorem dX7_turned_58 : decode cX7_turned 58 = .ok (.isub, 1) := by decide +kernel
theorem dX7_turned_59 : decode cX7_turned 59 = .ok (.iload_n 2, 1) := by decide +kernel
theorem dX7_turned_60 : decode cX7_turned 60 = .ok (.iastore, 1) := by decide +kernel
theorem dX7_turned_61 : decode cX7_turned 61 = .ok (.iinc 1 1, 3) := by decide +kernel
theorem dX7_turned_64 : decode cX7_turned 64 = .ok (.goto (-53), 3) := by decide +kernel
theorem dX7_turned_67 : decode cX7_turned 67 = .ok (.aload_n 0, 1) := by decide +kernel
theorem dX7_turned_68 : decode cX7_turned 68 = .ok (.invokevirtual 274, 3) := by decide +kernel
theorem dX7_turned_71 : decode cX7_turned 71 = .ok (.istore_n 1, 1) := by decide +kernel
theorem dX7_turned_72 : decode cX7_turned 72 = .ok (.aload_n 0, 1) := by decide +kernel
theorem dX7_turned_73 : decode cX7_turned 73 = .ok (.invokevirtual 200, 3) := by decide +kernel
theorem dX7_turned_76 : decode cX7_turned 76 = .ok (.iload_n 1, 1) := by decide +kernel
theorem dX7_turned_77 : decode cX7_turned 77 = .ok (.ireturn, 1) := by decide +kernel
theorem dX7_unwed_0 : decode cX7_unwed 0 = .ok (.iconst 0, 1) := by decide +kernel
theorem dX7_unwed_1 : decode cX7_unwed 1 = .ok (.istore_n 1, 1) := by decide +kernel
theorem dX7_unwed_2 : decode cX7_unwed 2 = .ok (.iconst 0, 1) := by decide +kernel
theorem dX7_unwed_3 : decode cX7_unwed 3 = .ok (.istore_n 2, 1) := by decide +kernel
theorem dX7_unwed_4 : decode cX7_unwed 4 = .ok (.iload_n 2, 1) := by decide +kernel
theorem dX7_unwed_5 : decode cX7_unwed 5 = .ok (.aload_n 0, 1) := by decide +kernel
theorem dX7_unwed_6 : decode cX7_unwed 6 = .ok (.getfield 83, 3) := by decide +kernel
theorem dX7_unwed_9 : decode cX7_unwed 9 = .ok (.if_icmp .ge 28, 3) := by decide +kernel
theorem dX7_unwed_12 : decode cX7_unwed 12 = .ok (.iload_n 1, 1) := by decide +kernel
theorem dX7_unwed_13 : decode cX7_unwed 13 = .ok (.aload_n 0, 1) := by decide +kernel
theorem dX7_unwed_14 : decode cX7_unwed 14 = .ok (.getfield 19, 3) := by decide +kernel
theorem dX7_unwed_17 : decode cX7_unwed 17 = .ok (.iload_n 2, 1) := by decide +kernel
theorem dX7_unwed_18 : decode cX7_unwed 18 = .ok (.iaload, 1) := by decide +kernel
theorem dX7_unwed_19 : decode cX7_unwed 19 = .ok (.ifCond .ne 9, 3) := by decide +kernel
theorem dX7_unwed_22 : decode cX7_unwed 22 = .ok (.iconst 1, 1) := by decide +kernel
theorem dX7_unwed_23 : decode cX7_unwed 23 = .ok (.iload_n 2, 1) := by decide +kernel
theorem dX7_unwed_24 : decode cX7_unwed 24 = .ok (.ishl, 1) := by decide +kernel
theorem dX7_unwed_25 : decode cX7_unwed 25 = .ok (.goto 4, 3) := by decide +kernel
theorem dX7_unwed_28 : decode cX7_unwed 28 = .ok (.iconst 0, 1) := by decide +kernel
theorem dX7_unwed_29 : decode cX7_unwed 29 = .ok (.ior, 1) := by decide +kernel
theorem dX7_unwed_30 : decode cX7_unwed 30 = .ok (.istore_n 1, 1) := by decide +kernel
theorem dX7_unwed_31 : decode cX7_unwed 31 = .ok (.iinc 2 1, 3) := by decide +kernel
theorem dX7_unwed_34 : decode cX7_unwed 34 = .ok (.goto (-30), 3) := by decide +kernel
theorem dX7_unwed_37 : decode cX7_unwed 37 = .ok (.iload_n 1, 1) := by decide +kernel
theorem dX7_unwed_38 : decode cX7_unwed 38 = .ok (.ireturn, 1) := by decide +kernel
theorem dX7_shift_0 : decode cX7_shift 0 = .ok (.aload_n 0, 1) := by decide +kernel
theorem dX7_shift_1 : decode cX7_shift 1 = .ok (.iconst 0, 1) := by decide +kernel
theorem dX7_shift_2 : decode cX7_shift 2 = .ok (.putfield 76, 3) := by decide +kernel
theorem dX7_shift_5 : decode cX7_shift 5 = .ok (.aload_n 0, 1) := by decide +kernel
theorem dX7_shift_6 : decode cX7_shift 6 = .ok (.invokevirtual 314, 3) := by decide +kernel
theorem dX7_shift_9 : decode cX7_shift 9 = .ok (.istore_n 1, 1) := by decide +kernel
theorem dX7_shift_10 : decode cX7_shift 10 = .ok (.bipush (-9), 2) := by decide +kernel
theorem dX7_shift_12 : decode cX7_shift 12 = .ok (.istore_n 2, 1) := by decide +kernel
theorem dX7_shift_13 : decode cX7_shift 13 = .ok (.aload_n 0, 1) := by decide +kernel
theorem dX7_shift_14 : decode cX7_shift 14 = .ok (.invokevirtual 194, 3) := by decide +kernel
theorem dX7_shift_17 : decode cX7_shift 17 = .ok (.iconst 0, 1) := by decide +kernel
theorem dX7_shift_18 : decode cX7_shift 18 = .ok (.istore_n 3, 1) := by decide +kernel
theorem dX7_shift_19 : decode cX7_shift 19 = .ok (.iload_n 3, 1) := by decide +kernel
theorem dX7_shift_20 : decode cX7_shift 20 = .ok (.bipush 60, 2) := by decide +kernel
theorem dX7_shift_22 : decode cX7_shift 22 = .ok (.if_icmp .gt 126, 3) := by decide +kernel
theorem dX7_shift_25 : decode cX7_shift 25 = .ok (.iload_n 2, 1) := by decide +kernel
theorem dX7_shift_26 : decode cX7_shift 26 = .ok (.ifCond .ge 122, 3) := by decide +kernel
theorem dX7_shift_29 : decode cX7_shift 29 = .ok (.iconst 0, 1) := by decide +kernel
theorem dX7_shift_30 : decode cX7_shift 30 = .ok (.istore 4, 2) := by decide +kernel
theorem dX7_shift_32 : decode cX7_shift 32 = .ok (.iload 4, 2) := by decide +kernel
theorem dX7_shift_34 : decode cX7_shift 34 = .ok (.aload_n 0, 1) := by decide +kernel
theorem dX7_shift_35 : decode cX7_shift 35 = .ok (.getfield 83, 3) := by decide +kernel
theorem dX7_shift_38 : decode cX7_shift 38 = .ok (.if_icmp .ge 33, 3) := by decide +kernel
theorem dX7_shift_41 : decode cX7_shift 41 = .ok (.aload_n 0, 1) := by decide +kernel
theorem dX7_shift_42 : decode cX7_shift 42 = .ok (.getfield 16, 3) := by decide +kernel
theorem dX7_shift_45 : decode cX7_shift 45 = .ok (.iload 4, 2) := by decide +kernel
theorem dX7_shift_47 : decode cX7_shift 47 = .ok (.dup2, 1) := by decide +kernel
theorem dX7_shift_48 : decode cX7_shift 48 = .ok (.iaload, 1) := by decide +kernel
theorem dX7_shift_49 : decode cX7_shift 49 = .ok (.iload_n 1, 1) := by decide +kernel
theorem dX7_shift_50 : decode cX7_shift 50 = .ok (.iload 4, 2) := by decide +kernel
theorem dX7_shift_52 : decode cX7_shift 52 = .ok (.invokestatic 265, 3) := by decide +kernel
theorem dX7_shift_55 : decode cX7_shift 55 = .ok (.ifCond .eq 7, 3) := by decide +kernel
theorem dX7_shift_58 : decode cX7_shift 58 = .ok (.iload_n 3, 1) := by decide +kernel
theorem dX7_shift_59 : decode cX7_shift 59 = .ok (.goto 4, 3) := by decide +kernel
theorem dX7_shift_62 : decode cX7_shift 62 = .ok (.iconst 0, 1) := by decide +kernel
theorem dX7_shift_63 : decode cX7_shift 63 = .ok (.iadd, 1) := by decide +kernel
theorem dX7_shift_64 : decode cX7_shift 64 = .ok (.iastore, 1) := by decide +kernel
theorem dX7_shift_65 : decode cX7_shift 65 = .ok (.iinc 4 1, 3) := by decide +kernel
theorem dX7_shift_68 : decode cX7_shift 68 = .ok (.goto (-36), 3) := by decide +kernel
theorem dX7_shift_71 : decode cX7_shift 71 = .ok (.aload_n 0, 1) := by decide +kernel
theorem dX7_shift_72 : decode cX7_shift 72 = .ok (.invokevirtual 243, 3) := by decide +kernel
theorem dX7_shift_75 : decode cX7_shift 75 = .ok (.iconst 0, 1) := by decide +kernel
theorem dX7_shift_76 : decode cX7_shift 76 = .ok (.istore 4, 2) := by decide +kernel
theorem dX7_shift_78 : decode cX7_shift 78 = .ok (.iconst 0, 1) := by decide +kernel
theorem dX7_shift_79 : decode cX7_shift 79 = .ok (.istore 5, 2) := by decide +kernel
theorem dX7_shift_81 : decode cX7_shift 81 = .ok (.iload 5, 2) := by decide +kernel
theorem dX7_shift_83 : decode cX7_shift 83 = .ok (.aload_n 0, 1) := by decide +kernel
theorem dX7_shift_84 : decode cX7_shift 84 = .ok (.getfield 83, 3) := by decide +kernel
theorem dX7_shift_87 : decode cX7_shift 87 = .ok (.if_icmp .ge 39, 3) := by decide +kernel
theorem dX7_shift_90 : decode cX7_shift 90 = .ok (.iload 4, 2) := by decide +kernel
theorem dX7_shift_92 : decode cX7_shift 92 = .ok (.ifCond .ne 21, 3) := by decide +kernel
theorem dX7_shift_95 : decode cX7_shift 95 = .ok (.iload_n 1, 1) := by decide +kernel
theorem dX7_shift_96 : decode cX7_shift 96 = .ok (.iload 5, 2) := by decide +kernel
theorem dX7_shift_98 : decode cX7_shift 98 = .ok (.invokestatic 265, 3) := by decide +kernel
theorem dX7_shift_101 : decode cX7_shift 101 = .ok (.ifCond .eq 16, 3) := by decide +kernel
theorem dX7_shift_104 : decode cX7_shift 104 = .ok (.aload_n 0, 1) := by decide +kernel
theorem dX7_shift_105 : decode cX7_shift 105 = .ok (.iload 5, 2) := by decide +kernel
theorem dX7_shift_107 : decode cX7_shift 107 = .ok (.invokevirtual 121, 3) := by decide +kernel
theorem dX7_shift_110 : decode cX7_shift 110 = .ok (.ifCond .le 7, 3) := by decide +kernel
theorem dX7_shift_113 : decode cX7_shift 113 = .ok (.iconst 1, 1) := by decide +kernel
theorem dX7_shift_114 : decode cX7_shift 114 = .ok (.goto 4, 3) := by decide +kernel
theorem dX7_shift_117 : decode cX7_shift 117 = .ok (.iconst 0, 1) := by decide +kernel
theorem dX7_shift_118 : decode cX7_shift 118 = .ok (.istore 4, 2) := by decide +kernel
theorem dX7_shift_120 : decode cX7_shift 120 = .ok (.iinc 5 1, 3) := by decide +kernel
theorem dX7_shift_123 : decode cX7_shift 123 = .ok (.goto (-42), 3) := by decide +kernel
theorem dX7_shift_126 : decode cX7_shift 126 = .ok (.iload 4, 2) := by decide +kernel
theorem dX7_shift_128 : decode cX7_shift 128 = .ok (.ifCond .eq 8, 3) := by decide +kernel
theorem dX7_shift_131 : decode cX7_shift 131 = .ok (.bipush (-9), 2) := by decide +kernel
theorem dX7_shift_133 : decode cX7_shift 133 = .ok (.goto 4, 3) := by decide +kernel
theorem dX7_shift_136 : decode cX7_shift 136 = .ok (.iload_n 3, 1) := by decide +kernel
theorem dX7_shift_137 : decode cX7_shift 137 = .ok (.istore_n 2, 1) := by decide +kernel
theorem dX7_shift_138 : decode cX7_shift 138 = .ok (.aload_n 0, 1) := by decide +kernel
theorem dX7_shift_139 : decode cX7_shift 139 = .ok (.invokevirtual 200, 3) := by decide +kernel
theorem dX7_shift_142 : decode cX7_shift 142 = .ok (.iinc 3 1, 3) := by decide +kernel
theorem dX7_shift_145 : decode cX7_shift 145 = .ok (.goto (-126), 3) := by decide +kernel
theorem dX7_shift_148 : decode cX7_shift 148 = .ok (.iload_n 2, 1) := by decide +kernel
theorem dX7_shift_149 : decode cX7_shift 149 = .ok (.ireturn, 1) := by decide +kernel
theorem dX7_row_0 : decode cX7_row 0 = .ok (.aload_n 0, 1) := by decide +kernel
theorem dX7_row_1 : decode cX7_row 1 = .ok (.iconst 0, 1) := by decide +kernel
theorem dX7_row_2 : decode cX7_row 2 = .ok (.putfield 76, 3) := by decide +kernel
theorem dX7_row_5 : decode cX7_row 5 = .ok (.iload_n 1, 1) := by decide +kernel
theorem dX7_row_6 : decode cX7_row 6 = .ok (.ifCond .ge 10, 3) := by decide +kernel
theorem dX7_row_9 : decode cX7_row 9 = .ok (.aload_n 0, 1) := by decide +kernel
theorem dX7_row_10 : decode cX7_row 10 = .ok (.bipush (-4), 2) := by decide +kernel
theorem dX7_row_12 : decode cX7_row 12 = .ok (.invokevirtual 138, 3) := by decide +kernel
theorem dX7_row_15 : decode cX7_row 15 = .ok (.ireturn, 1) := by decide +kernel
theorem dX7_row_16 : decode cX7_row 16 = .ok (.iload_n 1, 1) := by decide +kernel
theorem dX7_row_17 : decode cX7_row 17 = .ok (.sipush 999, 3) := by decide +kernel
theorem dX7_row_20 : decode cX7_row 20 = .ok (.if_icmp .gt 12, 3) := by decide +kernel
theorem dX7_row_23 : decode cX7_row 23 = .ok (.aload_n 0, 1) := by decide +kernel
theorem dX7_row_24 : decode cX7_row 24 = .ok (.getfield 300, 3) := by decide +kernel
theorem dX7_row_27 : decode cX7_row 27 = .ok (.bipush 12, 2) := by decide +kernel
theorem dX7_row_29 : decode cX7_row 29 = .ok (.if_icmp .ne 10, 3) := by decide +kernel
theorem dX7_row_32 : decode cX7_row 32 = .ok (.aload_n 0, 1) := by decide +kernel
theorem dX7_row_33 : decode cX7_row 33 = .ok (.bipush (-6), 2) := by decide +kernel
theorem dX7_row_35 : decode cX7_row 35 = .ok (.invokevirtual 138, 3) := by decide +kernel
theorem dX7_row_38 : decode cX7_row 38 = .ok (.ireturn, 1) := by decide +kernel
theorem dX7_row_39 : decode cX7_row 39 = .ok (.aload_n 0, 1) := by decide +kernel
theorem dX7_row_40 : decode cX7_row 40 = .ok (.getfield 73, 3) := by decide +kernel
theorem dX7_row_43 : decode cX7_row 43 = .ok (.aload_n 0, 1) := by decide +kernel
theorem dX7_row_44 : decode cX7_row 44 = .ok (.getfield 300, 3) := by decide +kernel
theorem dX7_row_47 : decode cX7_row 47 = .ok (.iload_n 1, 1) := by decide +kernel
theorem dX7_row_48 : decode cX7_row 48 = .ok (.iastore, 1) := by decide +kernel
theorem dX7_row_49 : decode cX7_row 49 = .ok (.aload_n 0, 1) := by decide +kernel
theorem dX7_row_50 : decode cX7_row 50 = .ok (.dup, 1) := by decide +kernel
theorem dX7_row_51 : decode cX7_row 51 = .ok (.getfield 300, 3) := by decide +kernel
theorem dX7_row_54 : decode cX7_row 54 = .ok (.iconst 1, 1) := by decide +kernel
theorem dX7_row_55 : decode cX7_row 55 = .ok (.iadd, 1) := by decide +kernel
theorem dX7_row_56 : decode cX7_row 56 = .ok (.putfield 300, 3) := by decide +kernel
theorem dX7_row_59 : decode cX7_row 59 = .ok (.aload_n 0, 1) := by decide +kernel
theorem dX7_row_60 : decode cX7_row 60 = .ok (.getfield 300, 3) := by decide +kernel
theorem dX7_row_63 : decode cX7_row 63 = .ok (.ireturn, 1) := by decide +kernel
theorem dX7_judge_0 : decode cX7_judge 0 = .ok (.aload_n 0, 1) := by decide +kernel
theorem dX7_judge_1 : decode cX7_judge 1 = .ok (.iconst 0, 1) := by decide +kernel
theorem dX7_judge_2 : decode cX7_judge 2 = .ok (.putfield 76, 3) := by decide +kernel
theorem dX7_judge_5 : decode cX7_judge 5 = .ok (.aload_n 0, 1) := by decide +kernel
theorem dX7_judge_6 : decode cX7_judge 6 = .ok (.getfield 300, 3) := by decide +kernel
theorem dX7_judge_9 : decode cX7_judge 9 = .ok (.istore_n 1, 1) := by decide +kernel
theorem dX7_judge_10 : decode cX7_judge 10 = .ok (.aload_n 0, 1) := by decide +kernel
theorem dX7_judge_11 : decode cX7_judge 11 = .ok (.iconst 0, 1) := by decide +kernel
theorem dX7_judge_12 : decode cX7_judge 12 = .ok (.putfield 300, 3) := by decide +kernel
theorem dX7_judge_15 : decode cX7_judge 15 = .ok (.bipush (-9), 2) := by decide +kernel
theorem dX7_judge_17 : decode cX7_judge 17 = .ok (.istore_n 2, 1) := by decide +kernel
theorem dX7_judge_18 : decode cX7_judge 18 = .ok (.aload_n 0, 1) := by decide +kernel
theorem dX7_judge_19 : decode cX7_judge 19 = .ok (.invokevirtual 194, 3) := by decide +kernel
theorem dX7_judge_22 : decode cX7_judge 22 = .ok (.aload_n 0, 1) := by decide +kernel
theorem dX7_judge_23 : decode cX7_judge 23 = .ok (.invokevirtual 243, 3) := by decide +kernel
theorem dX7_judge_26 : decode cX7_judge 26 = .ok (.iload_n 1, 1) := by decide +kernel
theorem dX7_judge_27 : decode cX7_judge 27 = .ok (.iconst 1, 1) := by decide +kernel
theorem dX7_judge_28 : decode cX7_judge 28 = .ok (.isub, 1) := by decide +kernel
theorem dX7_judge_29 : decode cX7_judge 29 = .ok (.istore_n 3, 1) := by decide +kernel
theorem dX7_judge_30 : decode cX7_judge 30 = .ok (.iload_n 3, 1) := by decide +kernel
theorem dX7_judge_31 : decode cX7_judge 31 = .ok (.ifCond .lt 50, 3) := by decide +kernel
theorem dX7_judge_34 : decode cX7_judge 34 = .ok (.iload_n 3, 1) := by decide +kernel
theorem dX7_judge_35 : decode cX7_judge 35 = .ok (.aload_n 0, 1) := by decide +kernel
theorem dX7_judge_36 : decode cX7_judge 36 = .ok (.getfield 83, 3) := by decide +kernel
theorem dX7_judge_39 : decode cX7_judge 39 = .ok (.if_icmp .ge 30, 3) := by decide +kernel
theorem dX7_judge_42 : decode cX7_judge 42 = .ok (.aload_n 0, 1) := by decide +kernel
theorem dX7_judge_43 : decode cX7_judge 43 = .ok (.getfield 73, 3) := by decide +kernel
theorem dX7_judge_46 : decode cX7_judge 46 = .ok (.iload_n 3, 1) := by decide +kernel
theorem dX7_judge_47 : decode cX7_judge 47 = .ok (.iaload, 1) := by decide +kernel
theorem dX7_judge_48 : decode cX7_judge 48 = .ok (.aload_n 0, 1) := by decide +kernel
theorem dX7_judge_49 : decode cX7_judge 49 = .ok (.getfield 22, 3) := by decide +kernel
theorem dX7_judge_52 : decode cX7_judge 52 = .ok (.iload_n 3, 1) := by decide +kernel
theorem dX7_judge_53 : decode cX7_judge 53 = .ok (.aload_n 0, 1) := by decide +kernel
theorem dX7_judge_54 : decode cX7_judge 54 = .ok (.getfield 83, 3) := by decide +kernel
theorem dX7_judge_57 : decode cX7_judge 57 = .ok (.if_icmp .ge 7, 3) := by decide +kernel
theorem dX7_judge_60 : decode cX7_judge 60 = .ok (.iload_n 3, 1) := by decide +kernel
theorem dX7_judge_61 : decode cX7_judge 61 = .ok (.goto 4, 3) := by decide +kernel
theorem dX7_judge_64 : decode cX7_judge 64 = .ok (.iconst 0, 1) := by decide +kernel
theorem dX7_judge_65 : decode cX7_judge 65 = .ok (.iaload, 1) := by decide +kernel
theorem dX7_judge_66 : decode cX7_judge 66 = .ok (.if_icmp .eq 7, 3) := by decide +kernel
theorem dX7_judge_69 : decode cX7_judge 69 = .ok (.iload_n 3, 1) := by decide +kernel
theorem dX7_judge_70 : decode cX7_judge 70 = .ok (.goto 4, 3) := by decide +kernel
theorem dX7_judge_73 : decode cX7_judge 73 = .ok (.iload_n 2, 1) := by decide +kernel
theorem dX7_judge_74 : decode cX7_judge 74 = .ok (.istore_n 2, 1) := by decide +kernel
theorem dX7_judge_75 : decode cX7_judge 75 = .ok (.iinc 3 (-1), 3) := by decide +kernel
theorem dX7_judge_78 : decode cX7_judge 78 = .ok (.goto (-48), 3) := by decide +kernel
theorem dX7_judge_81 : decode cX7_judge 81 = .ok (.aload_n 0, 1) := by decide +kernel
theorem dX7_judge_82 : decode cX7_judge 82 = .ok (.invokevirtual 200, 3) := by decide +kernel
theorem dX7_judge_85 : decode cX7_judge 85 = .ok (.iload_n 2, 1) := by decide +kernel
theorem dX7_judge_86 : decode cX7_judge 86 = .ok (.ireturn, 1) := by decide +kernel
theorem dX7_clear_0 : decode cX7_clear 0 = .ok (.aload_n 0, 1) := by decide +kernel
theorem dX7_clear_1 : decode cX7_clear 1 = .ok (.iconst 0, 1) := by decide +kernel
theorem dX7_clear_2 : decode cX7_clear 2 = .ok (.putfield 76, 3) := by decide +kernel
theorem dX7_clear_5 : decode cX7_clear 5 = .ok (.aload_n 0, 1) := by decide +kernel
theorem dX7_clear_6 : decode cX7_clear 6 = .ok (.getfield 300, 3) := by decide +kernel
theorem dX7_clear_9 : decode cX7_clear 9 = .ok (.istore_n 1, 1) := by decide +kernel
theorem dX7_clear_10 : decode cX7_clear 10 = .ok (.aload_n 0, 1) := by decide +kernel
theorem dX7_clear_11 : decode cX7_clear 11 = .ok (.iconst 0, 1) := by decide +kernel
theorem dX7_clear_12 : decode cX7_clear 12 = .ok (.putfield 300, 3) := by decide +kernel
theorem dX7_clear_15 : decode cX7_clear 15 = .ok (.iload_n 1, 1) := by decide +kernel
theorem dX7_clear_16 : decode cX7_clear 16 = .ok (.ireturn, 1) := by decide +kernel
theorem dX7_drawBelow_0 : decode cX7_drawBelow 0 = .ok (.aload_n 0, 1) := by decide +kernel
theorem dX7_drawBelow_1 : decode cX7_drawBelow 1 = .ok (.aload_n 0, 1) := by decide +kernel
theorem dX7_drawBelow_2 : decode cX7_drawBelow 2 = .ok (.getfield 317, 3) := by decide +kernel
theorem dX7_drawBelow_5 : decode cX7_drawBelow 5 = .ok (.ldc_w 320, 3) := by decide +kernel
theorem dX7_drawBelow_8 : decode cX7_drawBelow 8 = .ok (.imul, 1) := by decide +kernel
theorem dX7_drawBelow_9 : decode cX7_drawBelow 9 = .ok (.sipush 12345, 3) := by decide +kernel
theorem dX7_drawBelow_12 : decode cX7_drawBelow 12 = .ok (.iadd, 1) := by decide +kernel
theorem dX7_drawBelow_13 : decode cX7_drawBelow 13 = .ok (.putfield 317, 3) := by decide +kernel
theorem dX7_drawBelow_16 : decode cX7_drawBelow 16 = .ok (.aload_n 0, 1) := by decide +kernel
theorem dX7_drawBelow_17 : decode cX7_drawBelow 17 = .ok (.getfield 317, 3) := by decide +kernel
theorem dX7_drawBelow_20 : decode cX7_drawBelow 20 = .ok (.ldc_w 321, 3) := by decide +kernel
theorem dX7_drawBelow_23 : decode cX7_drawBelow 23 = .ok (.iand, 1) := by decide +kernel
theorem dX7_drawBelow_24 : decode cX7_drawBelow 24 = .ok (.ldc_w 322, 3) := by decide +kernel
theorem dX7_drawBelow_27 : decode cX7_drawBelow 27 = .ok (.idiv, 1) := by decide +kernel
theorem dX7_drawBelow_28 : decode cX7_drawBelow 28 = .ok (.iload_n 1, 1) := by decide +kernel
theorem dX7_drawBelow_29 : decode cX7_drawBelow 29 = .ok (.irem, 1) := by decide +kernel
theorem dX7_drawBelow_30 : decode cX7_drawBelow 30 = .ok (.ireturn, 1) := by decide +kernel
theorem dX7_lots_0 : decode cX7_lots 0 = .ok (.aload_n 0, 1) := by decide +kernel
theorem dX7_lots_1 : decode cX7_lots 1 = .ok (.iconst 0, 1) := by decide +kernel
theorem dX7_lots_2 : decode cX7_lots 2 = .ok (.putfield 76, 3) := by decide +kernel
theorem dX7_lots_5 : decode cX7_lots 5 = .ok (.iload_n 1, 1) := by decide +kernel
theorem dX7_lots_6 : decode cX7_lots 6 = .ok (.iconst 1, 1) := by decide +kernel
theorem dX7_lots_7 : decode cX7_lots 7 = .ok (.bipush 20, 2) := by decide +kernel
theorem dX7_lots_9 : decode cX7_lots 9 = .ok (.invokestatic 233, 3) := by decide +kernel
theorem dX7_lots_12 : decode cX7_lots 12 = .ok (.iload_n 3, 1) := by decide +kernel
theorem dX7_lots_13 : decode cX7_lots 13 = .ok (.iconst 1, 1) := by decide +kernel
theorem dX7_lots_14 : decode cX7_lots 14 = .ok (.invokestatic 240, 3) := by decide +kernel
theorem dX7_lots_17 : decode cX7_lots 17 = .ok (.istore 4, 2) := by decide +kernel
theorem dX7_lots_19 : decode cX7_lots 19 = .ok (.iload 4, 2) := by decide +kernel
theorem dX7_lots_21 : decode cX7_lots 21 = .ok (.ifCond .ge 10, 3) := by decide +kernel
theorem dX7_lots_24 : decode cX7_lots 24 = .ok (.aload_n 0, 1) := by decide +kernel
theorem dX7_lots_25 : decode cX7_lots 25 = .ok (.iload 4, 2) := by decide +kernel
theorem dX7_lots_27 : decode cX7_lots 27 = .ok (.invokevirtual 138, 3) := by decide +kernel
theorem dX7_lots_30 : decode cX7_lots 30 = .ok (.ireturn, 1) := by decide +kernel
theorem dX7_lots_31 : decode cX7_lots 31 = .ok (.aload_n 0, 1) := by decide +kernel
theorem dX7_lots_32 : decode cX7_lots 32 = .ok (.iload_n 2, 1) := by decide +kernel
theorem dX7_lots_33 : decode cX7_lots 33 = .ok (.putfield 317, 3) := by decide +kernel
theorem dX7_lots_36 : decode cX7_lots 36 = .ok (.iconst 0, 1) := by decide +kernel
theorem dX7_lots_37 : decode cX7_lots 37 = .ok (.istore 5, 2) := by decide +kernel
theorem dX7_lots_39 : decode cX7_lots 39 = .ok (.aload_n 0, 1) := by decide +kernel
theorem dX7_lots_40 : decode cX7_lots 40 = .ok (.invokevirtual 194, 3) := by decide +kernel
theorem dX7_lots_43 : decode cX7_lots 43 = .ok (.iconst 0, 1) := by decide +kernel
theorem dX7_lots_44 : decode cX7_lots 44 = .ok (.istore 6, 2) := by decide +kernel
theorem dX7_lots_46 : decode cX7_lots 46 = .ok (.iload 6, 2) := by decide +kernel
theorem dX7_lots_48 : decode cX7_lots 48 = .ok (.iload_n 1, 1) := by decide +kernel
theorem dX7_lots_49 : decode cX7_lots 49 = .ok (.if_icmp .ge 88, 3) := by decide +kernel
theorem dX7_lots_52 : decode cX7_lots 52 = .ok (.iconst 0, 1) := by decide +kernel
theorem dX7_lots_53 : decode cX7_lots 53 = .ok (.istore 7, 2) := by decide +kernel
theorem dX7_lots_55 : decode cX7_lots 55 = .ok (.iload 7, 2) := by decide +kernel
theorem dX7_lots_57 : decode cX7_lots 57 = .ok (.aload_n 0, 1) := by decide +kernel
theorem dX7_lots_58 : decode cX7_lots 58 = .ok (.getfield 83, 3) := by decide +kernel
theorem dX7_lots_61 : decode cX7_lots 61 = .ok (.if_icmp .ge 42, 3) := by decide +kernel
theorem dX7_lots_64 : decode cX7_lots 64 = .ok (.aload_n 0, 1) := by decide +kernel
theorem dX7_lots_65 : decode cX7_lots 65 = .ok (.getfield 13, 3) := by decide +kernel
theorem dX7_lots_68 : decode cX7_lots 68 = .ok (.iload 7, 2) := by decide +kernel
theorem dX7_lots_70 : decode cX7_lots 70 = .ok (.aload_n 0, 1) := by decide +kernel
theorem dX7_lots_71 : decode cX7_lots 71 = .ok (.getfield 19, 3) := by decide +kernel
theorem dX7_lots_74 : decode cX7_lots 74 = .ok (.iload 7, 2) := by decide +kernel
theorem dX7_lots_76 : decode cX7_lots 76 = .ok (.iaload, 1) := by decide +kernel
theorem dX7_lots_77 : decode cX7_lots 77 = .ok (.ifCond .ne 12, 3) := by decide +kernel
theorem dX7_lots_80 : decode cX7_lots 80 = .ok (.aload_n 0, 1) := by decide +kernel
theorem dX7_lots_81 : decode cX7_lots 81 = .ok (.bipush 10, 2) := by decide +kernel
theorem dX7_lots_83 : decode cX7_lots 83 = .ok (.invokevirtual 323, 3) := by decide +kernel
theorem dX7_lots_86 : decode cX7_lots 86 = .ok (.goto 10, 3) := by decide +kernel
theorem dX7_lots_89 : decode cX7_lots 89 = .ok (.aload_n 0, 1) := by decide +kernel
theorem dX7_lots_90 : decode cX7_lots 90 = .ok (.getfield 13, 3) := by decide +kernel
theorem dX7_lots_93 : decode cX7_lots 93 = .ok (.iload 7, 2) := by decide +kernel
theorem dX7_lots_95 : decode cX7_lots 95 = .ok (.iaload, 1) := by decide +kernel
theorem dX7_lots_96 : decode cX7_lots 96 = .ok (.iastore, 1) := by decide +kernel
theorem dX7_lots_97 : decode cX7_lots 97 = .ok (.iinc 7 1, 3) := by decide +kernel
theorem dX7_lots_100 : decode cX7_lots 100 = .ok (.goto (-45), 3) := by decide +kernel
theorem dX7_lots_103 : decode cX7_lots 103 = .ok (.aload_n 0, 1) := by decide +kernel
theorem dX7_lots_104 : decode cX7_lots 104 = .ok (.invokevirtual 274, 3) := by decide +kernel
theorem dX7_lots_107 : decode cX7_lots 107 = .ok (.istore 7, 2) := by decide +kernel
theorem dX7_lots_109 : decode cX7_lots 109 = .ok (.iload 5, 2) := by decide +kernel
theorem dX7_lots_111 : decode cX7_lots 111 = .ok (.iload_n 3, 1) := by decide +kernel
theorem dX7_lots_112 : decode cX7_lots 112 = .ok (.ifCond .ne 8, 3) := by decide +kernel
theorem dX7_lots_115 : decode cX7_lots 115 = .ok (.iload 7, 2) := by decide +kernel
theorem dX7_lots_117 : decode cX7_lots 117 = .ok (.goto 7, 3) := by decide +kernel
theorem dX7_lots_120 : decode cX7_lots 120 = .ok (.aload_n 0, 1) := by decide +kernel
theorem dX7_lots_121 : decode cX7_lots 121 = .ok (.invokevirtual 253, 3) := by decide +kernel
theorem dX7_lots_124 : decode cX7_lots 124 = .ok (.iadd, 1) := by decide +kernel
theorem dX7_lots_125 : decode cX7_lots 125 = .ok (.istore 5, 2) := by decide +kernel
theorem dX7_lots_127 : decode cX7_lots 127 = .ok (.aload_n 0, 1) := by decide +kernel
theorem dX7_lots_128 : decode cX7_lots 128 = .ok (.invokevirtual 200, 3) := by decide +kernel
theorem dX7_lots_131 : decode cX7_lots 131 = .ok (.iinc 6 1, 3) := by decide +kernel
theorem dX7_lots_134 : decode cX7_lots 134 = .ok (.goto (-88), 3) := by decide +kernel
theorem dX7_lots_137 : decode cX7_lots 137 = .ok (.iload 5, 2) := by decide +kernel
theorem dX7_lots_139 : decode cX7_lots 139 = .ok (.ireturn, 1) := by decide +kernel
theorem dX7_count_0 : decode cX7_count 0 = .ok (.aload_n 0, 1) := by decide +kernel
theorem dX7_count_1 : decode cX7_count 1 = .ok (.iconst 0, 1) := by decide +kernel
theorem dX7_count_2 : decode cX7_count 2 = .ok (.putfield 76, 3) := by decide +kernel
theorem dX7_count_5 : decode cX7_count 5 = .ok (.iload_n 1, 1) := by decide +kernel
theorem dX7_count_6 : decode cX7_count 6 = .ok (.tableswitch 104 0 8 #[50, 55, 60, 74, 79, 84, 89, 94, 99], 50) := by decide +kernel
theorem dX7_count_56 : decode cX7_count 56 = .ok (.aload_n 0, 1) := by decide +kernel
theorem dX7_count_57 : decode cX7_count 57 = .ok (.getfield 83, 3) := by decide +kernel
theorem dX7_count_60 : decode cX7_count 60 = .ok (.ireturn, 1) := by decide +kernel
theorem dX7_count_61 : decode cX7_count 61 = .ok (.aload_n 0, 1) := by decide +kernel
theorem dX7_count_62 : decode cX7_count 62 = .ok (.getfield 100, 3) := by decide +kernel
theorem dX7_count_65 : decode cX7_count 65 = .ok (.ireturn, 1) := by decide +kernel
theorem dX7_count_66 : decode cX7_count 66 = .ok (.iconst 1, 1) := by decide +kernel
theorem dX7_count_67 : decode cX7_count 67 = .ok (.aload_n 0, 1) := by decide +kernel
theorem dX7_count_68 : decode cX7_count 68 = .ok (.getfield 83, 3) := by decide +kernel
theorem dX7_count_71 : decode cX7_count 71 = .ok (.ishl, 1) := by decide +kernel
theorem dX7_count_72 : decode cX7_count 72 = .ok (.iconst 1, 1) := by decide +kernel
theorem dX7_count_73 : decode cX7_count 73 = .ok (.isub, 1) := by decide +kernel
theorem dX7_count_74 : decode cX7_count 74 = .ok (.aload_n 0, 1) := by decide +kernel
theorem dX7_count_75 : decode cX7_count 75 = .ok (.invokevirtual 314, 3) := by decide +kernel
theorem dX7_count_78 : decode cX7_count 78 = .ok (.isub, 1) := by decide +kernel
theorem dX7_count_79 : decode cX7_count 79 = .ok (.ireturn, 1) := by decide +kernel
theorem dX7_count_80 : decode cX7_count 80 = .ok (.aload_n 0, 1) := by decide +kernel
theorem dX7_count_81 : decode cX7_count 81 = .ok (.getfield 80, 3) := by decide +kernel
theorem dX7_count_84 : decode cX7_count 84 = .ok (.ireturn, 1) := by decide +kernel
theorem dX7_count_85 : decode cX7_count 85 = .ok (.aload_n 0, 1) := by decide +kernel
theorem dX7_count_86 : decode cX7_count 86 = .ok (.getfield 94, 3) := by decide +kernel
theorem dX7_count_89 : decode cX7_count 89 = .ok (.ireturn, 1) := by decide +kernel
theorem dX7_count_90 : decode cX7_count 90 = .ok (.aload_n 0, 1) := by decide +kernel
theorem dX7_count_91 : decode cX7_count 91 = .ok (.getfield 114, 3) := by decide +kernel
theorem dX7_count_94 : decode cX7_count 94 = .ok (.ireturn, 1) := by decide +kernel
theorem dX7_count_95 : decode cX7_count 95 = .ok (.aload_n 0, 1) := by decide +kernel
theorem dX7_count_96 : decode cX7_count 96 = .ok (.getfield 141, 3) := by decide +kernel
theorem dX7_count_99 : decode cX7_count 99 = .ok (.ireturn, 1) := by decide +kernel
theorem dX7_count_100 : decode cX7_count 100 = .ok (.aload_n 0, 1) := by decide +kernel
theorem dX7_count_101 : decode cX7_count 101 = .ok (.getfield 300, 3) := by decide +kernel
theorem dX7_count_104 : decode cX7_count 104 = .ok (.ireturn, 1) := by decide +kernel
theorem dX7_count_105 : decode cX7_count 105 = .ok (.aload_n 0, 1) := by decide +kernel
theorem dX7_count_106 : decode cX7_count 106 = .ok (.getfield 203, 3) := by decide +kernel
theorem dX7_count_109 : decode cX7_count 109 = .ok (.ireturn, 1) := by decide +kernel
theorem dX7_count_110 : decode cX7_count 110 = .ok (.iload_n 1, 1) := by decide +kernel
theorem dX7_count_111 : decode cX7_count 111 = .ok (.i2l, 1) := by decide +kernel
theorem dX7_count_112 : decode cX7_count 112 = .ok (.ldc2_w 326, 3) := by decide +kernel
theorem dX7_count_115 : decode cX7_count 115 = .ok (.ldc2_w 328, 3) := by decide +kernel
theorem dX7_count_118 : decode cX7_count 118 = .ok (.invokestatic 86, 3) := by decide +kernel
theorem dX7_count_121 : decode cX7_count 121 = .ok (.ifCond .eq 15, 3) := by decide +kernel
theorem dX7_count_124 : decode cX7_count 124 = .ok (.aload_n 0, 1) := by decide +kernel
theorem dX7_count_125 : decode cX7_count 125 = .ok (.getfield 37, 3) := by decide +kernel
theorem dX7_count_128 : decode cX7_count 128 = .ok (.iload_n 1, 1) := by decide +kernel
theorem dX7_count_129 : decode cX7_count 129 = .ok (.bipush 10, 2) := by decide +kernel
theorem dX7_count_131 : decode cX7_count 131 = .ok (.isub, 1) := by decide +kernel
theorem dX7_count_132 : decode cX7_count 132 = .ok (.iaload, 1) := by decide +kernel
theorem dX7_count_133 : decode cX7_count 133 = .ok (.goto 5, 3) := by decide +kernel
theorem dX7_count_136 : decode cX7_count 136 = .ok (.bipush (-9), 2) := by decide +kernel
theorem dX7_count_138 : decode cX7_count 138 = .ok (.ireturn, 1) := by decide +kernel
theorem dJ6_bitCount_0f7a4_0 : decode cJ6_bitCount_0f7a4 0 = .ok (.iload_n 0, 1) := by decide +kernel
theorem dJ6_bitCount_0f7a4_1 : decode cJ6_bitCount_0f7a4 1 = .ok (.iload_n 0, 1) := by decide +kernel
theorem dJ6_bitCount_0f7a4_2 : decode cJ6_bitCount_0f7a4 2 = .ok (.iconst 1, 1) := by decide +kernel
theorem dJ6_bitCount_0f7a4_3 : decode cJ6_bitCount_0f7a4 3 = .ok (.iushr, 1) := by decide +kernel
theorem dJ6_bitCount_0f7a4_4 : decode cJ6_bitCount_0f7a4 4 = .ok (.ldc_w 265, 3) := by decide +kernel
theorem dJ6_bitCount_0f7a4_7 : decode cJ6_bitCount_0f7a4 7 = .ok (.iand, 1) := by decide +kernel
theorem dJ6_bitCount_0f7a4_8 : decode cJ6_bitCount_0f7a4 8 = .ok (.isub, 1) := by decide +kernel
theorem dJ6_bitCount_0f7a4_9 : decode cJ6_bitCount_0f7a4 9 = .ok (.istore_n 0, 1) := by decide +kernel
theorem dJ6_bitCount_0f7a4_10 : decode cJ6_bitCount_0f7a4 10 = .ok (.iload_n 0, 1) := by decide +kernel
theorem dJ6_bitCount_0f7a4_11 : decode cJ6_bitCount_0f7a4 11 = .ok (.ldc_w 266, 3) := by decide +kernel
theorem dJ6_bitCount_0f7a4_14 : decode cJ6_bitCount_0f7a4 14 = .ok (.iand, 1) := by decide +kernel
theorem dJ6_bitCount_0f7a4_15 : decode cJ6_bitCount_0f7a4 15 = .ok (.iload_n 0, 1) := by decide +kernel
theorem dJ6_bitCount_0f7a4_16 : decode cJ6_bitCount_0f7a4 16 = .ok (.iconst 2, 1) := by decide +kernel
theorem dJ6_bitCount_0f7a4_17 : decode cJ6_bitCount_0f7a4 17 = .ok (.iushr, 1) := by decide +kernel
theorem dJ6_bitCount_0f7a4_18 : decode cJ6_bitCount_0f7a4 18 = .ok (.ldc_w 266, 3) := by decide +kernel
theorem dJ6_bitCount_0f7a4_21 : decode cJ6_bitCount_0f7a4 21 = .ok (.iand, 1) := by decide +kernel
theorem dJ6_bitCount_0f7a4_22 : decode cJ6_bitCount_0f7a4 22 = .ok (.iadd, 1) := by decide +kernel
theorem dJ6_bitCount_0f7a4_23 : decode cJ6_bitCount_0f7a4 23 = .ok (.istore_n 0, 1) := by decide +kernel
theorem dJ6_bitCount_0f7a4_24 : decode cJ6_bitCount_0f7a4 24 = .ok (.iload_n 0, 1) := by decide +kernel
theorem dJ6_bitCount_0f7a4_25 : decode cJ6_bitCount_0f7a4 25 = .ok (.iload_n 0, 1) := by decide +kernel
theorem dJ6_bitCount_0f7a4_26 : decode cJ6_bitCount_0f7a4 26 = .ok (.iconst 4, 1) := by decide +kernel
theorem dJ6_bitCount_0f7a4_27 : decode cJ6_bitCount_0f7a4 27 = .ok (.iushr, 1) := by decide +kernel
theorem dJ6_bitCount_0f7a4_28 : decode cJ6_bitCount_0f7a4 28 = .ok (.iadd, 1) := by decide +kernel
theorem dJ6_bitCount_0f7a4_29 : decode cJ6_bitCount_0f7a4 29 = .ok (.ldc_w 267, 3) := by decide +kernel
theorem dJ6_bitCount_0f7a4_32 : decode cJ6_bitCount_0f7a4 32 = .ok (.iand, 1) := by decide +kernel
theorem dJ6_bitCount_0f7a4_33 : decode cJ6_bitCount_0f7a4 33 = .ok (.istore_n 0, 1) := by decide +kernel
theorem dJ6_bitCount_0f7a4_34 : decode cJ6_bitCount_0f7a4 34 = .ok (.iload_n 0, 1) := by decide +kernel
theorem dJ6_bitCount_0f7a4_35 : decode cJ6_bitCount_0f7a4 35 = .ok (.iload_n 0, 1) := by decide +kernel
theorem dJ6_bitCount_0f7a4_36 : decode cJ6_bitCount_0f7a4 36 = .ok (.bipush 8, 2) := by decide +kernel
theorem dJ6_bitCount_0f7a4_38 : decode cJ6_bitCount_0f7a4 38 = .ok (.iushr, 1) := by decide +kernel
theorem dJ6_bitCount_0f7a4_39 : decode cJ6_bitCount_0f7a4 39 = .ok (.iadd, 1) := by decide +kernel
theorem dJ6_bitCount_0f7a4_40 : decode cJ6_bitCount_0f7a4 40 = .ok (.istore_n 0, 1) := by decide +kernel
theorem dJ6_bitCount_0f7a4_41 : decode cJ6_bitCount_0f7a4 41 = .ok (.iload_n 0, 1) := by decide +kernel
theorem dJ6_bitCount_0f7a4_42 : decode cJ6_bitCount_0f7a4 42 = .ok (.iload_n 0, 1) := by decide +kernel
theorem dJ6_bitCount_0f7a4_43 : decode cJ6_bitCount_0f7a4 43 = .ok (.bipush 16, 2) := by decide +kernel
theorem dJ6_bitCount_0f7a4_45 : decode cJ6_bitCount_0f7a4 45 = .ok (.iushr, 1) := by decide +kernel
theorem dJ6_bitCount_0f7a4_46 : decode cJ6_bitCount_0f7a4 46 = .ok (.iadd, 1) := by decide +kernel
theorem dJ6_bitCount_0f7a4_47 : decode cJ6_bitCount_0f7a4 47 = .ok (.istore_n 0, 1) := by decide +kernel
theorem dJ6_bitCount_0f7a4_48 : decode cJ6_bitCount_0f7a4 48 = .ok (.iload_n 0, 1) := by decide +kernel
theorem dJ6_bitCount_0f7a4_49 : decode cJ6_bitCount_0f7a4 49 = .ok (.bipush 63, 2) := by decide +kernel
theorem dJ6_bitCount_0f7a4_51 : decode cJ6_bitCount_0f7a4 51 = .ok (.iand, 1) := by decide +kernel
theorem dJ6_bitCount_0f7a4_52 : decode cJ6_bitCount_0f7a4 52 = .ok (.ireturn, 1) := by decide +kernel
theorem dL_law_0 : decode cL_law 0 = .ok (.new 7, 3) := by decide +kernel
theorem dL_law_3 : decode cL_law 3 = .ok (.dup, 1) := by decide +kernel
theorem dL_law_4 : decode cL_law 4 = .ok (.invokespecial 9, 3) := by decide +kernel
theorem dL_law_7 : decode cL_law 7 = .ok (.astore_n 1, 1) := by decide +kernel
theorem dL_law_8 : decode cL_law 8 = .ok (.new 10, 3) := by decide +kernel
theorem dL_law_11 : decode cL_law 11 = .ok (.dup, 1) := by decide +kernel
theorem dL_law_12 : decode cL_law 12 = .ok (.invokespecial 12, 3) := by decide +kernel
theorem dL_law_15 : decode cL_law 15 = .ok (.astore_n 2, 1) := by decide +kernel
theorem dL_law_16 : decode cL_law 16 = .ok (.iconst 0, 1) := by decide +kernel
theorem dL_law_17 : decode cL_law 17 = .ok (.istore_n 3, 1) := by decide +kernel
theorem dL_law_18 : decode cL_law 18 = .ok (.iload_n 3, 1) := by decide +kernel
theorem dL_law_19 : decode cL_law 19 = .ok (.aload_n 0, 1) := by decide +kernel
theorem dL_law_20 : decode cL_law 20 = .ok (.arraylength, 1) := by decide +kernel
theorem dL_law_21 : decode cL_law 21 = .ok (.iconst 5, 1) := by decide +kernel
theorem dL_law_22 : decode cL_law 22 = .ok (.isub, 1) := by decide +kernel
theorem dL_law_23 : decode cL_law 23 = .ok (.if_icmp .gt 1235, 3) := by decide +kernel
theorem dL_law_26 : decode cL_law 26 = .ok (.aload_n 0, 1) := by decide +kernel
theorem dL_law_27 : decode cL_law 27 = .ok (.iload_n 3, 1) := by decide +kernel
theorem dL_law_28 : decode cL_law 28 = .ok (.iaload, 1) := by decide +kernel
theorem dL_law_29 : decode cL_law 29 = .ok (.bipush 63, 2) := by decide +kernel
theorem dL_law_31 : decode cL_law 31 = .ok (.iand, 1) := by decide +kernel
theorem dL_law_32 : decode cL_law 32 = .ok (.tableswitch 1220 0 45 #[200, 223, 236, 269, 292, 315, 358, 381, 404, 427, 450, 473, 486, 519, 542, 565, 588, 611, 624, 647, 660, 673, 716, 739, 762, 785, 798, 821, 875, 908, 941, 964, 988, 1001, 1014, 1027, 1040, 1053, 1066, 1079, 1102, 1115, 1128, 1171, 1184, 1197], 200) := by decide +kernel
theorem dL_law_232 : decode cL_law 232 = .ok (.aload_n 1, 1) := by decide +kernel
theorem dL_law_233 : decode cL_law 233 = .ok (.aload_n 0, 1) := by decide +kernel
theorem dL_law_234 : decode cL_law 234 = .ok (.iload_n 3, 1) := by decide +kernel
theorem dL_law_235 : decode cL_law 235 = .ok (.iconst 1, 1) := by decide +kernel
theorem dL_law_236 : decode cL_law 236 = .ok (.iadd, 1) := by decide +kernel
theorem dL_law_237 : decode cL_law 237 = .ok (.iaload, 1) := by decide +kernel
theorem dL_law_238 : decode cL_law 238 = .ok (.invokevirtual 13, 3) := by decide +kernel
theorem dL_law_241 : decode cL_law 241 = .ok (.aload_n 2, 1) := by decide +kernel
theorem dL_law_242 : decode cL_law 242 = .ok (.aload_n 0, 1) := by decide +kernel
theorem dL_law_243 : decode cL_law 243 = .ok (.iload_n 3, 1) := by decide +kernel
theorem dL_law_244 : decode cL_law 244 = .ok (.iconst 1, 1) := by decide +kernel
theorem dL_law_245 : decode cL_law 245 = .ok (.iadd, 1) := by decide +kernel
theorem dL_law_246 : decode cL_law 246 = .ok (.iaload, 1) := by decide +kernel
theorem dL_law_247 : decode cL_law 247 = .ok (.invokevirtual 17, 3) := by decide +kernel
theorem dL_law_250 : decode cL_law 250 = .ok (.if_icmp .eq 1002, 3) := by decide +kernel
theorem dL_law_253 : decode cL_law 253 = .ok (.iconst 0, 1) := by decide +kernel
theorem dL_law_254 : decode cL_law 254 = .ok (.ireturn, 1) := by decide +kernel
theorem dL_law_255 : decode cL_law 255 = .ok (.aload_n 1, 1) := by decide +kernel
theorem dL_law_256 : decode cL_law 256 = .ok (.invokevirtual 18, 3) := by decide +kernel
theorem dL_law_259 : decode cL_law 259 = .ok (.aload_n 2, 1) := by decide +kernel
theorem dL_law_260 : decode cL_law 260 = .ok (.invokevirtual 22, 3) := by decide +kernel
theorem dL_law_263 : decode cL_law 263 = .ok (.if_icmp .eq 989, 3) := by decide +kernel
theorem dL_law_266 : decode cL_law 266 = .ok (.iconst 0, 1) := by decide +kernel
theorem dL_law_267 : decode cL_law 267 = .ok (.ireturn, 1) := by decide +kernel
theorem dL_law_268 : decode cL_law 268 = .ok (.aload_n 1, 1) := by decide +kernel
theorem dL_law_269 : decode cL_law 269 = .ok (.aload_n 0, 1) := by decide +kernel
theorem dL_law_270 : decode cL_law 270 = .ok (.iload_n 3, 1) := by decide +kernel
theorem dL_law_271 : decode cL_law 271 = .ok (.iconst 1, 1) := by decide +kernel
theorem dL_law_272 : decode cL_law 272 = .ok (.iadd, 1) := by decide +kernel
theorem dL_law_273 : decode cL_law 273 = .ok (.iaload, 1) := by decide +kernel
theorem dL_law_274 : decode cL_law 274 = .ok (.aload_n 0, 1) := by decide +kernel
theorem dL_law_275 : decode cL_law 275 = .ok (.iload_n 3, 1) := by decide +kernel
theorem dL_law_276 : decode cL_law 276 = .ok (.iconst 2, 1) := by decide +kernel
theorem dL_law_277 : decode cL_law 277 = .ok (.iadd, 1) := by decide +kernel
theorem dL_law_278 : decode cL_law 278 = .ok (.iaload, 1) := by decide +kernel
theorem dL_law_279 : decode cL_law 279 = .ok (.invokevirtual 23, 3) := by decide +kernel
theorem dL_law_282 : decode cL_law 282 = .ok (.aload_n 2, 1) := by decide +kernel
theorem dL_law_283 : decode cL_law 283 = .ok (.aload_n 0, 1) := by decide +kernel
theorem dL_law_284 : decode cL_law 284 = .ok (.iload_n 3, 1) := by decide +kernel
theorem dL_law_285 : decode cL_law 285 = .ok (.iconst 1, 1) := by decide +kernel
theorem dL_law_286 : decode cL_law 286 = .ok (.iadd, 1) := by decide +kernel
theorem dL_law_287 : decode cL_law 287 = .ok (.iaload, 1) := by decide +kernel
theorem dL_law_288 : decode cL_law 288 = .ok (.aload_n 0, 1) := by decide +kernel
theorem dL_law_289 : decode cL_law 289 = .ok (.iload_n 3, 1) := by decide +kernel
theorem dL_law_290 : decode cL_law 290 = .ok (.iconst 2, 1) := by decide +kernel
theorem dL_law_291 : decode cL_law 291 = .ok (.iadd, 1) := by decide +kernel
theorem dL_law_292 : decode cL_law 292 = .ok (.iaload, 1) := by decide +kernel
theorem dL_law_293 : decode cL_law 293 = .ok (.invokevirtual 27, 3) := by decide +kernel
theorem dL_law_296 : decode cL_law 296 = .ok (.if_icmp .eq 956, 3) := by decide +kernel
theorem dL_law_299 : decode cL_law 299 = .ok (.iconst 0, 1) := by decide +kernel
theorem dL_law_300 : decode cL_law 300 = .ok (.ireturn, 1) := by decide +kernel
theorem dL_law_301 : decode cL_law 301 = .ok (.aload_n 1, 1) := by decide +kernel
theorem dL_law_302 : decode cL_law 302 = .ok (.aload_n 0, 1) := by decide +kernel
theorem dL_law_303 : decode cL_law 303 = .ok (.iload_n 3, 1) := by decide +kernel
theorem dL_law_304 : decode cL_law 304 = .ok (.iconst 1, 1) := by decide +kernel
theorem dL_law_305 : decode cL_law 305 = .ok (.iadd, 1) := by decide +kernel
theorem dL_law_306 : decode cL_law 306 = .ok (.iaload, 1) := by decide +kernel
theorem dL_law_307 : decode cL_law 307 = .ok (.invokevirtual 28, 3) := by decide +kernel
theorem dL_law_310 : decode cL_law 310 = .ok (.aload_n 2, 1) := by decide +kernel
theorem dL_law_311 : decode cL_law 311 = .ok (.aload_n 0, 1) := by decide +kernel
theorem dL_law_312 : decode cL_law 312 = .ok (.iload_n 3, 1) := by decide +kernel
theorem dL_law_313 : decode cL_law 313 = .ok (.iconst 1, 1) := by decide +kernel
theorem dL_law_314 : decode cL_law 314 = .ok (.iadd, 1) := by decide +kernel
theorem dL_law_315 : decode cL_law 315 = .ok (.iaload, 1) := by decide +kernel
theorem dL_law_316 : decode cL_law 316 = .ok (.invokevirtual 31, 3) := by decide +kernel
theorem dL_law_319 : decode cL_law 319 = .ok (.if_icmp .eq 933, 3) := by decide +kernel
theorem dL_law_322 : decode cL_law 322 = .ok (.iconst 0, 1) := by decide +kernel
theorem dL_law_323 : decode cL_law 323 = .ok (.ireturn, 1) := by decide +kernel
theorem dL_law_324 : decode cL_law 324 = .ok (.aload_n 1, 1) := by decide +kernel
theorem dL_law_325 : decode cL_law 325 = .ok (.aload_n 0, 1) := by decide +kernel
theorem dL_law_326 : decode cL_law 326 = .ok (.iload_n 3, 1) := by decide +kernel
theorem dL_law_327 : decode cL_law 327 = .ok (.iconst 1, 1) := by decide +kernel
theorem dL_law_328 : decode cL_law 328 = .ok (.iadd, 1) := by decide +kernel
theorem dL_law_329 : decode cL_law 329 = .ok (.iaload, 1) := by decide +kernel
theorem dL_law_330 : decode cL_law 330 = .ok (.invokevirtual 32, 3) := by decide +kernel
theorem dL_law_333 : decode cL_law 333 = .ok (.aload_n 2, 1) := by decide +kernel
theorem dL_law_334 : decode cL_law 334 = .ok (.aload_n 0, 1) := by decide +kernel
theorem dL_law_335 : decode cL_law 335 = .ok (.iload_n 3, 1) := by decide +kernel
theorem dL_law_336 : decode cL_law 336 = .ok (.iconst 1, 1) := by decide +kernel
theorem dL_law_337 : decode cL_law 337 = .ok (.iadd, 1) := by decide +kernel
theorem dL_law_338 : decode cL_law 338 = .ok (.iaload, 1) := by decide +kernel
theorem dL_law_339 : decode cL_law 339 = .ok (.invokevirtual 35, 3) := by decide +kernel
theorem dL_law_342 : decode cL_law 342 = .ok (.if_icmp .eq 910, 3) := by decide +kernel
theorem dL_law_345 : decode cL_law 345 = .ok (.iconst 0, 1) := by decide +kernel
theorem dL_law_346 : decode cL_law 346 = .ok (.ireturn, 1) := by decide +kernel
theorem dL_law_347 : decode cL_law 347 = .ok (.aload_n 1, 1) := by decide +kernel
theorem dL_law_348 : decode cL_law 348 = .ok (.aload_n 0, 1) := by decide +kernel
theorem dL_law_349 : decode cL_law 349 = .ok (.iload_n 3, 1) := by decide +kernel
theorem dL_law_350 : decode cL_law 350 = .ok (.iconst 1, 1) := by decide +kernel
theorem dL_law_351 : decode cL_law 351 = .ok (.iadd, 1) := by decide +kernel
theorem dL_law_352 : decode cL_law 352 = .ok (.iaload, 1) := by decide +kernel
theorem dL_law_353 : decode cL_law 353 = .ok (.aload_n 0, 1) := by decide +kernel
theorem dL_law_354 : decode cL_law 354 = .ok (.iload_n 3, 1) := by decide +kernel
theorem dL_law_355 : decode cL_law 355 = .ok (.iconst 2, 1) := by decide +kernel
theorem dL_law_356 : decode cL_law 356 = .ok (.iadd, 1) := by decide +kernel
theorem dL_law_357 : decode cL_law 357 = .ok (.iaload, 1) := by decide +kernel
theorem dL_law_358 : decode cL_law 358 = .ok (.aload_n 0, 1) := by decide +kernel
theorem dL_law_359 : decode cL_law 359 = .ok (.iload_n 3, 1) := by decide +kernel
theorem dL_law_360 : decode cL_law 360 = .ok (.iconst 3, 1) := by decide +kernel
theorem dL_law_361 : decode cL_law 361 = .ok (.iadd, 1) := by decide +kernel
theorem dL_law_362 : decode cL_law 362 = .ok (.iaload, 1) := by decide +kernel
theorem dL_law_363 : decode cL_law 363 = .ok (.invokevirtual 36, 3) := by decide +kernel
theorem dL_law_366 : decode cL_law 366 = .ok (.aload_n 2, 1) := by decide +kernel
theorem dL_law_367 : decode cL_law 367 = .ok (.aload_n 0, 1) := by decide +kernel
theorem dL_law_368 : decode cL_law 368 = .ok (.iload_n 3, 1) := by decide +kernel
theorem dL_law_369 : decode cL_law 369 = .ok (.iconst 1, 1) := by decide +kernel
theorem dL_law_370 : decode cL_law 370 = .ok (.iadd, 1) := by decide +kernel
theorem dL_law_371 : decode cL_law 371 = .ok (.iaload, 1) := by decide +kernel
theorem dL_law_372 : decode cL_law 372 = .ok (.aload_n 0, 1) := by decide +kernel
theorem dL_law_373 : decode cL_law 373 = .ok (.iload_n 3, 1) := by decide +kernel
theorem dL_law_374 : decode cL_law 374 = .ok (.iconst 2, 1) := by decide +kernel
theorem dL_law_375 : decode cL_law 375 = .ok (.iadd, 1) := by decide +kernel
theorem dL_law_376 : decode cL_law 376 = .ok (.iaload, 1) := by decide +kernel
theorem dL_law_377 : decode cL_law 377 = .ok (.aload_n 0, 1) := by decide +kernel
theorem dL_law_378 : decode cL_law 378 = .ok (.iload_n 3, 1) := by decide +kernel
theorem dL_law_379 : decode cL_law 379 = .ok (.iconst 3, 1) := by decide +kernel
theorem dL_law_380 : decode cL_law 380 = .ok (.iadd, 1) := by decide +kernel
theorem dL_law_381 : decode cL_law 381 = .ok (.iaload, 1) := by decide +kernel
theorem dL_law_382 : decode cL_law 382 = .ok (.invokevirtual 40, 3) := by decide +kernel
theorem dL_law_385 : decode cL_law 385 = .ok (.if_icmp .eq 867, 3) := by decide +kernel
theorem dL_law_388 : decode cL_law 388 = .ok (.iconst 0, 1) := by decide +kernel
theorem dL_law_389 : decode cL_law 389 = .ok (.ireturn, 1) := by decide +kernel
theorem dL_law_390 : decode cL_law 390 = .ok (.aload_n 1, 1) := by decide +kernel
theorem dL_law_391 : decode cL_law 391 = .ok (.aload_n 0, 1) := by decide +kernel
theorem dL_law_392 : decode cL_law 392 = .ok (.iload_n 3, 1) := by decide +kernel
theorem dL_law_393 : decode cL_law 393 = .ok (.iconst 1, 1) := by decide +kernel
theorem dL_law_394 : decode cL_law 394 = .ok (.iadd, 1) := by decide +kernel
theorem dL_law_395 : decode cL_law 395 = .ok (.iaload, 1) := by decide +kernel
theorem dL_law_396 : decode cL_law 396 = .ok (.invokevirtual 41, 3) := by decide +kernel
theorem dL_law_399 : decode cL_law 399 = .ok (.aload_n 2, 1) := by decide +kernel
theorem dL_law_400 : decode cL_law 400 = .ok (.aload_n 0, 1) := by decide +kernel
theorem dL_law_401 : decode cL_law 401 = .ok (.iload_n 3, 1) := by decide +kernel
theorem dL_law_402 : decode cL_law 402 = .ok (.iconst 1, 1) := by decide +kernel
theorem dL_law_403 : decode cL_law 403 = .ok (.iadd, 1) := by decide +kernel
theorem dL_law_404 : decode cL_law 404 = .ok (.iaload, 1) := by decide +kernel
theorem dL_law_405 : decode cL_law 405 = .ok (.invokevirtual 44, 3) := by decide +kernel
theorem dL_law_408 : decode cL_law 408 = .ok (.if_icmp .eq 844, 3) := by decide +kernel
theorem dL_law_411 : decode cL_law 411 = .ok (.iconst 0, 1) := by decide +kernel
theorem dL_law_412 : decode cL_law 412 = .ok (.ireturn, 1) := by decide +kernel
theorem dL_law_413 : decode cL_law 413 = .ok (.aload_n 1, 1) := by decide +kernel
theorem dL_law_414 : decode cL_law 414 = .ok (.aload_n 0, 1) := by decide +kernel
theorem dL_law_415 : decode cL_law 415 = .ok (.iload_n 3, 1) := by decide +kernel
theorem dL_law_416 : decode cL_law 416 = .ok (.iconst 1, 1) := by decide +kernel
theorem dL_law_417 : decode cL_law 417 = .ok (.iadd, 1) := by decide +kernel
theorem dL_law_418 : decode cL_law 418 = .ok (.iaload, 1) := by decide +kernel
theorem dL_law_419 : decode cL_law 419 = .ok (.invokevirtual 45, 3) := by decide +kernel
theorem dL_law_422 : decode cL_law 422 = .ok (.aload_n 2, 1) := by decide +kernel
theorem dL_law_423 : decode cL_law 423 = .ok (.aload_n 0, 1) := by decide +kernel
theorem dL_law_424 : decode cL_law 424 = .ok (.iload_n 3, 1) := by decide +kernel
theorem dL_law_425 : decode cL_law 425 = .ok (.iconst 1, 1) := by decide +kernel
theorem dL_law_426 : decode cL_law 426 = .ok (.iadd, 1) := by decide +kernel
theorem dL_law_427 : decode cL_law 427 = .ok (.iaload, 1) := by decide +kernel
theorem dL_law_428 : decode cL_law 428 = .ok (.invokevirtual 48, 3) := by decide +kernel
theorem dL_law_431 : decode cL_law 431 = .ok (.if_icmp .eq 821, 3) := by decide +kernel
theorem dL_law_434 : decode cL_law 434 = .ok (.iconst 0, 1) := by decide +kernel
theorem dL_law_435 : decode cL_law 435 = .ok (.ireturn, 1) := by decide +kernel
theorem dL_law_436 : decode cL_law 436 = .ok (.aload_n 1, 1) := by decide +kernel
theorem dL_law_437 : decode cL_law 437 = .ok (.aload_n 0, 1) := by decide +kernel
theorem dL_law_438 : decode cL_law 438 = .ok (.iload_n 3, 1) := by decide +kernel
theorem dL_law_439 : decode cL_law 439 = .ok (.iconst 1, 1) := by decide +kernel
theorem dL_law_440 : decode cL_law 440 = .ok (.iadd, 1) := by decide +kernel
theorem dL_law_441 : decode cL_law 441 = .ok (.iaload, 1) := by decide +kernel
theorem dL_law_442 : decode cL_law 442 = .ok (.invokevirtual 49, 3) := by decide +kernel
theorem dL_law_445 : decode cL_law 445 = .ok (.aload_n 2, 1) := by decide +kernel
theorem dL_law_446 : decode cL_law 446 = .ok (.aload_n 0, 1) := by decide +kernel
theorem dL_law_447 : decode cL_law 447 = .ok (.iload_n 3, 1) := by decide +kernel
theorem dL_law_448 : decode cL_law 448 = .ok (.iconst 1, 1) := by decide +kernel
theorem dL_law_449 : decode cL_law 449 = .ok (.iadd, 1) := by decide +kernel
theorem dL_law_450 : decode cL_law 450 = .ok (.iaload, 1) := by decide +kernel
theorem dL_law_451 : decode cL_law 451 = .ok (.invokevirtual 52, 3) := by decide +kernel
theorem dL_law_454 : decode cL_law 454 = .ok (.if_icmp .eq 798, 3) := by decide +kernel
theorem dL_law_457 : decode cL_law 457 = .ok (.iconst 0, 1) := by decide +kernel
theorem dL_law_458 : decode cL_law 458 = .ok (.ireturn, 1) := by decide +kernel
theorem dL_law_459 : decode cL_law 459 = .ok (.aload_n 1, 1) := by decide +kernel
theorem dL_law_460 : decode cL_law 460 = .ok (.aload_n 0, 1) := by decide +kernel
theorem dL_law_461 : decode cL_law 461 = .ok (.iload_n 3, 1) := by decide +kernel
theorem dL_law_462 : decode cL_law 462 = .ok (.iconst 1, 1) := by decide +kernel
theorem dL_law_463 : decode cL_law 463 = .ok (.iadd, 1) := by decide +kernel
theorem dL_law_464 : decode cL_law 464 = .ok (.iaload, 1) := by decide +kernel
theorem dL_law_465 : decode cL_law 465 = .ok (.invokevirtual 53, 3) := by decide +kernel
theorem dL_law_468 : decode cL_law 468 = .ok (.aload_n 2, 1) := by decide +kernel
theorem dL_law_469 : decode cL_law 469 = .ok (.aload_n 0, 1) := by decide +kernel
theorem dL_law_470 : decode cL_law 470 = .ok (.iload_n 3, 1) := by decide +kernel
theorem dL_law_471 : decode cL_law 471 = .ok (.iconst 1, 1) := by decide +kernel
theorem dL_law_472 : decode cL_law 472 = .ok (.iadd, 1) := by decide +kernel
theorem dL_law_473 : decode cL_law 473 = .ok (.iaload, 1) := by decide +kernel
theorem dL_law_474 : decode cL_law 474 = .ok (.invokevirtual 56, 3) := by decide +kernel
theorem dL_law_477 : decode cL_law 477 = .ok (.if_icmp .eq 775, 3) := by decide +kernel
theorem dL_law_480 : decode cL_law 480 = .ok (.iconst 0, 1) := by decide +kernel
theorem dL_law_481 : decode cL_law 481 = .ok (.ireturn, 1) := by decide +kernel
theorem dL_law_482 : decode cL_law 482 = .ok (.aload_n 1, 1) := by decide +kernel
theorem dL_law_483 : decode cL_law 483 = .ok (.aload_n 0, 1) := by decide +kernel
theorem dL_law_484 : decode cL_law 484 = .ok (.iload_n 3, 1) := by decide +kernel
theorem dL_law_485 : decode cL_law 485 = .ok (.iconst 1, 1) := by decide +kernel
theorem dL_law_486 : decode cL_law 486 = .ok (.iadd, 1) := by decide +kernel
theorem dL_law_487 : decode cL_law 487 = .ok (.iaload, 1) := by decide +kernel
theorem dL_law_488 : decode cL_law 488 = .ok (.invokevirtual 57, 3) := by decide +kernel
theorem dL_law_491 : decode cL_law 491 = .ok (.aload_n 2, 1) := by decide +kernel
theorem dL_law_492 : decode cL_law 492 = .ok (.aload_n 0, 1) := by decide +kernel
theorem dL_law_493 : decode cL_law 493 = .ok (.iload_n 3, 1) := by decide +kernel
theorem dL_law_494 : decode cL_law 494 = .ok (.iconst 1, 1) := by decide +kernel
theorem dL_law_495 : decode cL_law 495 = .ok (.iadd, 1) := by decide +kernel
theorem dL_law_496 : decode cL_law 496 = .ok (.iaload, 1) := by decide +kernel
theorem dL_law_497 : decode cL_law 497 = .ok (.invokevirtual 60, 3) := by decide +kernel
theorem dL_law_500 : decode cL_law 500 = .ok (.if_icmp .eq 752, 3) := by decide +kernel
theorem dL_law_503 : decode cL_law 503 = .ok (.iconst 0, 1) := by decide +kernel
theorem dL_law_504 : decode cL_law 504 = .ok (.ireturn, 1) := by decide +kernel
theorem dL_law_505 : decode cL_law 505 = .ok (.aload_n 1, 1) := by decide +kernel
theorem dL_law_506 : decode cL_law 506 = .ok (.invokevirtual 61, 3) := by decide +kernel
theorem dL_law_509 : decode cL_law 509 = .ok (.aload_n 2, 1) := by decide +kernel
theorem dL_law_510 : decode cL_law 510 = .ok (.invokevirtual 64, 3) := by decide +kernel
theorem dL_law_513 : decode cL_law 513 = .ok (.if_icmp .eq 739, 3) := by decide +kernel
theorem dL_law_516 : decode cL_law 516 = .ok (.iconst 0, 1) := by decide +kernel
theorem dL_law_517 : decode cL_law 517 = .ok (.ireturn, 1) := by decide +kernel
theorem dL_law_518 : decode cL_law 518 = .ok (.aload_n 1, 1) := by decide +kernel
theorem dL_law_519 : decode cL_law 519 = .ok (.aload_n 0, 1) := by decide +kernel
theorem dL_law_520 : decode cL_law 520 = .ok (.iload_n 3, 1) := by decide +kernel
theorem dL_law_521 : decode cL_law 521 = .ok (.iconst 1, 1) := by decide +kernel
theorem dL_law_522 : decode cL_law 522 = .ok (.iadd, 1) := by decide +kernel
theorem dL_law_523 : decode cL_law 523 = .ok (.iaload, 1) := by decide +kernel
theorem dL_law_524 : decode cL_law 524 = .ok (.aload_n 0, 1) := by decide +kernel
theorem dL_law_525 : decode cL_law 525 = .ok (.iload_n 3, 1) := by decide +kernel
theorem dL_law_526 : decode cL_law 526 = .ok (.iconst 2, 1) := by decide +kernel
theorem dL_law_527 : decode cL_law 527 = .ok (.iadd, 1) := by decide +kernel
theorem dL_law_528 : decode cL_law 528 = .ok (.iaload, 1) := by decide +kernel
theorem dL_law_529 : decode cL_law 529 = .ok (.invokevirtual 65, 3) := by decide +kernel
theorem dL_law_532 : decode cL_law 532 = .ok (.aload_n 2, 1) := by decide +kernel
theorem dL_law_533 : decode cL_law 533 = .ok (.aload_n 0, 1) := by decide +kernel
theorem dL_law_534 : decode cL_law 534 = .ok (.iload_n 3, 1) := by decide +kernel
theorem dL_law_535 : decode cL_law 535 = .ok (.iconst 1, 1) := by decide +kernel
theorem dL_law_536 : decode cL_law 536 = .ok (.iadd, 1) := by decide +kernel
theorem dL_law_537 : decode cL_law 537 = .ok (.iaload, 1) := by decide +kernel
theorem dL_law_538 : decode cL_law 538 = .ok (.aload_n 0, 1) := by decide +kernel
theorem dL_law_539 : decode cL_law 539 = .ok (.iload_n 3, 1) := by decide +kernel
theorem dL_law_540 : decode cL_law 540 = .ok (.iconst 2, 1) := by decide +kernel
theorem dL_law_541 : decode cL_law 541 = .ok (.iadd, 1) := by decide +kernel
theorem dL_law_542 : decode cL_law 542 = .ok (.iaload, 1) := by decide +kernel
theorem dL_law_543 : decode cL_law 543 = .ok (.invokevirtual 68, 3) := by decide +kernel
theorem dL_law_546 : decode cL_law 546 = .ok (.if_icmp .eq 706, 3) := by decide +kernel
theorem dL_law_549 : decode cL_law 549 = .ok (.iconst 0, 1) := by decide +kernel
theorem dL_law_550 : decode cL_law 550 = .ok (.ireturn, 1) := by decide +kernel
theorem dL_law_551 : decode cL_law 551 = .ok (.aload_n 1, 1) := by decide +kernel
theorem dL_law_552 : decode cL_law 552 = .ok (.aload_n 0, 1) := by decide +kernel
theorem dL_law_553 : decode cL_law 553 = .ok (.iload_n 3, 1) := by decide +kernel
theorem dL_law_554 : decode cL_law 554 = .ok (.iconst 1, 1) := by decide +kernel
theorem dL_law_555 : decode cL_law 555 = .ok (.iadd, 1) := by decide +kernel
theorem dL_law_556 : decode cL_law 556 = .ok (.iaload, 1) := by decide +kernel
theorem dL_law_557 : decode cL_law 557 = .ok (.invokevirtual 69, 3) := by decide +kernel
theorem dL_law_560 : decode cL_law 560 = .ok (.aload_n 2, 1) := by decide +kernel
theorem dL_law_561 : decode cL_law 561 = .ok (.aload_n 0, 1) := by decide +kernel
theorem dL_law_562 : decode cL_law 562 = .ok (.iload_n 3, 1) := by decide +kernel
theorem dL_law_563 : decode cL_law 563 = .ok (.iconst 1, 1) := by decide +kernel
theorem dL_law_564 : decode cL_law 564 = .ok (.iadd, 1) := by decide +kernel
theorem dL_law_565 : decode cL_law 565 = .ok (.iaload, 1) := by decide +kernel
theorem dL_law_566 : decode cL_law 566 = .ok (.invokevirtual 72, 3) := by decide +kernel
theorem dL_law_569 : decode cL_law 569 = .ok (.if_icmp .eq 683, 3) := by decide +kernel
theorem dL_law_572 : decode cL_law 572 = .ok (.iconst 0, 1) := by decide +kernel
theorem dL_law_573 : decode cL_law 573 = .ok (.ireturn, 1) := by decide +kernel
theorem dL_law_574 : decode cL_law 574 = .ok (.aload_n 1, 1) := by decide +kernel
theorem dL_law_575 : decode cL_law 575 = .ok (.aload_n 0, 1) := by decide +kernel
theorem dL_law_576 : decode cL_law 576 = .ok (.iload_n 3, 1) := by decide +kernel
theorem dL_law_577 : decode cL_law 577 = .ok (.iconst 1, 1) := by decide +kernel
theorem dL_law_578 : decode cL_law 578 = .ok (.iadd, 1) := by decide +kernel
theorem dL_law_579 : decode cL_law 579 = .ok (.iaload, 1) := by decide +kernel
theorem dL_law_580 : decode cL_law 580 = .ok (.invokevirtual 73, 3) := by decide +kernel
theorem dL_law_583 : decode cL_law 583 = .ok (.aload_n 2, 1) := by decide +kernel
theorem dL_law_584 : decode cL_law 584 = .ok (.aload_n 0, 1) := by decide +kernel
theorem dL_law_585 : decode cL_law 585 = .ok (.iload_n 3, 1) := by decide +kernel
theorem dL_law_586 : decode cL_law 586 = .ok (.iconst 1, 1) := by decide +kernel
theorem dL_law_587 : decode cL_law 587 = .ok (.iadd, 1) := by decide +kernel
theorem dL_law_588 : decode cL_law 588 = .ok (.iaload, 1) := by decide +kernel
theorem dL_law_589 : decode cL_law 589 = .ok (.invokevirtual 76, 3) := by decide +kernel
theorem dL_law_592 : decode cL_law 592 = .ok (.if_icmp .eq 660, 3) := by decide +kernel
theorem dL_law_595 : decode cL_law 595 = .ok (.iconst 0, 1) := by decide +kernel
theorem dL_law_596 : decode cL_law 596 = .ok (.ireturn, 1) := by decide +kernel
theorem dL_law_597 : decode cL_law 597 = .ok (.aload_n 1, 1) := by decide +kernel
theorem dL_law_598 : decode cL_law 598 = .ok (.aload_n 0, 1) := by decide +kernel
theorem dL_law_599 : decode cL_law 599 = .ok (.iload_n 3, 1) := by decide +kernel
theorem dL_law_600 : decode cL_law 600 = .ok (.iconst 1, 1) := by decide +kernel
theorem dL_law_601 : decode cL_law 601 = .ok (.iadd, 1) := by decide +kernel
theorem dL_law_602 : decode cL_law 602 = .ok (.iaload, 1) := by decide +kernel
theorem dL_law_603 : decode cL_law 603 = .ok (.invokevirtual 77, 3) := by decide +kernel
theorem dL_law_606 : decode cL_law 606 = .ok (.aload_n 2, 1) := by decide +kernel
theorem dL_law_607 : decode cL_law 607 = .ok (.aload_n 0, 1) := by decide +kernel
theorem dL_law_608 : decode cL_law 608 = .ok (.iload_n 3, 1) := by decide +kernel
theorem dL_law_609 : decode cL_law 609 = .ok (.iconst 1, 1) := by decide +kernel
theorem dL_law_610 : decode cL_law 610 = .ok (.iadd, 1) := by decide +kernel
theorem dL_law_611 : decode cL_law 611 = .ok (.iaload, 1) := by decide +kernel
theorem dL_law_612 : decode cL_law 612 = .ok (.invokevirtual 80, 3) := by decide +kernel
theorem dL_law_615 : decode cL_law 615 = .ok (.if_icmp .eq 637, 3) := by decide +kernel
theorem dL_law_618 : decode cL_law 618 = .ok (.iconst 0, 1) := by decide +kernel
theorem dL_law_619 : decode cL_law 619 = .ok (.ireturn, 1) := by decide +kernel
theorem dL_law_620 : decode cL_law 620 = .ok (.aload_n 1, 1) := by decide +kernel
theorem dL_law_621 : decode cL_law 621 = .ok (.aload_n 0, 1) := by decide +kernel
theorem dL_law_622 : decode cL_law 622 = .ok (.iload_n 3, 1) := by decide +kernel
theorem dL_law_623 : decode cL_law 623 = .ok (.iconst 1, 1) := by decide +kernel
theorem dL_law_624 : decode cL_law 624 = .ok (.iadd, 1) := by decide +kernel
theorem dL_law_625 : decode cL_law 625 = .ok (.iaload, 1) := by decide +kernel
theorem dL_law_626 : decode cL_law 626 = .ok (.invokevirtual 81, 3) := by decide +kernel
theorem dL_law_629 : decode cL_law 629 = .ok (.aload_n 2, 1) := by decide +kernel
theorem dL_law_630 : decode cL_law 630 = .ok (.aload_n 0, 1) := by decide +kernel
theorem dL_law_631 : decode cL_law 631 = .ok (.iload_n 3, 1) := by decide +kernel
theorem dL_law_632 : decode cL_law 632 = .ok (.iconst 1, 1) := by decide +kernel
theorem dL_law_633 : decode cL_law 633 = .ok (.iadd, 1) := by decide +kernel
theorem dL_law_634 : decode cL_law 634 = .ok (.iaload, 1) := by decide +kernel
theorem dL_law_635 : decode cL_law 635 = .ok (.invokevirtual 84, 3) := by decide +kernel
theorem dL_law_638 : decode cL_law 638 = .ok (.if_icmp .eq 614, 3) := by decide +kernel
theorem dL_law_641 : decode cL_law 641 = .ok (.iconst 0, 1) := by decide +kernel
theorem dL_law_642 : decode cL_law 642 = .ok (.ireturn, 1) := by decide +kernel
theorem dL_law_643 : decode cL_law 643 = .ok (.aload_n 1, 1) := by decide +kernel
theorem dL_law_644 : decode cL_law 644 = .ok (.invokevirtual 85, 3) := by decide +kernel
theorem dL_law_647 : decode cL_law 647 = .ok (.aload_n 2, 1) := by decide +kernel
theorem dL_law_648 : decode cL_law 648 = .ok (.invokevirtual 88, 3) := by decide +kernel
theorem dL_law_651 : decode cL_law 651 = .ok (.if_icmp .eq 601, 3) := by decide +kernel
theorem dL_law_654 : decode cL_law 654 = .ok (.iconst 0, 1) := by decide +kernel
theorem dL_law_655 : decode cL_law 655 = .ok (.ireturn, 1) := by decide +kernel
theorem dL_law_656 : decode cL_law 656 = .ok (.aload_n 1, 1) := by decide +kernel
theorem dL_law_657 : decode cL_law 657 = .ok (.aload_n 0, 1) := by decide +kernel
theorem dL_law_658 : decode cL_law 658 = .ok (.iload_n 3, 1) := by decide +kernel
theorem dL_law_659 : decode cL_law 659 = .ok (.iconst 1, 1) := by decide +kernel
theorem dL_law_660 : decode cL_law 660 = .ok (.iadd, 1) := by decide +kernel
theorem dL_law_661 : decode cL_law 661 = .ok (.iaload, 1) := by decide +kernel
theorem dL_law_662 : decode cL_law 662 = .ok (.invokevirtual 89, 3) := by decide +kernel
theorem dL_law_665 : decode cL_law 665 = .ok (.aload_n 2, 1) := by decide +kernel
theorem dL_law_666 : decode cL_law 666 = .ok (.aload_n 0, 1) := by decide +kernel
theorem dL_law_667 : decode cL_law 667 = .ok (.iload_n 3, 1) := by decide +kernel
theorem dL_law_668 : decode cL_law 668 = .ok (.iconst 1, 1) := by decide +kernel
theorem dL_law_669 : decode cL_law 669 = .ok (.iadd, 1) := by decide +kernel
theorem dL_law_670 : decode cL_law 670 = .ok (.iaload, 1) := by decide +kernel
theorem dL_law_671 : decode cL_law 671 = .ok (.invokevirtual 92, 3) := by decide +kernel
theorem dL_law_674 : decode cL_law 674 = .ok (.if_icmp .eq 578, 3) := by decide +kernel
theorem dL_law_677 : decode cL_law 677 = .ok (.iconst 0, 1) := by decide +kernel
theorem dL_law_678 : decode cL_law 678 = .ok (.ireturn, 1) := by decide +kernel
theorem dL_law_679 : decode cL_law 679 = .ok (.aload_n 1, 1) := by decide +kernel
theorem dL_law_680 : decode cL_law 680 = .ok (.invokevirtual 93, 3) := by decide +kernel
theorem dL_law_683 : decode cL_law 683 = .ok (.aload_n 2, 1) := by decide +kernel
theorem dL_law_684 : decode cL_law 684 = .ok (.invokevirtual 96, 3) := by decide +kernel
theorem dL_law_687 : decode cL_law 687 = .ok (.if_icmp .eq 565, 3) := by decide +kernel
theorem dL_law_690 : decode cL_law 690 = .ok (.iconst 0, 1) := by decide +kernel
theorem dL_law_691 : decode cL_law 691 = .ok (.ireturn, 1) := by decide +kernel
theorem dL_law_692 : decode cL_law 692 = .ok (.aload_n 1, 1) := by decide +kernel
theorem dL_law_693 : decode cL_law 693 = .ok (.invokevirtual 97, 3) := by decide +kernel
theorem dL_law_696 : decode cL_law 696 = .ok (.aload_n 2, 1) := by decide +kernel
theorem dL_law_697 : decode cL_law 697 = .ok (.invokevirtual 100, 3) := by decide +kernel
theorem dL_law_700 : decode cL_law 700 = .ok (.if_icmp .eq 552, 3) := by decide +kernel
theorem dL_law_703 : decode cL_law 703 = .ok (.iconst 0, 1) := by decide +kernel
theorem dL_law_704 : decode cL_law 704 = .ok (.ireturn, 1) := by decide +kernel
theorem dL_law_705 : decode cL_law 705 = .ok (.aload_n 1, 1) := by decide +kernel
theorem dL_law_706 : decode cL_law 706 = .ok (.aload_n 0, 1) := by decide +kernel
theorem dL_law_707 : decode cL_law 707 = .ok (.iload_n 3, 1) := by decide +kernel
theorem dL_law_708 : decode cL_law 708 = .ok (.iconst 1, 1) := by decide +kernel
theorem dL_law_709 : decode cL_law 709 = .ok (.iadd, 1) := by decide +kernel
theorem dL_law_710 : decode cL_law 710 = .ok (.iaload, 1) := by decide +kernel
theorem dL_law_711 : decode cL_law 711 = .ok (.aload_n 0, 1) := by decide +kernel
theorem dL_law_712 : decode cL_law 712 = .ok (.iload_n 3, 1) := by decide +kernel
theorem dL_law_713 : decode cL_law 713 = .ok (.iconst 2, 1) := by decide +kernel
theorem dL_law_714 : decode cL_law 714 = .ok (.iadd, 1) := by decide +kernel
theorem dL_law_715 : decode cL_law 715 = .ok (.iaload, 1) := by decide +kernel
theorem dL_law_716 : decode cL_law 716 = .ok (.aload_n 0, 1) := by decide +kernel
theorem dL_law_717 : decode cL_law 717 = .ok (.iload_n 3, 1) := by decide +kernel
theorem dL_law_718 : decode cL_law 718 = .ok (.iconst 3, 1) := by decide +kernel
theorem dL_law_719 : decode cL_law 719 = .ok (.iadd, 1) := by decide +kernel
theorem dL_law_720 : decode cL_law 720 = .ok (.iaload, 1) := by decide +kernel
theorem dL_law_721 : decode cL_law 721 = .ok (.invokevirtual 101, 3) := by decide +kernel
theorem dL_law_724 : decode cL_law 724 = .ok (.aload_n 2, 1) := by decide +kernel
theorem dL_law_725 : decode cL_law 725 = .ok (.aload_n 0, 1) := by decide +kernel
theorem dL_law_726 : decode cL_law 726 = .ok (.iload_n 3, 1) := by decide +kernel
theorem dL_law_727 : decode cL_law 727 = .ok (.iconst 1, 1) := by decide +kernel
theorem dL_law_728 : decode cL_law 728 = .ok (.iadd, 1) := by decide +kernel
theorem dL_law_729 : decode cL_law 729 = .ok (.iaload, 1) := by decide +kernel
theorem dL_law_730 : decode cL_law 730 = .ok (.aload_n 0, 1) := by decide +kernel
theorem dL_law_731 : decode cL_law 731 = .ok (.iload_n 3, 1) := by decide +kernel
theorem dL_law_732 : decode cL_law 732 = .ok (.iconst 2, 1) := by decide +kernel
theorem dL_law_733 : decode cL_law 733 = .ok (.iadd, 1) := by decide +kernel
theorem dL_law_734 : decode cL_law 734 = .ok (.iaload, 1) := by decide +kernel
theorem dL_law_735 : decode cL_law 735 = .ok (.aload_n 0, 1) := by decide +kernel
theorem dL_law_736 : decode cL_law 736 = .ok (.iload_n 3, 1) := by decide +kernel
theorem dL_law_737 : decode cL_law 737 = .ok (.iconst 3, 1) := by decide +kernel
theorem dL_law_738 : decode cL_law 738 = .ok (.iadd, 1) := by decide +kernel
theorem dL_law_739 : decode cL_law 739 = .ok (.iaload, 1) := by decide +kernel
theorem dL_law_740 : decode cL_law 740 = .ok (.invokevirtual 104, 3) := by decide +kernel
theorem dL_law_743 : decode cL_law 743 = .ok (.if_icmp .eq 509, 3) := by decide +kernel
theorem dL_law_746 : decode cL_law 746 = .ok (.iconst 0, 1) := by decide +kernel
theorem dL_law_747 : decode cL_law 747 = .ok (.ireturn, 1) := by decide +kernel
theorem dL_law_748 : decode cL_law 748 = .ok (.aload_n 1, 1) := by decide +kernel
theorem dL_law_749 : decode cL_law 749 = .ok (.aload_n 0, 1) := by decide +kernel
theorem dL_law_750 : decode cL_law 750 = .ok (.iload_n 3, 1) := by decide +kernel
theorem dL_law_751 : decode cL_law 751 = .ok (.iconst 1, 1) := by decide +kernel
theorem dL_law_752 : decode cL_law 752 = .ok (.iadd, 1) := by decide +kernel
theorem dL_law_753 : decode cL_law 753 = .ok (.iaload, 1) := by decide +kernel
theorem dL_law_754 : decode cL_law 754 = .ok (.invokevirtual 105, 3) := by decide +kernel
theorem dL_law_757 : decode cL_law 757 = .ok (.aload_n 2, 1) := by decide +kernel
theorem dL_law_758 : decode cL_law 758 = .ok (.aload_n 0, 1) := by decide +kernel
theorem dL_law_759 : decode cL_law 759 = .ok (.iload_n 3, 1) := by decide +kernel
theorem dL_law_760 : decode cL_law 760 = .ok (.iconst 1, 1) := by decide +kernel
theorem dL_law_761 : decode cL_law 761 = .ok (.iadd, 1) := by decide +kernel
theorem dL_law_762 : decode cL_law 762 = .ok (.iaload, 1) := by decide +kernel
theorem dL_law_763 : decode cL_law 763 = .ok (.invokevirtual 108, 3) := by decide +kernel
theorem dL_law_766 : decode cL_law 766 = .ok (.if_icmp .eq 486, 3) := by decide +kernel
theorem dL_law_769 : decode cL_law 769 = .ok (.iconst 0, 1) := by decide +kernel
theorem dL_law_770 : decode cL_law 770 = .ok (.ireturn, 1) := by decide +kernel
theorem dL_law_771 : decode cL_law 771 = .ok (.aload_n 1, 1) := by decide +kernel
theorem dL_law_772 : decode cL_law 772 = .ok (.aload_n 0, 1) := by decide +kernel
theorem dL_law_773 : decode cL_law 773 = .ok (.iload_n 3, 1) := by decide +kernel
theorem dL_law_774 : decode cL_law 774 = .ok (.iconst 1, 1) := by decide +kernel
theorem dL_law_775 : decode cL_law 775 = .ok (.iadd, 1) := by decide +kernel
theorem dL_law_776 : decode cL_law 776 = .ok (.iaload, 1) := by decide +kernel
theorem dL_law_777 : decode cL_law 777 = .ok (.invokevirtual 109, 3) := by decide +kernel
theorem dL_law_780 : decode cL_law 780 = .ok (.aload_n 2, 1) := by decide +kernel
theorem dL_law_781 : decode cL_law 781 = .ok (.aload_n 0, 1) := by decide +kernel
theorem dL_law_782 : decode cL_law 782 = .ok (.iload_n 3, 1) := by decide +kernel
theorem dL_law_783 : decode cL_law 783 = .ok (.iconst 1, 1) := by decide +kernel
theorem dL_law_784 : decode cL_law 784 = .ok (.iadd, 1) := by decide +kernel
theorem dL_law_785 : decode cL_law 785 = .ok (.iaload, 1) := by decide +kernel
theorem dL_law_786 : decode cL_law 786 = .ok (.invokevirtual 112, 3) := by decide +kernel
theorem dL_law_789 : decode cL_law 789 = .ok (.if_icmp .eq 463, 3) := by decide +kernel
theorem dL_law_792 : decode cL_law 792 = .ok (.iconst 0, 1) := by decide +kernel
theorem dL_law_793 : decode cL_law 793 = .ok (.ireturn, 1) := by decide +kernel
theorem dL_law_794 : decode cL_law 794 = .ok (.aload_n 1, 1) := by decide +kernel
theorem dL_law_795 : decode cL_law 795 = .ok (.aload_n 0, 1) := by decide +kernel
theorem dL_law_796 : decode cL_law 796 = .ok (.iload_n 3, 1) := by decide +kernel
theorem dL_law_797 : decode cL_law 797 = .ok (.iconst 1, 1) := by decide +kernel
theorem dL_law_798 : decode cL_law 798 = .ok (.iadd, 1) := by decide +kernel
theorem dL_law_799 : decode cL_law 799 = .ok (.iaload, 1) := by decide +kernel
theorem dL_law_800 : decode cL_law 800 = .ok (.invokevirtual 113, 3) := by decide +kernel
theorem dL_law_803 : decode cL_law 803 = .ok (.aload_n 2, 1) := by decide +kernel
theorem dL_law_804 : decode cL_law 804 = .ok (.aload_n 0, 1) := by decide +kernel
theorem dL_law_805 : decode cL_law 805 = .ok (.iload_n 3, 1) := by decide +kernel
theorem dL_law_806 : decode cL_law 806 = .ok (.iconst 1, 1) := by decide +kernel
theorem dL_law_807 : decode cL_law 807 = .ok (.iadd, 1) := by decide +kernel
theorem dL_law_808 : decode cL_law 808 = .ok (.iaload, 1) := by decide +kernel
theorem dL_law_809 : decode cL_law 809 = .ok (.invokevirtual 116, 3) := by decide +kernel
theorem dL_law_812 : decode cL_law 812 = .ok (.if_icmp .eq 440, 3) := by decide +kernel
theorem dL_law_815 : decode cL_law 815 = .ok (.iconst 0, 1) := by decide +kernel
theorem dL_law_816 : decode cL_law 816 = .ok (.ireturn, 1) := by decide +kernel
theorem dL_law_817 : decode cL_law 817 = .ok (.aload_n 1, 1) := by decide +kernel
theorem dL_law_818 : decode cL_law 818 = .ok (.invokevirtual 117, 3) := by decide +kernel
theorem dL_law_821 : decode cL_law 821 = .ok (.aload_n 2, 1) := by decide +kernel
theorem dL_law_822 : decode cL_law 822 = .ok (.invokevirtual 120, 3) := by decide +kernel
theorem dL_law_825 : decode cL_law 825 = .ok (.if_icmp .eq 427, 3) := by decide +kernel
theorem dL_law_828 : decode cL_law 828 = .ok (.iconst 0, 1) := by decide +kernel
theorem dL_law_829 : decode cL_law 829 = .ok (.ireturn, 1) := by decide +kernel
theorem dL_law_830 : decode cL_law 830 = .ok (.aload_n 1, 1) := by decide +kernel
theorem dL_law_831 : decode cL_law 831 = .ok (.aload_n 0, 1) := by decide +kernel
theorem dL_law_832 : decode cL_law 832 = .ok (.iload_n 3, 1) := by decide +kernel
theorem dL_law_833 : decode cL_law 833 = .ok (.iconst 1, 1) := by decide +kernel
theorem dL_law_834 : decode cL_law 834 = .ok (.iadd, 1) := by decide +kernel
theorem dL_law_835 : decode cL_law 835 = .ok (.iaload, 1) := by decide +kernel
theorem dL_law_836 : decode cL_law 836 = .ok (.invokevirtual 121, 3) := by decide +kernel
theorem dL_law_839 : decode cL_law 839 = .ok (.aload_n 2, 1) := by decide +kernel
theorem dL_law_840 : decode cL_law 840 = .ok (.aload_n 0, 1) := by decide +kernel
theorem dL_law_841 : decode cL_law 841 = .ok (.iload_n 3, 1) := by decide +kernel
theorem dL_law_842 : decode cL_law 842 = .ok (.iconst 1, 1) := by decide +kernel
theorem dL_law_843 : decode cL_law 843 = .ok (.iadd, 1) := by decide +kernel
theorem dL_law_844 : decode cL_law 844 = .ok (.iaload, 1) := by decide +kernel
theorem dL_law_845 : decode cL_law 845 = .ok (.invokevirtual 124, 3) := by decide +kernel
theorem dL_law_848 : decode cL_law 848 = .ok (.if_icmp .eq 404, 3) := by decide +kernel
theorem dL_law_851 : decode cL_law 851 = .ok (.iconst 0, 1) := by decide +kernel
theorem dL_law_852 : decode cL_law 852 = .ok (.ireturn, 1) := by decide +kernel
theorem dL_law_853 : decode cL_law 853 = .ok (.aload_n 1, 1) := by decide +kernel
theorem dL_law_854 : decode cL_law 854 = .ok (.aload_n 0, 1) := by decide +kernel
theorem dL_law_855 : decode cL_law 855 = .ok (.iload_n 3, 1) := by decide +kernel
theorem dL_law_856 : decode cL_law 856 = .ok (.iconst 1, 1) := by decide +kernel
theorem dL_law_857 : decode cL_law 857 = .ok (.iadd, 1) := by decide +kernel
theorem dL_law_858 : decode cL_law 858 = .ok (.iaload, 1) := by decide +kernel
theorem dL_law_859 : decode cL_law 859 = .ok (.aload_n 0, 1) := by decide +kernel
theorem dL_law_860 : decode cL_law 860 = .ok (.iload_n 3, 1) := by decide +kernel
theorem dL_law_861 : decode cL_law 861 = .ok (.iconst 2, 1) := by decide +kernel
theorem dL_law_862 : decode cL_law 862 = .ok (.iadd, 1) := by decide +kernel
theorem dL_law_863 : decode cL_law 863 = .ok (.iaload, 1) := by decide +kernel
theorem dL_law_864 : decode cL_law 864 = .ok (.aload_n 0, 1) := by decide +kernel
theorem dL_law_865 : decode cL_law 865 = .ok (.iload_n 3, 1) := by decide +kernel
theorem dL_law_866 : decode cL_law 866 = .ok (.iconst 3, 1) := by decide +kernel
theorem dL_law_867 : decode cL_law 867 = .ok (.iadd, 1) := by decide +kernel
theorem dL_law_868 : decode cL_law 868 = .ok (.iaload, 1) := by decide +kernel
theorem dL_law_869 : decode cL_law 869 = .ok (.aload_n 0, 1) := by decide +kernel
theorem dL_law_870 : decode cL_law 870 = .ok (.iload_n 3, 1) := by decide +kernel
theorem dL_law_871 : decode cL_law 871 = .ok (.iconst 4, 1) := by decide +kernel
theorem dL_law_872 : decode cL_law 872 = .ok (.iadd, 1) := by decide +kernel
theorem dL_law_873 : decode cL_law 873 = .ok (.iaload, 1) := by decide +kernel
theorem dL_law_874 : decode cL_law 874 = .ok (.invokevirtual 125, 3) := by decide +kernel
theorem dL_law_877 : decode cL_law 877 = .ok (.aload_n 2, 1) := by decide +kernel
theorem dL_law_878 : decode cL_law 878 = .ok (.aload_n 0, 1) := by decide +kernel
theorem dL_law_879 : decode cL_law 879 = .ok (.iload_n 3, 1) := by decide +kernel
theorem dL_law_880 : decode cL_law 880 = .ok (.iconst 1, 1) := by decide +kernel
theorem dL_law_881 : decode cL_law 881 = .ok (.iadd, 1) := by decide +kernel
theorem dL_law_882 : decode cL_law 882 = .ok (.iaload, 1) := by decide +kernel
theorem dL_law_883 : decode cL_law 883 = .ok (.aload_n 0, 1) := by decide +kernel
theorem dL_law_884 : decode cL_law 884 = .ok (.iload_n 3, 1) := by decide +kernel
theorem dL_law_885 : decode cL_law 885 = .ok (.iconst 2, 1) := by decide +kernel
theorem dL_law_886 : decode cL_law 886 = .ok (.iadd, 1) := by decide +kernel
theorem dL_law_887 : decode cL_law 887 = .ok (.iaload, 1) := by decide +kernel
theorem dL_law_888 : decode cL_law 888 = .ok (.aload_n 0, 1) := by decide +kernel
theorem dL_law_889 : decode cL_law 889 = .ok (.iload_n 3, 1) := by decide +kernel
theorem dL_law_890 : decode cL_law 890 = .ok (.iconst 3, 1) := by decide +kernel
theorem dL_law_891 : decode cL_law 891 = .ok (.iadd, 1) := by decide +kernel
theorem dL_law_892 : decode cL_law 892 = .ok (.iaload, 1) := by decide +kernel
theorem dL_law_893 : decode cL_law 893 = .ok (.aload_n 0, 1) := by decide +kernel
theorem dL_law_894 : decode cL_law 894 = .ok (.iload_n 3, 1) := by decide +kernel
theorem dL_law_895 : decode cL_law 895 = .ok (.iconst 4, 1) := by decide +kernel
theorem dL_law_896 : decode cL_law 896 = .ok (.iadd, 1) := by decide +kernel
theorem dL_law_897 : decode cL_law 897 = .ok (.iaload, 1) := by decide +kernel
theorem dL_law_898 : decode cL_law 898 = .ok (.invokevirtual 129, 3) := by decide +kernel
theorem dL_law_901 : decode cL_law 901 = .ok (.lcmp, 1) := by decide +kernel
theorem dL_law_902 : decode cL_law 902 = .ok (.ifCond .eq 350, 3) := by decide +kernel
theorem dL_law_905 : decode cL_law 905 = .ok (.iconst 0, 1) := by decide +kernel
theorem dL_law_906 : decode cL_law 906 = .ok (.ireturn, 1) := by decide +kernel
theorem dL_law_907 : decode cL_law 907 = .ok (.aload_n 1, 1) := by decide +kernel
theorem dL_law_908 : decode cL_law 908 = .ok (.aload_n 0, 1) := by decide +kernel
theorem dL_law_909 : decode cL_law 909 = .ok (.iload_n 3, 1) := by decide +kernel
theorem dL_law_910 : decode cL_law 910 = .ok (.iconst 1, 1) := by decide +kernel
theorem dL_law_911 : decode cL_law 911 = .ok (.iadd, 1) := by decide +kernel
theorem dL_law_912 : decode cL_law 912 = .ok (.iaload, 1) := by decide +kernel
theorem dL_law_913 : decode cL_law 913 = .ok (.aload_n 0, 1) := by decide +kernel
theorem dL_law_914 : decode cL_law 914 = .ok (.iload_n 3, 1) := by decide +kernel
theorem dL_law_915 : decode cL_law 915 = .ok (.iconst 2, 1) := by decide +kernel
theorem dL_law_916 : decode cL_law 916 = .ok (.iadd, 1) := by decide +kernel
theorem dL_law_917 : decode cL_law 917 = .ok (.iaload, 1) := by decide +kernel
theorem dL_law_918 : decode cL_law 918 = .ok (.invokevirtual 130, 3) := by decide +kernel
theorem dL_law_921 : decode cL_law 921 = .ok (.aload_n 2, 1) := by decide +kernel
theorem dL_law_922 : decode cL_law 922 = .ok (.aload_n 0, 1) := by decide +kernel
theorem dL_law_923 : decode cL_law 923 = .ok (.iload_n 3, 1) := by decide +kernel
theorem dL_law_924 : decode cL_law 924 = .ok (.iconst 1, 1) := by decide +kernel
theorem dL_law_925 : decode cL_law 925 = .ok (.iadd, 1) := by decide +kernel
theorem dL_law_926 : decode cL_law 926 = .ok (.iaload, 1) := by decide +kernel
theorem dL_law_927 : decode cL_law 927 = .ok (.aload_n 0, 1) := by decide +kernel
theorem dL_law_928 : decode cL_law 928 = .ok (.iload_n 3, 1) := by decide +kernel
theorem dL_law_929 : decode cL_law 929 = .ok (.iconst 2, 1) := by decide +kernel
theorem dL_law_930 : decode cL_law 930 = .ok (.iadd, 1) := by decide +kernel
theorem dL_law_931 : decode cL_law 931 = .ok (.iaload, 1) := by decide +kernel
theorem dL_law_932 : decode cL_law 932 = .ok (.invokevirtual 133, 3) := by decide +kernel
theorem dL_law_935 : decode cL_law 935 = .ok (.if_icmp .eq 317, 3) := by decide +kernel
theorem dL_law_938 : decode cL_law 938 = .ok (.iconst 0, 1) := by decide +kernel
theorem dL_law_939 : decode cL_law 939 = .ok (.ireturn, 1) := by decide +kernel
theorem dL_law_940 : decode cL_law 940 = .ok (.aload_n 1, 1) := by decide +kernel
theorem dL_law_941 : decode cL_law 941 = .ok (.aload_n 0, 1) := by decide +kernel
theorem dL_law_942 : decode cL_law 942 = .ok (.iload_n 3, 1) := by decide +kernel
theorem dL_law_943 : decode cL_law 943 = .ok (.iconst 1, 1) := by decide +kernel
theorem dL_law_944 : decode cL_law 944 = .ok (.iadd, 1) := by decide +kernel
theorem dL_law_945 : decode cL_law 945 = .ok (.iaload, 1) := by decide +kernel
theorem dL_law_946 : decode cL_law 946 = .ok (.aload_n 0, 1) := by decide +kernel
theorem dL_law_947 : decode cL_law 947 = .ok (.iload_n 3, 1) := by decide +kernel
theorem dL_law_948 : decode cL_law 948 = .ok (.iconst 2, 1) := by decide +kernel
theorem dL_law_949 : decode cL_law 949 = .ok (.iadd, 1) := by decide +kernel
theorem dL_law_950 : decode cL_law 950 = .ok (.iaload, 1) := by decide +kernel
theorem dL_law_951 : decode cL_law 951 = .ok (.invokevirtual 134, 3) := by decide +kernel
theorem dL_law_954 : decode cL_law 954 = .ok (.aload_n 2, 1) := by decide +kernel
theorem dL_law_955 : decode cL_law 955 = .ok (.aload_n 0, 1) := by decide +kernel
theorem dL_law_956 : decode cL_law 956 = .ok (.iload_n 3, 1) := by decide +kernel
theorem dL_law_957 : decode cL_law 957 = .ok (.iconst 1, 1) := by decide +kernel
theorem dL_law_958 : decode cL_law 958 = .ok (.iadd, 1) := by decide +kernel
theorem dL_law_959 : decode cL_law 959 = .ok (.iaload, 1) := by decide +kernel
theorem dL_law_960 : decode cL_law 960 = .ok (.aload_n 0, 1) := by decide +kernel
theorem dL_law_961 : decode cL_law 961 = .ok (.iload_n 3, 1) := by decide +kernel
theorem dL_law_962 : decode cL_law 962 = .ok (.iconst 2, 1) := by decide +kernel
theorem dL_law_963 : decode cL_law 963 = .ok (.iadd, 1) := by decide +kernel
theorem dL_law_964 : decode cL_law 964 = .ok (.iaload, 1) := by decide +kernel
theorem dL_law_965 : decode cL_law 965 = .ok (.invokevirtual 137, 3) := by decide +kernel
theorem dL_law_968 : decode cL_law 968 = .ok (.if_icmp .eq 284, 3) := by decide +kernel
theorem dL_law_971 : decode cL_law 971 = .ok (.iconst 0, 1) := by decide +kernel
theorem dL_law_972 : decode cL_law 972 = .ok (.ireturn, 1) := by decide +kernel
theorem dL_law_973 : decode cL_law 973 = .ok (.aload_n 1, 1) := by decide +kernel
theorem dL_law_974 : decode cL_law 974 = .ok (.aload_n 0, 1) := by decide +kernel
theorem dL_law_975 : decode cL_law 975 = .ok (.iload_n 3, 1) := by decide +kernel
theorem dL_law_976 : decode cL_law 976 = .ok (.iconst 1, 1) := by decide +kernel
theorem dL_law_977 : decode cL_law 977 = .ok (.iadd, 1) := by decide +kernel
theorem dL_law_978 : decode cL_law 978 = .ok (.iaload, 1) := by decide +kernel
theorem dL_law_979 : decode cL_law 979 = .ok (.invokevirtual 138, 3) := by decide +kernel
theorem dL_law_982 : decode cL_law 982 = .ok (.aload_n 2, 1) := by decide +kernel
theorem dL_law_983 : decode cL_law 983 = .ok (.aload_n 0, 1) := by decide +kernel
theorem dL_law_984 : decode cL_law 984 = .ok (.iload_n 3, 1) := by decide +kernel
theorem dL_law_985 : decode cL_law 985 = .ok (.iconst 1, 1) := by decide +kernel
theorem dL_law_986 : decode cL_law 986 = .ok (.iadd, 1) := by decide +kernel
theorem dL_law_987 : decode cL_law 987 = .ok (.iaload, 1) := by decide +kernel
theorem dL_law_988 : decode cL_law 988 = .ok (.invokevirtual 141, 3) := by decide +kernel
theorem dL_law_991 : decode cL_law 991 = .ok (.if_icmp .eq 261, 3) := by decide +kernel
theorem dL_law_994 : decode cL_law 994 = .ok (.iconst 0, 1) := by decide +kernel
theorem dL_law_995 : decode cL_law 995 = .ok (.ireturn, 1) := by decide +kernel
theorem dL_law_996 : decode cL_law 996 = .ok (.aload_n 1, 1) := by decide +kernel
theorem dL_law_997 : decode cL_law 997 = .ok (.aload_n 0, 1) := by decide +kernel
theorem dL_law_998 : decode cL_law 998 = .ok (.iload_n 3, 1) := by decide +kernel
theorem dL_law_999 : decode cL_law 999 = .ok (.iconst 1, 1) := by decide +kernel
theorem dL_law_1000 : decode cL_law 1000 = .ok (.iadd, 1) := by decide +kernel
theorem dL_law_1001 : decode cL_law 1001 = .ok (.iaload, 1) := by decide +kernel
theorem dL_law_1002 : decode cL_law 1002 = .ok (.invokevirtual 142, 3) := by decide +kernel
theorem dL_law_1005 : decode cL_law 1005 = .ok (.aload_n 2, 1) := by decide +kernel
theorem dL_law_1006 : decode cL_law 1006 = .ok (.aload_n 0, 1) := by decide +kernel
theorem dL_law_1007 : decode cL_law 1007 = .ok (.iload_n 3, 1) := by decide +kernel
theorem dL_law_1008 : decode cL_law 1008 = .ok (.iconst 1, 1) := by decide +kernel
theorem dL_law_1009 : decode cL_law 1009 = .ok (.iadd, 1) := by decide +kernel
theorem dL_law_1010 : decode cL_law 1010 = .ok (.iaload, 1) := by decide +kernel
theorem dL_law_1011 : decode cL_law 1011 = .ok (.invokevirtual 146, 3) := by decide +kernel
theorem dL_law_1014 : decode cL_law 1014 = .ok (.lcmp, 1) := by decide +kernel
theorem dL_law_1015 : decode cL_law 1015 = .ok (.ifCond .eq 237, 3) := by decide +kernel
theorem dL_law_1018 : decode cL_law 1018 = .ok (.iconst 0, 1) := by decide +kernel
theorem dL_law_1019 : decode cL_law 1019 = .ok (.ireturn, 1) := by decide +kernel
theorem dL_law_1020 : decode cL_law 1020 = .ok (.aload_n 1, 1) := by decide +kernel
theorem dL_law_1021 : decode cL_law 1021 = .ok (.invokevirtual 147, 3) := by decide +kernel
theorem dL_law_1024 : decode cL_law 1024 = .ok (.aload_n 2, 1) := by decide +kernel
theorem dL_law_1025 : decode cL_law 1025 = .ok (.invokevirtual 150, 3) := by decide +kernel
theorem dL_law_1028 : decode cL_law 1028 = .ok (.if_icmp .eq 224, 3) := by decide +kernel
theorem dL_law_1031 : decode cL_law 1031 = .ok (.iconst 0, 1) := by decide +kernel
theorem dL_law_1032 : decode cL_law 1032 = .ok (.ireturn, 1) := by decide +kernel
theorem dL_law_1033 : decode cL_law 1033 = .ok (.aload_n 1, 1) := by decide +kernel
theorem dL_law_1034 : decode cL_law 1034 = .ok (.invokevirtual 151, 3) := by decide +kernel
theorem dL_law_1037 : decode cL_law 1037 = .ok (.aload_n 2, 1) := by decide +kernel
theorem dL_law_1038 : decode cL_law 1038 = .ok (.invokevirtual 154, 3) := by decide +kernel
theorem dL_law_1041 : decode cL_law 1041 = .ok (.if_icmp .eq 211, 3) := by decide +kernel
theorem dL_law_1044 : decode cL_law 1044 = .ok (.iconst 0, 1) := by decide +kernel
theorem dL_law_1045 : decode cL_law 1045 = .ok (.ireturn, 1) := by decide +kernel
theorem dL_law_1046 : decode cL_law 1046 = .ok (.aload_n 1, 1) := by decide +kernel
theorem dL_law_1047 : decode cL_law 1047 = .ok (.invokevirtual 155, 3) := by decide +kernel
theorem dL_law_1050 : decode cL_law 1050 = .ok (.aload_n 2, 1) := by decide +kernel
theorem dL_law_1051 : decode cL_law 1051 = .ok (.invokevirtual 158, 3) := by decide +kernel
theorem dL_law_1054 : decode cL_law 1054 = .ok (.if_icmp .eq 198, 3) := by decide +kernel
theorem dL_law_1057 : decode cL_law 1057 = .ok (.iconst 0, 1) := by decide +kernel
theorem dL_law_1058 : decode cL_law 1058 = .ok (.ireturn, 1) := by decide +kernel
theorem dL_law_1059 : decode cL_law 1059 = .ok (.aload_n 1, 1) := by decide +kernel
theorem dL_law_1060 : decode cL_law 1060 = .ok (.invokevirtual 159, 3) := by decide +kernel
theorem dL_law_1063 : decode cL_law 1063 = .ok (.aload_n 2, 1) := by decide +kernel
theorem dL_law_1064 : decode cL_law 1064 = .ok (.invokevirtual 162, 3) := by decide +kernel
theorem dL_law_1067 : decode cL_law 1067 = .ok (.if_icmp .eq 185, 3) := by decide +kernel
theorem dL_law_1070 : decode cL_law 1070 = .ok (.iconst 0, 1) := by decide +kernel
theorem dL_law_1071 : decode cL_law 1071 = .ok (.ireturn, 1) := by decide +kernel
theorem dL_law_1072 : decode cL_law 1072 = .ok (.aload_n 1, 1) := by decide +kernel
theorem dL_law_1073 : decode cL_law 1073 = .ok (.invokevirtual 163, 3) := by decide +kernel
theorem dL_law_1076 : decode cL_law 1076 = .ok (.aload_n 2, 1) := by decide +kernel
theorem dL_law_1077 : decode cL_law 1077 = .ok (.invokevirtual 166, 3) := by decide +kernel
theorem dL_law_1080 : decode cL_law 1080 = .ok (.if_icmp .eq 172, 3) := by decide +kernel
theorem dL_law_1083 : decode cL_law 1083 = .ok (.iconst 0, 1) := by decide +kernel
theorem dL_law_1084 : decode cL_law 1084 = .ok (.ireturn, 1) := by decide +kernel
theorem dL_law_1085 : decode cL_law 1085 = .ok (.aload_n 1, 1) := by decide +kernel
theorem dL_law_1086 : decode cL_law 1086 = .ok (.invokevirtual 167, 3) := by decide +kernel
theorem dL_law_1089 : decode cL_law 1089 = .ok (.aload_n 2, 1) := by decide +kernel
theorem dL_law_1090 : decode cL_law 1090 = .ok (.invokevirtual 170, 3) := by decide +kernel
theorem dL_law_1093 : decode cL_law 1093 = .ok (.if_icmp .eq 159, 3) := by decide +kernel
theorem dL_law_1096 : decode cL_law 1096 = .ok (.iconst 0, 1) := by decide +kernel
theorem dL_law_1097 : decode cL_law 1097 = .ok (.ireturn, 1) := by decide +kernel
theorem dL_law_1098 : decode cL_law 1098 = .ok (.aload_n 1, 1) := by decide +kernel
theorem dL_law_1099 : decode cL_law 1099 = .ok (.invokevirtual 171, 3) := by decide +kernel
theorem dL_law_1102 : decode cL_law 1102 = .ok (.aload_n 2, 1) := by decide +kernel
theorem dL_law_1103 : decode cL_law 1103 = .ok (.invokevirtual 174, 3) := by decide +kernel
theorem dL_law_1106 : decode cL_law 1106 = .ok (.if_icmp .eq 146, 3) := by decide +kernel
theorem dL_law_1109 : decode cL_law 1109 = .ok (.iconst 0, 1) := by decide +kernel
theorem dL_law_1110 : decode cL_law 1110 = .ok (.ireturn, 1) := by decide +kernel
theorem dL_law_1111 : decode cL_law 1111 = .ok (.aload_n 1, 1) := by decide +kernel
theorem dL_law_1112 : decode cL_law 1112 = .ok (.aload_n 0, 1) := by decide +kernel
theorem dL_law_1113 : decode cL_law 1113 = .ok (.iload_n 3, 1) := by decide +kernel
theorem dL_law_1114 : decode cL_law 1114 = .ok (.iconst 1, 1) := by decide +kernel
theorem dL_law_1115 : decode cL_law 1115 = .ok (.iadd, 1) := by decide +kernel
theorem dL_law_1116 : decode cL_law 1116 = .ok (.iaload, 1) := by decide +kernel
theorem dL_law_1117 : decode cL_law 1117 = .ok (.invokevirtual 175, 3) := by decide +kernel
theorem dL_law_1120 : decode cL_law 1120 = .ok (.aload_n 2, 1) := by decide +kernel
theorem dL_law_1121 : decode cL_law 1121 = .ok (.aload_n 0, 1) := by decide +kernel
theorem dL_law_1122 : decode cL_law 1122 = .ok (.iload_n 3, 1) := by decide +kernel
theorem dL_law_1123 : decode cL_law 1123 = .ok (.iconst 1, 1) := by decide +kernel
theorem dL_law_1124 : decode cL_law 1124 = .ok (.iadd, 1) := by decide +kernel
theorem dL_law_1125 : decode cL_law 1125 = .ok (.iaload, 1) := by decide +kernel
theorem dL_law_1126 : decode cL_law 1126 = .ok (.invokevirtual 178, 3) := by decide +kernel
theorem dL_law_1129 : decode cL_law 1129 = .ok (.if_icmp .eq 123, 3) := by decide +kernel
theorem dL_law_1132 : decode cL_law 1132 = .ok (.iconst 0, 1) := by decide +kernel
theorem dL_law_1133 : decode cL_law 1133 = .ok (.ireturn, 1) := by decide +kernel
theorem dL_law_1134 : decode cL_law 1134 = .ok (.aload_n 1, 1) := by decide +kernel
theorem dL_law_1135 : decode cL_law 1135 = .ok (.invokevirtual 179, 3) := by decide +kernel
theorem dL_law_1138 : decode cL_law 1138 = .ok (.aload_n 2, 1) := by decide +kernel
theorem dL_law_1139 : decode cL_law 1139 = .ok (.invokevirtual 182, 3) := by decide +kernel
theorem dL_law_1142 : decode cL_law 1142 = .ok (.if_icmp .eq 110, 3) := by decide +kernel
theorem dL_law_1145 : decode cL_law 1145 = .ok (.iconst 0, 1) := by decide +kernel
theorem dL_law_1146 : decode cL_law 1146 = .ok (.ireturn, 1) := by decide +kernel
theorem dL_law_1147 : decode cL_law 1147 = .ok (.aload_n 1, 1) := by decide +kernel
theorem dL_law_1148 : decode cL_law 1148 = .ok (.invokevirtual 183, 3) := by decide +kernel
theorem dL_law_1151 : decode cL_law 1151 = .ok (.aload_n 2, 1) := by decide +kernel
theorem dL_law_1152 : decode cL_law 1152 = .ok (.invokevirtual 186, 3) := by decide +kernel
theorem dL_law_1155 : decode cL_law 1155 = .ok (.if_icmp .eq 97, 3) := by decide +kernel
theorem dL_law_1158 : decode cL_law 1158 = .ok (.iconst 0, 1) := by decide +kernel
theorem dL_law_1159 : decode cL_law 1159 = .ok (.ireturn, 1) := by decide +kernel
theorem dL_law_1160 : decode cL_law 1160 = .ok (.aload_n 1, 1) := by decide +kernel
theorem dL_law_1161 : decode cL_law 1161 = .ok (.aload_n 0, 1) := by decide +kernel
theorem dL_law_1162 : decode cL_law 1162 = .ok (.iload_n 3, 1) := by decide +kernel
theorem dL_law_1163 : decode cL_law 1163 = .ok (.iconst 1, 1) := by decide +kernel
theorem dL_law_1164 : decode cL_law 1164 = .ok (.iadd, 1) := by decide +kernel
theorem dL_law_1165 : decode cL_law 1165 = .ok (.iaload, 1) := by decide +kernel
theorem dL_law_1166 : decode cL_law 1166 = .ok (.aload_n 0, 1) := by decide +kernel
theorem dL_law_1167 : decode cL_law 1167 = .ok (.iload_n 3, 1) := by decide +kernel
theorem dL_law_1168 : decode cL_law 1168 = .ok (.iconst 2, 1) := by decide +kernel
theorem dL_law_1169 : decode cL_law 1169 = .ok (.iadd, 1) := by decide +kernel
theorem dL_law_1170 : decode cL_law 1170 = .ok (.iaload, 1) := by decide +kernel
theorem dL_law_1171 : decode cL_law 1171 = .ok (.aload_n 0, 1) := by decide +kernel
theorem dL_law_1172 : decode cL_law 1172 = .ok (.iload_n 3, 1) := by decide +kernel
theorem dL_law_1173 : decode cL_law 1173 = .ok (.iconst 3, 1) := by decide +kernel
theorem dL_law_1174 : decode cL_law 1174 = .ok (.iadd, 1) := by decide +kernel
theorem dL_law_1175 : decode cL_law 1175 = .ok (.iaload, 1) := by decide +kernel
theorem dL_law_1176 : decode cL_law 1176 = .ok (.invokevirtual 187, 3) := by decide +kernel
theorem dL_law_1179 : decode cL_law 1179 = .ok (.aload_n 2, 1) := by decide +kernel
theorem dL_law_1180 : decode cL_law 1180 = .ok (.aload_n 0, 1) := by decide +kernel
theorem dL_law_1181 : decode cL_law 1181 = .ok (.iload_n 3, 1) := by decide +kernel
theorem dL_law_1182 : decode cL_law 1182 = .ok (.iconst 1, 1) := by decide +kernel
theorem dL_law_1183 : decode cL_law 1183 = .ok (.iadd, 1) := by decide +kernel
theorem dL_law_1184 : decode cL_law 1184 = .ok (.iaload, 1) := by decide +kernel
theorem dL_law_1185 : decode cL_law 1185 = .ok (.aload_n 0, 1) := by decide +kernel
theorem dL_law_1186 : decode cL_law 1186 = .ok (.iload_n 3, 1) := by decide +kernel
theorem dL_law_1187 : decode cL_law 1187 = .ok (.iconst 2, 1) := by decide +kernel
theorem dL_law_1188 : decode cL_law 1188 = .ok (.iadd, 1) := by decide +kernel
theorem dL_law_1189 : decode cL_law 1189 = .ok (.iaload, 1) := by decide +kernel
theorem dL_law_1190 : decode cL_law 1190 = .ok (.aload_n 0, 1) := by decide +kernel
theorem dL_law_1191 : decode cL_law 1191 = .ok (.iload_n 3, 1) := by decide +kernel
theorem dL_law_1192 : decode cL_law 1192 = .ok (.iconst 3, 1) := by decide +kernel
theorem dL_law_1193 : decode cL_law 1193 = .ok (.iadd, 1) := by decide +kernel
theorem dL_law_1194 : decode cL_law 1194 = .ok (.iaload, 1) := by decide +kernel
theorem dL_law_1195 : decode cL_law 1195 = .ok (.invokevirtual 190, 3) := by decide +kernel
theorem dL_law_1198 : decode cL_law 1198 = .ok (.if_icmp .eq 54, 3) := by decide +kernel
theorem dL_law_1201 : decode cL_law 1201 = .ok (.iconst 0, 1) := by decide +kernel
theorem dL_law_1202 : decode cL_law 1202 = .ok (.ireturn, 1) := by decide +kernel
theorem dL_law_1203 : decode cL_law 1203 = .ok (.aload_n 1, 1) := by decide +kernel
theorem dL_law_1204 : decode cL_law 1204 = .ok (.invokevirtual 191, 3) := by decide +kernel
theorem dL_law_1207 : decode cL_law 1207 = .ok (.aload_n 2, 1) := by decide +kernel
theorem dL_law_1208 : decode cL_law 1208 = .ok (.invokevirtual 194, 3) := by decide +kernel
theorem dL_law_1211 : decode cL_law 1211 = .ok (.if_icmp .eq 41, 3) := by decide +kernel
theorem dL_law_1214 : decode cL_law 1214 = .ok (.iconst 0, 1) := by decide +kernel
theorem dL_law_1215 : decode cL_law 1215 = .ok (.ireturn, 1) := by decide +kernel
theorem dL_law_1216 : decode cL_law 1216 = .ok (.aload_n 1, 1) := by decide +kernel
theorem dL_law_1217 : decode cL_law 1217 = .ok (.invokevirtual 195, 3) := by decide +kernel
theorem dL_law_1220 : decode cL_law 1220 = .ok (.aload_n 2, 1) := by decide +kernel
theorem dL_law_1221 : decode cL_law 1221 = .ok (.invokevirtual 198, 3) := by decide +kernel
theorem dL_law_1224 : decode cL_law 1224 = .ok (.if_icmp .eq 28, 3) := by decide +kernel
theorem dL_law_1227 : decode cL_law 1227 = .ok (.iconst 0, 1) := by decide +kernel
theorem dL_law_1228 : decode cL_law 1228 = .ok (.ireturn, 1) := by decide +kernel
theorem dL_law_1229 : decode cL_law 1229 = .ok (.aload_n 1, 1) := by decide +kernel
theorem dL_law_1230 : decode cL_law 1230 = .ok (.aload_n 0, 1) := by decide +kernel
theorem dL_law_1231 : decode cL_law 1231 = .ok (.iload_n 3, 1) := by decide +kernel
theorem dL_law_1232 : decode cL_law 1232 = .ok (.iconst 1, 1) := by decide +kernel
theorem dL_law_1233 : decode cL_law 1233 = .ok (.iadd, 1) := by decide +kernel
theorem dL_law_1234 : decode cL_law 1234 = .ok (.iaload, 1) := by decide +kernel
theorem dL_law_1235 : decode cL_law 1235 = .ok (.invokevirtual 199, 3) := by decide +kernel
theorem dL_law_1238 : decode cL_law 1238 = .ok (.aload_n 2, 1) := by decide +kernel
theorem dL_law_1239 : decode cL_law 1239 = .ok (.aload_n 0, 1) := by decide +kernel
theorem dL_law_1240 : decode cL_law 1240 = .ok (.iload_n 3, 1) := by decide +kernel
theorem dL_law_1241 : decode cL_law 1241 = .ok (.iconst 1, 1) := by decide +kernel
theorem dL_law_1242 : decode cL_law 1242 = .ok (.iadd, 1) := by decide +kernel
theorem dL_law_1243 : decode cL_law 1243 = .ok (.iaload, 1) := by decide +kernel
theorem dL_law_1244 : decode cL_law 1244 = .ok (.invokevirtual 202, 3) := by decide +kernel
theorem dL_law_1247 : decode cL_law 1247 = .ok (.if_icmp .eq 5, 3) := by decide +kernel
theorem dL_law_1250 : decode cL_law 1250 = .ok (.iconst 0, 1) := by decide +kernel
theorem dL_law_1251 : decode cL_law 1251 = .ok (.ireturn, 1) := by decide +kernel
theorem dL_law_1252 : decode cL_law 1252 = .ok (.iinc 3 5, 3) := by decide +kernel
theorem dL_law_1255 : decode cL_law 1255 = .ok (.goto (-1237), 3) := by decide +kernel
theorem dL_law_1258 : decode cL_law 1258 = .ok (.iconst 1, 1) := by decide +kernel
theorem dL_law_1259 : decode cL_law 1259 = .ok (.ireturn, 1) := by decide +kernel
