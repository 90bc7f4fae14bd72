theorem dX7_grows_40 : decode cX7_grows 40 = .ok (.invokevirtual 58, 3) := by decide +kernel
theorem dX7_grows_43 : decode cX7_grows 43 = .ok (.iload_n 1, 1) := by decide +kernel
theorem dX7_grows_44 : decode cX7_grows 44 = .ok (.aload_n 0, 1) := by decide +kernel
theorem dX7_grows_45 : decode cX7_grows 45 = .ok (.getfield 7, 3) := by decide +kernel
theorem dX7_grows_48 : decode cX7_grows 48 = .ok (.iload_n 1, 1) := by decide +kernel
theorem dX7_grows_49 : decode cX7_grows 49 = .ok (.invokestatic 47, 3) := by decide +kernel
theorem dX7_grows_52 : decode cX7_grows 52 = .ok (.iaload, 1) := by decide +kernel
theorem dX7_grows_53 : decode cX7_grows 53 = .ok (.invokestatic 51, 3) := by decide +kernel
theorem dX7_grows_56 : decode cX7_grows 56 = .ok (.istore 5, 2) := by decide +kernel
theorem dX7_grows_58 : decode cX7_grows 58 = .ok (.aload_n 0, 1) := by decide +kernel
theorem dX7_grows_59 : decode cX7_grows 59 = .ok (.getfield 7, 3) := by decide +kernel
theorem dX7_grows_62 : decode cX7_grows 62 = .ok (.iload 5, 2) := by decide +kernel
theorem dX7_grows_64 : decode cX7_grows 64 = .ok (.iload_n 2, 1) := by decide +kernel
theorem dX7_grows_65 : decode cX7_grows 65 = .ok (.iastore, 1) := by decide +kernel
theorem dX7_grows_66 : decode cX7_grows 66 = .ok (.aload_n 0, 1) := by decide +kernel
theorem dX7_grows_67 : decode cX7_grows 67 = .ok (.getfield 7, 3) := by decide +kernel
theorem dX7_grows_70 : decode cX7_grows 70 = .ok (.iload 5, 2) := by decide +kernel
theorem dX7_grows_72 : decode cX7_grows 72 = .ok (.iconst 1, 1) := by decide +kernel
theorem dX7_grows_73 : decode cX7_grows 73 = .ok (.iadd, 1) := by decide +kernel
theorem dX7_grows_74 : decode cX7_grows 74 = .ok (.iload 4, 2) := by decide +kernel
theorem dX7_grows_76 : decode cX7_grows 76 = .ok (.bipush 9, 2) := by decide +kernel
theorem dX7_grows_78 : decode cX7_grows 78 = .ok (.if_icmp .le 8, 3) := by decide +kernel
theorem dX7_grows_81 : decode cX7_grows 81 = .ok (.bipush 9, 2) := by decide +kernel
theorem dX7_grows_83 : decode cX7_grows 83 = .ok (.goto 5, 3) := by decide +kernel
theorem dX7_grows_86 : decode cX7_grows 86 = .ok (.iload 4, 2) := by decide +kernel
theorem dX7_grows_88 : decode cX7_grows 88 = .ok (.iastore, 1) := by decide +kernel
theorem dX7_grows_89 : decode cX7_grows 89 = .ok (.aload_n 0, 1) := by decide +kernel
theorem dX7_grows_90 : decode cX7_grows 90 = .ok (.getfield 7, 3) := by decide +kernel
theorem dX7_grows_93 : decode cX7_grows 93 = .ok (.iload 5, 2) := by decide +kernel
theorem dX7_grows_95 : decode cX7_grows 95 = .ok (.iconst 2, 1) := by decide +kernel
theorem dX7_grows_96 : decode cX7_grows 96 = .ok (.iadd, 1) := by decide +kernel
theorem dX7_grows_97 : decode cX7_grows 97 = .ok (.iconst 1, 1) := by decide +kernel
theorem dX7_grows_98 : decode cX7_grows 98 = .ok (.iastore, 1) := by decide +kernel
theorem dX7_grows_99 : decode cX7_grows 99 = .ok (.aload_n 0, 1) := by decide +kernel
theorem dX7_grows_100 : decode cX7_grows 100 = .ok (.getfield 7, 3) := by decide +kernel
theorem dX7_grows_103 : decode cX7_grows 103 = .ok (.iload_n 1, 1) := by decide +kernel
theorem dX7_grows_104 : decode cX7_grows 104 = .ok (.invokestatic 47, 3) := by decide +kernel
theorem dX7_grows_107 : decode cX7_grows 107 = .ok (.dup2, 1) := by decide +kernel
theorem dX7_grows_108 : decode cX7_grows 108 = .ok (.iaload, 1) := by decide +kernel
theorem dX7_grows_109 : decode cX7_grows 109 = .ok (.iconst 1, 1) := by decide +kernel
theorem dX7_grows_110 : decode cX7_grows 110 = .ok (.iadd, 1) := by decide +kernel
theorem dX7_grows_111 : decode cX7_grows 111 = .ok (.iastore, 1) := by decide +kernel
theorem dX7_grows_112 : decode cX7_grows 112 = .ok (.aload_n 0, 1) := by decide +kernel
theorem dX7_grows_113 : decode cX7_grows 113 = .ok (.getfield 7, 3) := by decide +kernel
theorem dX7_grows_116 : decode cX7_grows 116 = .ok (.iload_n 1, 1) := by decide +kernel
theorem dX7_grows_117 : decode cX7_grows 117 = .ok (.invokestatic 47, 3) := by decide +kernel
theorem dX7_grows_120 : decode cX7_grows 120 = .ok (.iaload, 1) := by decide +kernel
theorem dX7_grows_121 : decode cX7_grows 121 = .ok (.aload_n 0, 1) := by decide +kernel
theorem dX7_grows_122 : decode cX7_grows 122 = .ok (.getfield 7, 3) := by decide +kernel
theorem dX7_grows_125 : decode cX7_grows 125 = .ok (.iconst 0, 1) := by decide +kernel
theorem dX7_grows_126 : decode cX7_grows 126 = .ok (.iaload, 1) := by decide +kernel
theorem dX7_grows_127 : decode cX7_grows 127 = .ok (.if_icmp .le 28, 3) := by decide +kernel
theorem dX7_grows_130 : decode cX7_grows 130 = .ok (.aload_n 0, 1) := by decide +kernel
theorem dX7_grows_131 : decode cX7_grows 131 = .ok (.iload_n 1, 1) := by decide +kernel
theorem dX7_grows_132 : decode cX7_grows 132 = .ok (.aload_n 0, 1) := by decide +kernel
theorem dX7_grows_133 : decode cX7_grows 133 = .ok (.iload_n 1, 1) := by decide +kernel
theorem dX7_grows_134 : decode cX7_grows 134 = .ok (.invokevirtual 62, 3) := by decide +kernel
theorem dX7_grows_137 : decode cX7_grows 137 = .ok (.invokevirtual 58, 3) := by decide +kernel
theorem dX7_grows_140 : decode cX7_grows 140 = .ok (.aload_n 0, 1) := by decide +kernel
theorem dX7_grows_141 : decode cX7_grows 141 = .ok (.getfield 7, 3) := by decide +kernel
theorem dX7_grows_144 : decode cX7_grows 144 = .ok (.iload_n 1, 1) := by decide +kernel
theorem dX7_grows_145 : decode cX7_grows 145 = .ok (.invokestatic 47, 3) := by decide +kernel
theorem dX7_grows_148 : decode cX7_grows 148 = .ok (.iconst 4, 1) := by decide +kernel
theorem dX7_grows_149 : decode cX7_grows 149 = .ok (.iadd, 1) := by decide +kernel
theorem dX7_grows_150 : decode cX7_grows 150 = .ok (.dup2, 1) := by decide +kernel
theorem dX7_grows_151 : decode cX7_grows 151 = .ok (.iaload, 1) := by decide +kernel
theorem dX7_grows_152 : decode cX7_grows 152 = .ok (.iconst 1, 1) := by decide +kernel
theorem dX7_grows_153 : decode cX7_grows 153 = .ok (.iadd, 1) := by decide +kernel
theorem dX7_grows_154 : decode cX7_grows 154 = .ok (.iastore, 1) := by decide +kernel
theorem dX7_grows_155 : decode cX7_grows 155 = .ok (.return_, 1) := by decide +kernel
theorem dX7_hears_0 : decode cX7_hears 0 = .ok (.iload_n 1, 1) := by decide +kernel
theorem dX7_hears_1 : decode cX7_hears 1 = .ok (.invokestatic 47, 3) := by decide +kernel
theorem dX7_hears_4 : decode cX7_hears 4 = .ok (.istore_n 3, 1) := by decide +kernel
theorem dX7_hears_5 : decode cX7_hears 5 = .ok (.aload_n 0, 1) := by decide +kernel
theorem dX7_hears_6 : decode cX7_hears 6 = .ok (.getfield 7, 3) := by decide +kernel
theorem dX7_hears_9 : decode cX7_hears 9 = .ok (.iload_n 3, 1) := by decide +kernel
theorem dX7_hears_10 : decode cX7_hears 10 = .ok (.iconst 1, 1) := by decide +kernel
theorem dX7_hears_11 : decode cX7_hears 11 = .ok (.iadd, 1) := by decide +kernel
theorem dX7_hears_12 : decode cX7_hears 12 = .ok (.iaload, 1) := by decide +kernel
theorem dX7_hears_13 : decode cX7_hears 13 = .ok (.ifCond .lt 21, 3) := by decide +kernel
theorem dX7_hears_16 : decode cX7_hears 16 = .ok (.aload_n 0, 1) := by decide +kernel
theorem dX7_hears_17 : decode cX7_hears 17 = .ok (.iload_n 1, 1) := by decide +kernel
theorem dX7_hears_18 : decode cX7_hears 18 = .ok (.bipush 26, 2) := by decide +kernel
theorem dX7_hears_20 : decode cX7_hears 20 = .ok (.aload_n 0, 1) := by decide +kernel
theorem dX7_hears_21 : decode cX7_hears 21 = .ok (.getfield 7, 3) := by decide +kernel
theorem dX7_hears_24 : decode cX7_hears 24 = .ok (.iload_n 3, 1) := by decide +kernel
theorem dX7_hears_25 : decode cX7_hears 25 = .ok (.iconst 1, 1) := by decide +kernel
theorem dX7_hears_26 : decode cX7_hears 26 = .ok (.iadd, 1) := by decide +kernel
theorem dX7_hears_27 : decode cX7_hears 27 = .ok (.iaload, 1) := by decide +kernel
theorem dX7_hears_28 : decode cX7_hears 28 = .ok (.imul, 1) := by decide +kernel
theorem dX7_hears_29 : decode cX7_hears 29 = .ok (.iload_n 2, 1) := by decide +kernel
theorem dX7_hears_30 : decode cX7_hears 30 = .ok (.iadd, 1) := by decide +kernel
theorem dX7_hears_31 : decode cX7_hears 31 = .ok (.invokevirtual 65, 3) := by decide +kernel
theorem dX7_hears_34 : decode cX7_hears 34 = .ok (.aload_n 0, 1) := by decide +kernel
theorem dX7_hears_35 : decode cX7_hears 35 = .ok (.getfield 7, 3) := by decide +kernel
theorem dX7_hears_38 : decode cX7_hears 38 = .ok (.iload_n 3, 1) := by decide +kernel
theorem dX7_hears_39 : decode cX7_hears 39 = .ok (.iconst 1, 1) := by decide +kernel
theorem dX7_hears_40 : decode cX7_hears 40 = .ok (.iadd, 1) := by decide +kernel
theorem dX7_hears_41 : decode cX7_hears 41 = .ok (.iload_n 2, 1) := by decide +kernel
theorem dX7_hears_42 : decode cX7_hears 42 = .ok (.iastore, 1) := by decide +kernel
theorem dX7_hears_43 : decode cX7_hears 43 = .ok (.aload_n 0, 1) := by decide +kernel
theorem dX7_hears_44 : decode cX7_hears 44 = .ok (.getfield 7, 3) := by decide +kernel
theorem dX7_hears_47 : decode cX7_hears 47 = .ok (.iload_n 3, 1) := by decide +kernel
theorem dX7_hears_48 : decode cX7_hears 48 = .ok (.iconst 2, 1) := by decide +kernel
theorem dX7_hears_49 : decode cX7_hears 49 = .ok (.iadd, 1) := by decide +kernel
theorem dX7_hears_50 : decode cX7_hears 50 = .ok (.dup2, 1) := by decide +kernel
theorem dX7_hears_51 : decode cX7_hears 51 = .ok (.iaload, 1) := by decide +kernel
theorem dX7_hears_52 : decode cX7_hears 52 = .ok (.iconst 1, 1) := by decide +kernel
theorem dX7_hears_53 : decode cX7_hears 53 = .ok (.iadd, 1) := by decide +kernel
theorem dX7_hears_54 : decode cX7_hears 54 = .ok (.iastore, 1) := by decide +kernel
theorem dX7_hears_55 : decode cX7_hears 55 = .ok (.aload_n 0, 1) := by decide +kernel
theorem dX7_hears_56 : decode cX7_hears 56 = .ok (.getfield 7, 3) := by decide +kernel
theorem dX7_hears_59 : decode cX7_hears 59 = .ok (.iload_n 3, 1) := by decide +kernel
theorem dX7_hears_60 : decode cX7_hears 60 = .ok (.iconst 3, 1) := by decide +kernel
theorem dX7_hears_61 : decode cX7_hears 61 = .ok (.iadd, 1) := by decide +kernel
theorem dX7_hears_62 : decode cX7_hears 62 = .ok (.dup2, 1) := by decide +kernel
theorem dX7_hears_63 : decode cX7_hears 63 = .ok (.iaload, 1) := by decide +kernel
theorem dX7_hears_64 : decode cX7_hears 64 = .ok (.iconst 1, 1) := by decide +kernel
theorem dX7_hears_65 : decode cX7_hears 65 = .ok (.iadd, 1) := by decide +kernel
theorem dX7_hears_66 : decode cX7_hears 66 = .ok (.iastore, 1) := by decide +kernel
theorem dX7_hears_67 : decode cX7_hears 67 = .ok (.aload_n 0, 1) := by decide +kernel
theorem dX7_hears_68 : decode cX7_hears 68 = .ok (.getfield 7, 3) := by decide +kernel
theorem dX7_hears_71 : decode cX7_hears 71 = .ok (.bipush 8, 2) := by decide +kernel
theorem dX7_hears_73 : decode cX7_hears 73 = .ok (.dup2, 1) := by decide +kernel
theorem dX7_hears_74 : decode cX7_hears 74 = .ok (.iaload, 1) := by decide +kernel
theorem dX7_hears_75 : decode cX7_hears 75 = .ok (.iconst 1, 1) := by decide +kernel
theorem dX7_hears_76 : decode cX7_hears 76 = .ok (.iadd, 1) := by decide +kernel
theorem dX7_hears_77 : decode cX7_hears 77 = .ok (.iastore, 1) := by decide +kernel
theorem dX7_hears_78 : decode cX7_hears 78 = .ok (.return_, 1) := by decide +kernel
theorem dX7_isTired_0 : decode cX7_isTired 0 = .ok (.aload_n 0, 1) := by decide +kernel
theorem dX7_isTired_1 : decode cX7_isTired 1 = .ok (.getfield 7, 3) := by decide +kernel
theorem dX7_isTired_4 : decode cX7_isTired 4 = .ok (.iload_n 1, 1) := by decide +kernel
theorem dX7_isTired_5 : decode cX7_isTired 5 = .ok (.invokestatic 47, 3) := by decide +kernel
theorem dX7_isTired_8 : decode cX7_isTired 8 = .ok (.iconst 2, 1) := by decide +kernel
theorem dX7_isTired_9 : decode cX7_isTired 9 = .ok (.iadd, 1) := by decide +kernel
theorem dX7_isTired_10 : decode cX7_isTired 10 = .ok (.iaload, 1) := by decide +kernel
theorem dX7_isTired_11 : decode cX7_isTired 11 = .ok (.aload_n 0, 1) := by decide +kernel
theorem dX7_isTired_12 : decode cX7_isTired 12 = .ok (.getfield 7, 3) := by decide +kernel
theorem dX7_isTired_15 : decode cX7_isTired 15 = .ok (.iconst 3, 1) := by decide +kernel
theorem dX7_isTired_16 : decode cX7_isTired 16 = .ok (.iaload, 1) := by decide +kernel
theorem dX7_isTired_17 : decode cX7_isTired 17 = .ok (.if_icmp .lt 7, 3) := by decide +kernel
theorem dX7_isTired_20 : decode cX7_isTired 20 = .ok (.iconst 1, 1) := by decide +kernel
theorem dX7_isTired_21 : decode cX7_isTired 21 = .ok (.goto 4, 3) := by decide +kernel
theorem dX7_isTired_24 : decode cX7_isTired 24 = .ok (.iconst 0, 1) := by decide +kernel
theorem dX7_isTired_25 : decode cX7_isTired 25 = .ok (.ireturn, 1) := by decide +kernel
theorem dX7_goesOn_0 : decode cX7_goesOn 0 = .ok (.iconst (-1), 1) := by decide +kernel
theorem dX7_goesOn_1 : decode cX7_goesOn 1 = .ok (.istore_n 3, 1) := by decide +kernel
theorem dX7_goesOn_2 : decode cX7_goesOn 2 = .ok (.iconst 0, 1) := by decide +kernel
theorem dX7_goesOn_3 : decode cX7_goesOn 3 = .ok (.istore 4, 2) := by decide +kernel
theorem dX7_goesOn_5 : decode cX7_goesOn 5 = .ok (.iload 4, 2) := by decide +kernel
theorem dX7_goesOn_7 : decode cX7_goesOn 7 = .ok (.aload_n 0, 1) := by decide +kernel
theorem dX7_goesOn_8 : decode cX7_goesOn 8 = .ok (.getfield 7, 3) := by decide +kernel
theorem dX7_goesOn_11 : decode cX7_goesOn 11 = .ok (.iload_n 1, 1) := by decide +kernel
theorem dX7_goesOn_12 : decode cX7_goesOn 12 = .ok (.invokestatic 47, 3) := by decide +kernel
theorem dX7_goesOn_15 : decode cX7_goesOn 15 = .ok (.iaload, 1) := by decide +kernel
theorem dX7_goesOn_16 : decode cX7_goesOn 16 = .ok (.if_icmp .ge 67, 3) := by decide +kernel
theorem dX7_goesOn_19 : decode cX7_goesOn 19 = .ok (.iload_n 1, 1) := by decide +kernel
theorem dX7_goesOn_20 : decode cX7_goesOn 20 = .ok (.iload 4, 2) := by decide +kernel
theorem dX7_goesOn_22 : decode cX7_goesOn 22 = .ok (.invokestatic 51, 3) := by decide +kernel
theorem dX7_goesOn_25 : decode cX7_goesOn 25 = .ok (.istore 5, 2) := by decide +kernel
theorem dX7_goesOn_27 : decode cX7_goesOn 27 = .ok (.aload_n 0, 1) := by decide +kernel
theorem dX7_goesOn_28 : decode cX7_goesOn 28 = .ok (.getfield 7, 3) := by decide +kernel
theorem dX7_goesOn_31 : decode cX7_goesOn 31 = .ok (.iload 5, 2) := by decide +kernel
theorem dX7_goesOn_33 : decode cX7_goesOn 33 = .ok (.iaload, 1) := by decide +kernel
theorem dX7_goesOn_34 : decode cX7_goesOn 34 = .ok (.bipush 26, 2) := by decide +kernel
theorem dX7_goesOn_36 : decode cX7_goesOn 36 = .ok (.idiv, 1) := by decide +kernel
theorem dX7_goesOn_37 : decode cX7_goesOn 37 = .ok (.iload_n 2, 1) := by decide +kernel
theorem dX7_goesOn_38 : decode cX7_goesOn 38 = .ok (.if_icmp .ne 37, 3) := by decide +kernel
theorem dX7_goesOn_41 : decode cX7_goesOn 41 = .ok (.iload_n 3, 1) := by decide +kernel
theorem dX7_goesOn_42 : decode cX7_goesOn 42 = .ok (.iconst (-1), 1) := by decide +kernel
theorem dX7_goesOn_43 : decode cX7_goesOn 43 = .ok (.if_icmp .eq 27, 3) := by decide +kernel
theorem dX7_goesOn_46 : decode cX7_goesOn 46 = .ok (.aload_n 0, 1) := by decide +kernel
theorem dX7_goesOn_47 : decode cX7_goesOn 47 = .ok (.getfield 7, 3) := by decide +kernel
theorem dX7_goesOn_50 : decode cX7_goesOn 50 = .ok (.iload 5, 2) := by decide +kernel
theorem dX7_goesOn_52 : decode cX7_goesOn 52 = .ok (.iconst 1, 1) := by decide +kernel
theorem dX7_goesOn_53 : decode cX7_goesOn 53 = .ok (.iadd, 1) := by decide +kernel
theorem dX7_goesOn_54 : decode cX7_goesOn 54 = .ok (.iaload, 1) := by decide +kernel
theorem dX7_goesOn_55 : decode cX7_goesOn 55 = .ok (.aload_n 0, 1) := by decide +kernel
theorem dX7_goesOn_56 : decode cX7_goesOn 56 = .ok (.getfield 7, 3) := by decide +kernel
theorem dX7_goesOn_59 : decode cX7_goesOn 59 = .ok (.iload_n 1, 1) := by decide +kernel
theorem dX7_goesOn_60 : decode cX7_goesOn 60 = .ok (.iload_n 3, 1) := by decide +kernel
theorem dX7_goesOn_61 : decode cX7_goesOn 61 = .ok (.invokestatic 51, 3) := by decide +kernel
theorem dX7_goesOn_64 : decode cX7_goesOn 64 = .ok (.iconst 1, 1) := by decide +kernel
theorem dX7_goesOn_65 : decode cX7_goesOn 65 = .ok (.iadd, 1) := by decide +kernel
theorem dX7_goesOn_66 : decode cX7_goesOn 66 = .ok (.iaload, 1) := by decide +kernel
theorem dX7_goesOn_67 : decode cX7_goesOn 67 = .ok (.if_icmp .lt 8, 3) := by decide +kernel
theorem dX7_goesOn_70 : decode cX7_goesOn 70 = .ok (.iload 4, 2) := by decide +kernel
theorem dX7_goesOn_72 : decode cX7_goesOn 72 = .ok (.goto 4, 3) := by decide +kernel
theorem dX7_goesOn_75 : decode cX7_goesOn 75 = .ok (.iload_n 3, 1) := by decide +kernel
theorem dX7_goesOn_76 : decode cX7_goesOn 76 = .ok (.istore_n 3, 1) := by decide +kernel
theorem dX7_goesOn_77 : decode cX7_goesOn 77 = .ok (.iinc 4 1, 3) := by decide +kernel
theorem dX7_goesOn_80 : decode cX7_goesOn 80 = .ok (.goto (-75), 3) := by decide +kernel
theorem dX7_goesOn_83 : decode cX7_goesOn 83 = .ok (.iload_n 3, 1) := by decide +kernel
theorem dX7_goesOn_84 : decode cX7_goesOn 84 = .ok (.iconst (-1), 1) := by decide +kernel
theorem dX7_goesOn_85 : decode cX7_goesOn 85 = .ok (.if_icmp .ne 7, 3) := by decide +kernel
theorem dX7_goesOn_88 : decode cX7_goesOn 88 = .ok (.iconst (-1), 1) := by decide +kernel
theorem dX7_goesOn_89 : decode cX7_goesOn 89 = .ok (.goto 16, 3) := by decide +kernel
theorem dX7_goesOn_92 : decode cX7_goesOn 92 = .ok (.aload_n 0, 1) := by decide +kernel
theorem dX7_goesOn_93 : decode cX7_goesOn 93 = .ok (.getfield 7, 3) := by decide +kernel
theorem dX7_goesOn_96 : decode cX7_goesOn 96 = .ok (.iload_n 1, 1) := by decide +kernel
theorem dX7_goesOn_97 : decode cX7_goesOn 97 = .ok (.iload_n 3, 1) := by decide +kernel
theorem dX7_goesOn_98 : decode cX7_goesOn 98 = .ok (.invokestatic 51, 3) := by decide +kernel
theorem dX7_goesOn_101 : decode cX7_goesOn 101 = .ok (.iaload, 1) := by decide +kernel
theorem dX7_goesOn_102 : decode cX7_goesOn 102 = .ok (.bipush 26, 2) := by decide +kernel
theorem dX7_goesOn_104 : decode cX7_goesOn 104 = .ok (.irem, 1) := by decide +kernel
theorem dX7_goesOn_105 : decode cX7_goesOn 105 = .ok (.ireturn, 1) := by decide +kernel
theorem dX7_right_0 : decode cX7_right 0 = .ok (.iload_n 2, 1) := by decide +kernel
theorem dX7_right_1 : decode cX7_right 1 = .ok (.invokestatic 68, 3) := by decide +kernel
theorem dX7_right_4 : decode cX7_right 4 = .ok (.istore_n 3, 1) := by decide +kernel
theorem dX7_right_5 : decode cX7_right 5 = .ok (.iconst 0, 1) := by decide +kernel
theorem dX7_right_6 : decode cX7_right 6 = .ok (.istore 4, 2) := by decide +kernel
theorem dX7_right_8 : decode cX7_right 8 = .ok (.iload 4, 2) := by decide +kernel
theorem dX7_right_10 : decode cX7_right 10 = .ok (.iconst 1, 1) := by decide +kernel
theorem dX7_right_11 : decode cX7_right 11 = .ok (.iadd, 1) := by decide +kernel
theorem dX7_right_12 : decode cX7_right 12 = .ok (.aload_n 0, 1) := by decide +kernel
theorem dX7_right_13 : decode cX7_right 13 = .ok (.getfield 7, 3) := by decide +kernel
theorem dX7_right_16 : decode cX7_right 16 = .ok (.iload_n 3, 1) := by decide +kernel
theorem dX7_right_17 : decode cX7_right 17 = .ok (.iaload, 1) := by decide +kernel
theorem dX7_right_18 : decode cX7_right 18 = .ok (.if_icmp .ge 39, 3) := by decide +kernel
theorem dX7_right_21 : decode cX7_right 21 = .ok (.aload_n 0, 1) := by decide +kernel
theorem dX7_right_22 : decode cX7_right 22 = .ok (.iload_n 1, 1) := by decide +kernel
theorem dX7_right_23 : decode cX7_right 23 = .ok (.aload_n 0, 1) := by decide +kernel
theorem dX7_right_24 : decode cX7_right 24 = .ok (.getfield 7, 3) := by decide +kernel
theorem dX7_right_27 : decode cX7_right 27 = .ok (.iload_n 3, 1) := by decide +kernel
theorem dX7_right_28 : decode cX7_right 28 = .ok (.iconst 2, 1) := by decide +kernel
theorem dX7_right_29 : decode cX7_right 29 = .ok (.iadd, 1) := by decide +kernel
theorem dX7_right_30 : decode cX7_right 30 = .ok (.iload 4, 2) := by decide +kernel
theorem dX7_right_32 : decode cX7_right 32 = .ok (.iadd, 1) := by decide +kernel
theorem dX7_right_33 : decode cX7_right 33 = .ok (.iaload, 1) := by decide +kernel
theorem dX7_right_34 : decode cX7_right 34 = .ok (.invokevirtual 71, 3) := by decide +kernel
theorem dX7_right_37 : decode cX7_right 37 = .ok (.aload_n 0, 1) := by decide +kernel
theorem dX7_right_38 : decode cX7_right 38 = .ok (.getfield 7, 3) := by decide +kernel
theorem dX7_right_41 : decode cX7_right 41 = .ok (.iload_n 3, 1) := by decide +kernel
theorem dX7_right_42 : decode cX7_right 42 = .ok (.iconst 3, 1) := by decide +kernel
theorem dX7_right_43 : decode cX7_right 43 = .ok (.iadd, 1) := by decide +kernel
theorem dX7_right_44 : decode cX7_right 44 = .ok (.iload 4, 2) := by decide +kernel
theorem dX7_right_46 : decode cX7_right 46 = .ok (.iadd, 1) := by decide +kernel
theorem dX7_right_47 : decode cX7_right 47 = .ok (.iaload, 1) := by decide +kernel
theorem dX7_right_48 : decode cX7_right 48 = .ok (.if_icmp .ne 9, 3) := by decide +kernel
theorem dX7_right_51 : decode cX7_right 51 = .ok (.iinc 4 1, 3) := by decide +kernel
theorem dX7_right_54 : decode cX7_right 54 = .ok (.goto (-46), 3) := by decide +kernel
theorem dX7_right_57 : decode cX7_right 57 = .ok (.iload 4, 2) := by decide +kernel
theorem dX7_right_59 : decode cX7_right 59 = .ok (.ireturn, 1) := by decide +kernel
theorem dX7_hundredths_0 : decode cX7_hundredths 0 = .ok (.aload_n 0, 1) := by decide +kernel
theorem dX7_hundredths_1 : decode cX7_hundredths 1 = .ok (.getfield 7, 3) := by decide +kernel
theorem dX7_hundredths_4 : decode cX7_hundredths 4 = .ok (.iload_n 2, 1) := by decide +kernel
theorem dX7_hundredths_5 : decode cX7_hundredths 5 = .ok (.invokestatic 68, 3) := by decide +kernel
theorem dX7_hundredths_8 : decode cX7_hundredths 8 = .ok (.iaload, 1) := by decide +kernel
theorem dX7_hundredths_9 : decode cX7_hundredths 9 = .ok (.iconst 1, 1) := by decide +kernel
theorem dX7_hundredths_10 : decode cX7_hundredths 10 = .ok (.if_icmp .ne 8, 3) := by decide +kernel
theorem dX7_hundredths_13 : decode cX7_hundredths 13 = .ok (.bipush 100, 2) := by decide +kernel
theorem dX7_hundredths_15 : decode cX7_hundredths 15 = .ok (.goto 24, 3) := by decide +kernel
theorem dX7_hundredths_18 : decode cX7_hundredths 18 = .ok (.bipush 100, 2) := by decide +kernel
theorem dX7_hundredths_20 : decode cX7_hundredths 20 = .ok (.aload_n 0, 1) := by decide +kernel
theorem dX7_hundredths_21 : decode cX7_hundredths 21 = .ok (.iload_n 1, 1) := by decide +kernel
theorem dX7_hundredths_22 : decode cX7_hundredths 22 = .ok (.iload_n 2, 1) := by decide +kernel
theorem dX7_hundredths_23 : decode cX7_hundredths 23 = .ok (.invokevirtual 74, 3) := by decide +kernel
theorem dX7_hundredths_26 : decode cX7_hundredths 26 = .ok (.imul, 1) := by decide +kernel
theorem dX7_hundredths_27 : decode cX7_hundredths 27 = .ok (.aload_n 0, 1) := by decide +kernel
theorem dX7_hundredths_28 : decode cX7_hundredths 28 = .ok (.getfield 7, 3) := by decide +kernel
theorem dX7_hundredths_31 : decode cX7_hundredths 31 = .ok (.iload_n 2, 1) := by decide +kernel
theorem dX7_hundredths_32 : decode cX7_hundredths 32 = .ok (.invokestatic 68, 3) := by decide +kernel
theorem dX7_hundredths_35 : decode cX7_hundredths 35 = .ok (.iaload, 1) := by decide +kernel
theorem dX7_hundredths_36 : decode cX7_hundredths 36 = .ok (.iconst 1, 1) := by decide +kernel
theorem dX7_hundredths_37 : decode cX7_hundredths 37 = .ok (.isub, 1) := by decide +kernel
theorem dX7_hundredths_38 : decode cX7_hundredths 38 = .ok (.idiv, 1) := by decide +kernel
theorem dX7_hundredths_39 : decode cX7_hundredths 39 = .ok (.ireturn, 1) := by decide +kernel
theorem dX7_known_0 : decode cX7_known 0 = .ok (.iconst 0, 1) := by decide +kernel
theorem dX7_known_1 : decode cX7_known 1 = .ok (.istore_n 2, 1) := by decide +kernel
theorem dX7_known_2 : decode cX7_known 2 = .ok (.iconst 0, 1) := by decide +kernel
theorem dX7_known_3 : decode cX7_known 3 = .ok (.istore_n 3, 1) := by decide +kernel
theorem dX7_known_4 : decode cX7_known 4 = .ok (.iload_n 3, 1) := by decide +kernel
theorem dX7_known_5 : decode cX7_known 5 = .ok (.aload_n 0, 1) := by decide +kernel
theorem dX7_known_6 : decode cX7_known 6 = .ok (.getfield 7, 3) := by decide +kernel
theorem dX7_known_9 : decode cX7_known 9 = .ok (.iconst 5, 1) := by decide +kernel
theorem dX7_known_10 : decode cX7_known 10 = .ok (.iaload, 1) := by decide +kernel
theorem dX7_known_11 : decode cX7_known 11 = .ok (.if_icmp .ge 18, 3) := by decide +kernel
theorem dX7_known_14 : decode cX7_known 14 = .ok (.iload_n 2, 1) := by decide +kernel
theorem dX7_known_15 : decode cX7_known 15 = .ok (.aload_n 0, 1) := by decide +kernel
theorem dX7_known_16 : decode cX7_known 16 = .ok (.iload_n 1, 1) := by decide +kernel
theorem dX7_known_17 : decode cX7_known 17 = .ok (.iload_n 3, 1) := by decide +kernel
theorem dX7_known_18 : decode cX7_known 18 = .ok (.invokevirtual 77, 3) := by decide +kernel
theorem dX7_known_21 : decode cX7_known 21 = .ok (.iadd, 1) := by decide +kernel
theorem dX7_known_22 : decode cX7_known 22 = .ok (.istore_n 2, 1) := by decide +kernel
theorem dX7_known_23 : decode cX7_known 23 = .ok (.iinc 3 1, 3) := by decide +kernel
theorem dX7_known_26 : decode cX7_known 26 = .ok (.goto (-22), 3) := by decide +kernel
theorem dX7_known_29 : decode cX7_known 29 = .ok (.iload_n 2, 1) := by decide +kernel
theorem dX7_known_30 : decode cX7_known 30 = .ok (.ireturn, 1) := by decide +kernel
theorem dX7_comes_0 : decode cX7_comes 0 = .ok (.aload_n 0, 1) := by decide +kernel
theorem dX7_comes_1 : decode cX7_comes 1 = .ok (.getfield 7, 3) := by decide +kernel
theorem dX7_comes_4 : decode cX7_comes 4 = .ok (.bipush 6, 2) := by decide +kernel
theorem dX7_comes_6 : decode cX7_comes 6 = .ok (.iaload, 1) := by decide +kernel
theorem dX7_comes_7 : decode cX7_comes 7 = .ok (.iconst 4, 1) := by decide +kernel
theorem dX7_comes_8 : decode cX7_comes 8 = .ok (.if_icmp .ne 6, 3) := by decide +kernel
theorem dX7_comes_11 : decode cX7_comes 11 = .ok (.bipush (-4), 2) := by decide +kernel
theorem dX7_comes_13 : decode cX7_comes 13 = .ok (.ireturn, 1) := by decide +kernel
theorem dX7_comes_14 : decode cX7_comes 14 = .ok (.aload_n 0, 1) := by decide +kernel
theorem dX7_comes_15 : decode cX7_comes 15 = .ok (.getfield 7, 3) := by decide +kernel
theorem dX7_comes_18 : decode cX7_comes 18 = .ok (.bipush 6, 2) := by decide +kernel
theorem dX7_comes_20 : decode cX7_comes 20 = .ok (.iaload, 1) := by decide +kernel
theorem dX7_comes_21 : decode cX7_comes 21 = .ok (.invokestatic 47, 3) := by decide +kernel
theorem dX7_comes_24 : decode cX7_comes 24 = .ok (.istore_n 1, 1) := by decide +kernel
theorem dX7_comes_25 : decode cX7_comes 25 = .ok (.iconst 0, 1) := by decide +kernel
theorem dX7_comes_26 : decode cX7_comes 26 = .ok (.istore_n 2, 1) := by decide +kernel
theorem dX7_comes_27 : decode cX7_comes 27 = .ok (.iload_n 2, 1) := by decide +kernel
theorem dX7_comes_28 : decode cX7_comes 28 = .ok (.iconst 5, 1) := by decide +kernel
theorem dX7_comes_29 : decode cX7_comes 29 = .ok (.if_icmp .ge 18, 3) := by decide +kernel
theorem dX7_comes_32 : decode cX7_comes 32 = .ok (.aload_n 0, 1) := by decide +kernel
theorem dX7_comes_33 : decode cX7_comes 33 = .ok (.getfield 7, 3) := by decide +kernel
theorem dX7_comes_36 : decode cX7_comes 36 = .ok (.iload_n 1, 1) := by decide +kernel
theorem dX7_comes_37 : decode cX7_comes 37 = .ok (.iload_n 2, 1) := by decide +kernel
theorem dX7_comes_38 : decode cX7_comes 38 = .ok (.iadd, 1) := by decide +kernel
theorem dX7_comes_39 : decode cX7_comes 39 = .ok (.iconst 0, 1) := by decide +kernel
theorem dX7_comes_40 : decode cX7_comes 40 = .ok (.iastore, 1) := by decide +kernel
theorem dX7_comes_41 : decode cX7_comes 41 = .ok (.iinc 2 1, 3) := by decide +kernel
theorem dX7_comes_44 : decode cX7_comes 44 = .ok (.goto (-17), 3) := by decide +kernel
theorem dX7_comes_47 : decode cX7_comes 47 = .ok (.aload_n 0, 1) := by decide +kernel
theorem dX7_comes_48 : decode cX7_comes 48 = .ok (.getfield 7, 3) := by decide +kernel
theorem dX7_comes_51 : decode cX7_comes 51 = .ok (.iload_n 1, 1) := by decide +kernel
theorem dX7_comes_52 : decode cX7_comes 52 = .ok (.iconst 1, 1) := by decide +kernel
theorem dX7_comes_53 : decode cX7_comes 53 = .ok (.iadd, 1) := by decide +kernel
theorem dX7_comes_54 : decode cX7_comes 54 = .ok (.iconst (-1), 1) := by decide +kernel
theorem dX7_comes_55 : decode cX7_comes 55 = .ok (.iastore, 1) := by decide +kernel
theorem dX7_comes_56 : decode cX7_comes 56 = .ok (.aload_n 0, 1) := by decide +kernel
theorem dX7_comes_57 : decode cX7_comes 57 = .ok (.getfield 7, 3) := by decide +kernel
theorem dX7_comes_60 : decode cX7_comes 60 = .ok (.bipush 6, 2) := by decide +kernel
theorem dX7_comes_62 : decode cX7_comes 62 = .ok (.dup2, 1) := by decide +kernel
theorem dX7_comes_63 : decode cX7_comes 63 = .ok (.iaload, 1) := by decide +kernel
theorem dX7_comes_64 : decode cX7_comes 64 = .ok (.iconst 1, 1) := by decide +kernel
theorem dX7_comes_65 : decode cX7_comes 65 = .ok (.iadd, 1) := by decide +kernel
theorem dX7_comes_66 : decode cX7_comes 66 = .ok (.iastore, 1) := by decide +kernel
theorem dX7_comes_67 : decode cX7_comes 67 = .ok (.aload_n 0, 1) := by decide +kernel
theorem dX7_comes_68 : decode cX7_comes 68 = .ok (.getfield 7, 3) := by decide +kernel
theorem dX7_comes_71 : decode cX7_comes 71 = .ok (.bipush 6, 2) := by decide +kernel
theorem dX7_comes_73 : decode cX7_comes 73 = .ok (.iaload, 1) := by decide +kernel
theorem dX7_comes_74 : decode cX7_comes 74 = .ok (.iconst 1, 1) := by decide +kernel
theorem dX7_comes_75 : decode cX7_comes 75 = .ok (.isub, 1) := by decide +kernel
theorem dX7_comes_76 : decode cX7_comes 76 = .ok (.ireturn, 1) := by decide +kernel
theorem dX7_song_0 : decode cX7_song 0 = .ok (.aload_n 0, 1) := by decide +kernel
theorem dX7_song_1 : decode cX7_song 1 = .ok (.getfield 7, 3) := by decide +kernel
theorem dX7_song_4 : decode cX7_song 4 = .ok (.iconst 5, 1) := by decide +kernel
theorem dX7_song_5 : decode cX7_song 5 = .ok (.iaload, 1) := by decide +kernel
theorem dX7_song_6 : decode cX7_song 6 = .ok (.bipush 8, 2) := by decide +kernel
theorem dX7_song_8 : decode cX7_song 8 = .ok (.if_icmp .ne 6, 3) := by decide +kernel
theorem dX7_song_11 : decode cX7_song 11 = .ok (.bipush (-4), 2) := by decide +kernel
theorem dX7_song_13 : decode cX7_song 13 = .ok (.ireturn, 1) := by decide +kernel
theorem dX7_song_14 : decode cX7_song 14 = .ok (.aload_n 0, 1) := by decide +kernel
theorem dX7_song_15 : decode cX7_song 15 = .ok (.getfield 7, 3) := by decide +kernel
theorem dX7_song_18 : decode cX7_song 18 = .ok (.iconst 5, 1) := by decide +kernel
theorem dX7_song_19 : decode cX7_song 19 = .ok (.iaload, 1) := by decide +kernel
theorem dX7_song_20 : decode cX7_song 20 = .ok (.invokestatic 68, 3) := by decide +kernel
theorem dX7_song_23 : decode cX7_song 23 = .ok (.istore_n 3, 1) := by decide +kernel
theorem dX7_song_24 : decode cX7_song 24 = .ok (.aload_n 0, 1) := by decide +kernel
theorem dX7_song_25 : decode cX7_song 25 = .ok (.getfield 7, 3) := by decide +kernel
theorem dX7_song_28 : decode cX7_song 28 = .ok (.iload_n 3, 1) := by decide +kernel
theorem dX7_song_29 : decode cX7_song 29 = .ok (.iload_n 2, 1) := by decide +kernel
theorem dX7_song_30 : decode cX7_song 30 = .ok (.iastore, 1) := by decide +kernel
theorem dX7_song_31 : decode cX7_song 31 = .ok (.aload_n 0, 1) := by decide +kernel
theorem dX7_song_32 : decode cX7_song 32 = .ok (.getfield 7, 3) := by decide +kernel
theorem dX7_song_35 : decode cX7_song 35 = .ok (.iload_n 3, 1) := by decide +kernel
theorem dX7_song_36 : decode cX7_song 36 = .ok (.iconst 1, 1) := by decide +kernel
theorem dX7_song_37 : decode cX7_song 37 = .ok (.iadd, 1) := by decide +kernel
theorem dX7_song_38 : decode cX7_song 38 = .ok (.iconst 0, 1) := by decide +kernel
theorem dX7_song_39 : decode cX7_song 39 = .ok (.iastore, 1) := by decide +kernel
theorem dX7_song_40 : decode cX7_song 40 = .ok (.iconst 0, 1) := by decide +kernel
theorem dX7_song_41 : decode cX7_song 41 = .ok (.istore 4, 2) := by decide +kernel
theorem dX7_song_43 : decode cX7_song 43 = .ok (.iload 4, 2) := by decide +kernel
theorem dX7_song_45 : decode cX7_song 45 = .ok (.iload_n 2, 1) := by decide +kernel
theorem dX7_song_46 : decode cX7_song 46 = .ok (.if_icmp .ge 32, 3) := by decide +kernel
theorem dX7_song_49 : decode cX7_song 49 = .ok (.aload_n 0, 1) := by decide +kernel
theorem dX7_song_50 : decode cX7_song 50 = .ok (.getfield 7, 3) := by decide +kernel
theorem dX7_song_53 : decode cX7_song 53 = .ok (.iload_n 3, 1) := by decide +kernel
theorem dX7_song_54 : decode cX7_song 54 = .ok (.iconst 2, 1) := by decide +kernel
theorem dX7_song_55 : decode cX7_song 55 = .ok (.iadd, 1) := by decide +kernel
theorem dX7_song_56 : decode cX7_song 56 = .ok (.iload 4, 2) := by decide +kernel
theorem dX7_song_58 : decode cX7_song 58 = .ok (.iadd, 1) := by decide +kernel
theorem dX7_song_59 : decode cX7_song 59 = .ok (.aload_n 0, 1) := by decide +kernel
theorem dX7_song_60 : decode cX7_song 60 = .ok (.getfield 35, 3) := by decide +kernel
theorem dX7_song_63 : decode cX7_song 63 = .ok (.iload_n 1, 1) := by decide +kernel
theorem dX7_song_64 : decode cX7_song 64 = .ok (.iload 4, 2) := by decide +kernel
theorem dX7_song_66 : decode cX7_song 66 = .ok (.iadd, 1) := by decide +kernel
theorem dX7_song_67 : decode cX7_song 67 = .ok (.caload, 1) := by decide +kernel
theorem dX7_song_68 : decode cX7_song 68 = .ok (.bipush 97, 2) := by decide +kernel
theorem dX7_song_70 : decode cX7_song 70 = .ok (.isub, 1) := by decide +kernel
theorem dX7_song_71 : decode cX7_song 71 = .ok (.iastore, 1) := by decide +kernel
theorem dX7_song_72 : decode cX7_song 72 = .ok (.iinc 4 1, 3) := by decide +kernel
theorem dX7_song_75 : decode cX7_song 75 = .ok (.goto (-32), 3) := by decide +kernel
theorem dX7_song_78 : decode cX7_song 78 = .ok (.aload_n 0, 1) := by decide +kernel
theorem dX7_song_79 : decode cX7_song 79 = .ok (.getfield 7, 3) := by decide +kernel
theorem dX7_song_82 : decode cX7_song 82 = .ok (.iconst 5, 1) := by decide +kernel
theorem dX7_song_83 : decode cX7_song 83 = .ok (.dup2, 1) := by decide +kernel
theorem dX7_song_84 : decode cX7_song 84 = .ok (.iaload, 1) := by decide +kernel
theorem dX7_song_85 : decode cX7_song 85 = .ok (.iconst 1, 1) := by decide +kernel
theorem dX7_song_86 : decode cX7_song 86 = .ok (.iadd, 1) := by decide +kernel
theorem dX7_song_87 : decode cX7_song 87 = .ok (.iastore, 1) := by decide +kernel
theorem dX7_song_88 : decode cX7_song 88 = .ok (.aload_n 0, 1) := by decide +kernel
theorem dX7_song_89 : decode cX7_song 89 = .ok (.getfield 7, 3) := by decide +kernel
theorem dX7_song_92 : decode cX7_song 92 = .ok (.iconst 5, 1) := by decide +kernel
theorem dX7_song_93 : decode cX7_song 93 = .ok (.iaload, 1) := by decide +kernel
theorem dX7_song_94 : decode cX7_song 94 = .ok (.iconst 1, 1) := by decide +kernel
theorem dX7_song_95 : decode cX7_song 95 = .ok (.isub, 1) := by decide +kernel
theorem dX7_song_96 : decode cX7_song 96 = .ok (.ireturn, 1) := by decide +kernel
theorem dX7_teaches_0 : decode cX7_teaches 0 = .ok (.aload_n 0, 1) := by decide +kernel
theorem dX7_teaches_1 : decode cX7_teaches 1 = .ok (.iload_n 1, 1) := by decide +kernel
theorem dX7_teaches_2 : decode cX7_teaches 2 = .ok (.invokevirtual 80, 3) := by decide +kernel
theorem dX7_teaches_5 : decode cX7_teaches 5 = .ok (.ifCond .eq 11, 3) := by decide +kernel
theorem dX7_teaches_8 : decode cX7_teaches 8 = .ok (.aload_n 0, 1) := by decide +kernel
theorem dX7_teaches_9 : decode cX7_teaches 9 = .ok (.iload_n 2, 1) := by decide +kernel
theorem dX7_teaches_10 : decode cX7_teaches 10 = .ok (.invokevirtual 84, 3) := by decide +kernel
theorem dX7_teaches_13 : decode cX7_teaches 13 = .ok (.ifCond .ne 5, 3) := by decide +kernel
theorem dX7_teaches_16 : decode cX7_teaches 16 = .ok (.iconst (-1), 1) := by decide +kernel
theorem dX7_teaches_17 : decode cX7_teaches 17 = .ok (.ireturn, 1) := by decide +kernel
theorem dX7_teaches_18 : decode cX7_teaches 18 = .ok (.iload_n 3, 1) := by decide +kernel
theorem dX7_teaches_19 : decode cX7_teaches 19 = .ok (.iconst 0, 1) := by decide +kernel
theorem dX7_teaches_20 : decode cX7_teaches 20 = .ok (.aload_n 0, 1) := by decide +kernel
theorem dX7_teaches_21 : decode cX7_teaches 21 = .ok (.getfield 7, 3) := by decide +kernel
theorem dX7_teaches_24 : decode cX7_teaches 24 = .ok (.iload_n 2, 1) := by decide +kernel
theorem dX7_teaches_25 : decode cX7_teaches 25 = .ok (.invokestatic 68, 3) := by decide +kernel
theorem dX7_teaches_28 : decode cX7_teaches 28 = .ok (.iaload, 1) := by decide +kernel
theorem dX7_teaches_29 : decode cX7_teaches 29 = .ok (.iconst 1, 1) := by decide +kernel
theorem dX7_teaches_30 : decode cX7_teaches 30 = .ok (.isub, 1) := by decide +kernel
theorem dX7_teaches_31 : decode cX7_teaches 31 = .ok (.invokestatic 39, 3) := by decide +kernel
theorem dX7_teaches_34 : decode cX7_teaches 34 = .ok (.ifCond .ne 6, 3) := by decide +kernel
theorem dX7_teaches_37 : decode cX7_teaches 37 = .ok (.bipush (-2), 2) := by decide +kernel
theorem dX7_teaches_39 : decode cX7_teaches 39 = .ok (.ireturn, 1) := by decide +kernel
theorem dX7_teaches_40 : decode cX7_teaches 40 = .ok (.aload_n 0, 1) := by decide +kernel
theorem dX7_teaches_41 : decode cX7_teaches 41 = .ok (.iload_n 1, 1) := by decide +kernel
theorem dX7_teaches_42 : decode cX7_teaches 42 = .ok (.invokevirtual 87, 3) := by decide +kernel
theorem dX7_teaches_45 : decode cX7_teaches 45 = .ok (.ifCond .eq 6, 3) := by decide +kernel
theorem dX7_teaches_48 : decode cX7_teaches 48 = .ok (.bipush (-5), 2) := by decide +kernel
theorem dX7_teaches_50 : decode cX7_teaches 50 = .ok (.ireturn, 1) := by decide +kernel
theorem dX7_teaches_51 : decode cX7_teaches 51 = .ok (.iload_n 3, 1) := by decide +kernel
theorem dX7_teaches_52 : decode cX7_teaches 52 = .ok (.istore 4, 2) := by decide +kernel
theorem dX7_teaches_54 : decode cX7_teaches 54 = .ok (.iload 4, 2) := by decide +kernel
theorem dX7_teaches_56 : decode cX7_teaches 56 = .ok (.aload_n 0, 1) := by decide +kernel
theorem dX7_teaches_57 : decode cX7_teaches 57 = .ok (.getfield 7, 3) := by decide +kernel
theorem dX7_teaches_60 : decode cX7_teaches 60 = .ok (.iload_n 2, 1) := by decide +kernel
theorem dX7_teaches_61 : decode cX7_teaches 61 = .ok (.invokestatic 68, 3) := by decide +kernel
theorem dX7_teaches_64 : decode cX7_teaches 64 = .ok (.iaload, 1) := by decide +kernel
theorem dX7_teaches_65 : decode cX7_teaches 65 = .ok (.if_icmp .ge 36, 3) := by decide +kernel
theorem dX7_teaches_68 : decode cX7_teaches 68 = .ok (.aload_n 0, 1) := by decide +kernel
theorem dX7_teaches_69 : decode cX7_teaches 69 = .ok (.iload_n 1, 1) := by decide +kernel
theorem dX7_teaches_70 : decode cX7_teaches 70 = .ok (.invokevirtual 87, 3) := by decide +kernel
theorem dX7_teaches_73 : decode cX7_teaches 73 = .ok (.ifCond .ne 28, 3) := by decide +kernel
theorem dX7_teaches_76 : decode cX7_teaches 76 = .ok (.aload_n 0, 1) := by decide +kernel
theorem dX7_teaches_77 : decode cX7_teaches 77 = .ok (.iload_n 1, 1) := by decide +kernel
theorem dX7_teaches_78 : decode cX7_teaches 78 = .ok (.aload_n 0, 1) := by decide +kernel
theorem dX7_teaches_79 : decode cX7_teaches 79 = .ok (.getfield 7, 3) := by decide +kernel
theorem dX7_teaches_82 : decode cX7_teaches 82 = .ok (.iload_n 2, 1) := by decide +kernel
theorem dX7_teaches_83 : decode cX7_teaches 83 = .ok (.invokestatic 68, 3) := by decide +kernel
theorem dX7_teaches_86 : decode cX7_teaches 86 = .ok (.iconst 2, 1) := by decide +kernel
theorem dX7_teaches_87 : decode cX7_teaches 87 = .ok (.iadd, 1) := by decide +kernel
theorem dX7_teaches_88 : decode cX7_teaches 88 = .ok (.iload 4, 2) := by decide +kernel
theorem dX7_teaches_90 : decode cX7_teaches 90 = .ok (.iadd, 1) := by decide +kernel
theorem dX7_teaches_91 : decode cX7_teaches 91 = .ok (.iaload, 1) := by decide +kernel
theorem dX7_teaches_92 : decode cX7_teaches 92 = .ok (.invokevirtual 90, 3) := by decide +kernel
theorem dX7_teaches_95 : decode cX7_teaches 95 = .ok (.iinc 4 1, 3) := by decide +kernel
theorem dX7_teaches_98 : decode cX7_teaches 98 = .ok (.goto (-44), 3) := by decide +kernel
theorem dX7_teaches_101 : decode cX7_teaches 101 = .ok (.aload_n 0, 1) := by decide +kernel
theorem dX7_teaches_102 : decode cX7_teaches 102 = .ok (.getfield 7, 3) := by decide +kernel
theorem dX7_teaches_105 : decode cX7_teaches 105 = .ok (.iload_n 2, 1) := by decide +kernel
theorem dX7_teaches_106 : decode cX7_teaches 106 = .ok (.invokestatic 68, 3) := by decide +kernel
theorem dX7_teaches_109 : decode cX7_teaches 109 = .ok (.iconst 1, 1) := by decide +kernel
theorem dX7_teaches_110 : decode cX7_teaches 110 = .ok (.iadd, 1) := by decide +kernel
theorem dX7_teaches_111 : decode cX7_teaches 111 = .ok (.dup2, 1) := by decide +kernel
theorem dX7_teaches_112 : decode cX7_teaches 112 = .ok (.iaload, 1) := by decide +kernel
theorem dX7_teaches_113 : decode cX7_teaches 113 = .ok (.iconst 1, 1) := by decide +kernel
theorem dX7_teaches_114 : decode cX7_teaches 114 = .ok (.iadd, 1) := by decide +kernel
theorem dX7_teaches_115 : decode cX7_teaches 115 = .ok (.iastore, 1) := by decide +kernel
theorem dX7_teaches_116 : decode cX7_teaches 116 = .ok (.aload_n 0, 1) := by decide +kernel
theorem dX7_teaches_117 : decode cX7_teaches 117 = .ok (.getfield 7, 3) := by decide +kernel
theorem dX7_teaches_120 : decode cX7_teaches 120 = .ok (.bipush 7, 2) := by decide +kernel
theorem dX7_teaches_122 : decode cX7_teaches 122 = .ok (.dup2, 1) := by decide +kernel
theorem dX7_teaches_123 : decode cX7_teaches 123 = .ok (.iaload, 1) := by decide +kernel
theorem dX7_teaches_124 : decode cX7_teaches 124 = .ok (.iconst 1, 1) := by decide +kernel
theorem dX7_teaches_125 : decode cX7_teaches 125 = .ok (.iadd, 1) := by decide +kernel
theorem dX7_teaches_126 : decode cX7_teaches 126 = .ok (.iastore, 1) := by decide +kernel
theorem dX7_teaches_127 : decode cX7_teaches 127 = .ok (.iload 4, 2) := by decide +kernel
theorem dX7_teaches_129 : decode cX7_teaches 129 = .ok (.iload_n 3, 1) := by decide +kernel
theorem dX7_teaches_130 : decode cX7_teaches 130 = .ok (.isub, 1) := by decide +kernel
theorem dX7_teaches_131 : decode cX7_teaches 131 = .ok (.ireturn, 1) := by decide +kernel
theorem dX7_hushes_0 : decode cX7_hushes 0 = .ok (.aload_n 0, 1) := by decide +kernel
theorem dX7_hushes_1 : decode cX7_hushes 1 = .ok (.iload_n 1, 1) := by decide +kernel
theorem dX7_hushes_2 : decode cX7_hushes 2 = .ok (.invokevirtual 80, 3) := by decide +kernel
theorem dX7_hushes_5 : decode cX7_hushes 5 = .ok (.ifCond .ne 5, 3) := by decide +kernel
theorem dX7_hushes_8 : decode cX7_hushes 8 = .ok (.iconst (-1), 1) := by decide +kernel
theorem dX7_hushes_9 : decode cX7_hushes 9 = .ok (.ireturn, 1) := by decide +kernel
theorem dX7_hushes_10 : decode cX7_hushes 10 = .ok (.aload_n 0, 1) := by decide +kernel
theorem dX7_hushes_11 : decode cX7_hushes 11 = .ok (.getfield 7, 3) := by decide +kernel
theorem dX7_hushes_14 : decode cX7_hushes 14 = .ok (.iload_n 1, 1) := by decide +kernel
theorem dX7_hushes_15 : decode cX7_hushes 15 = .ok (.invokestatic 47, 3) := by decide +kernel
theorem dX7_hushes_18 : decode cX7_hushes 18 = .ok (.iconst 1, 1) := by decide +kernel
theorem dX7_hushes_19 : decode cX7_hushes 19 = .ok (.iadd, 1) := by decide +kernel
theorem dX7_hushes_20 : decode cX7_hushes 20 = .ok (.iaload, 1) := by decide +kernel
theorem dX7_hushes_21 : decode cX7_hushes 21 = .ok (.istore_n 2, 1) := by decide +kernel
theorem dX7_hushes_22 : decode cX7_hushes 22 = .ok (.aload_n 0, 1) := by decide +kernel
theorem dX7_hushes_23 : decode cX7_hushes 23 = .ok (.getfield 7, 3) := by decide +kernel
theorem dX7_hushes_26 : decode cX7_hushes 26 = .ok (.iload_n 1, 1) := by decide +kernel
theorem dX7_hushes_27 : decode cX7_hushes 27 = .ok (.invokestatic 47, 3) := by decide +kernel
theorem dX7_hushes_30 : decode cX7_hushes 30 = .ok (.iconst 1, 1) := by decide +kernel
theorem dX7_hushes_31 : decode cX7_hushes 31 = .ok (.iadd, 1) := by decide +kernel
theorem dX7_hushes_32 : decode cX7_hushes 32 = .ok (.iconst (-1), 1) := by decide +kernel
theorem dX7_hushes_33 : decode cX7_hushes 33 = .ok (.iastore, 1) := by decide +kernel
theorem dX7_hushes_34 : decode cX7_hushes 34 = .ok (.iload_n 2, 1) := by decide +kernel
theorem dX7_hushes_35 : decode cX7_hushes 35 = .ok (.ifCond .ge 8, 3) := by decide +kernel
theorem dX7_hushes_38 : decode cX7_hushes 38 = .ok (.bipush (-6), 2) := by decide +kernel
theorem dX7_hushes_40 : decode cX7_hushes 40 = .ok (.goto 4, 3) := by decide +kernel
theorem dX7_hushes_43 : decode cX7_hushes 43 = .ok (.iload_n 2, 1) := by decide +kernel
theorem dX7_hushes_44 : decode cX7_hushes 44 = .ok (.ireturn, 1) := by decide +kernel
theorem dX7_practises_0 : decode cX7_practises 0 = .ok (.aload_n 0, 1) := by decide +kernel
theorem dX7_practises_1 : decode cX7_practises 1 = .ok (.iload_n 1, 1) := by decide +kernel
theorem dX7_practises_2 : decode cX7_practises 2 = .ok (.invokevirtual 80, 3) := by decide +kernel
theorem dX7_practises_5 : decode cX7_practises 5 = .ok (.ifCond .ne 5, 3) := by decide +kernel
theorem dX7_practises_8 : decode cX7_practises 8 = .ok (.iconst (-1), 1) := by decide +kernel
theorem dX7_practises_9 : decode cX7_practises 9 = .ok (.ireturn, 1) := by decide +kernel
theorem dX7_practises_10 : decode cX7_practises 10 = .ok (.iload_n 2, 1) := by decide +kernel
theorem dX7_practises_11 : decode cX7_practises 11 = .ok (.iconst 1, 1) := by decide +kernel
theorem dX7_practises_12 : decode cX7_practises 12 = .ok (.bipush 40, 2) := by decide +kernel
theorem dX7_practises_14 : decode cX7_practises 14 = .ok (.invokestatic 39, 3) := by decide +kernel
theorem dX7_practises_17 : decode cX7_practises 17 = .ok (.ifCond .ne 6, 3) := by decide +kernel
theorem dX7_practises_20 : decode cX7_practises 20 = .ok (.bipush (-2), 2) := by decide +kernel
theorem dX7_practises_22 : decode cX7_practises 22 = .ok (.ireturn, 1) := by decide +kernel
theorem dX7_practises_23 : decode cX7_practises 23 = .ok (.aload_n 0, 1) := by decide +kernel
theorem dX7_practises_24 : decode cX7_practises 24 = .ok (.getfield 7, 3) := by decide +kernel
theorem dX7_practises_27 : decode cX7_practises 27 = .ok (.iload_n 1, 1) := by decide +kernel
theorem dX7_practises_28 : decode cX7_practises 28 = .ok (.invokestatic 47, 3) := by decide +kernel
theorem dX7_practises_31 : decode cX7_practises 31 = .ok (.iconst 1, 1) := by decide +kernel
theorem dX7_practises_32 : decode cX7_practises 32 = .ok (.iadd, 1) := by decide +kernel
theorem dX7_practises_33 : decode cX7_practises 33 = .ok (.iaload, 1) := by decide +kernel
theorem dX7_practises_34 : decode cX7_practises 34 = .ok (.ifCond .lt 11, 3) := by decide +kernel
theorem dX7_practises_37 : decode cX7_practises 37 = .ok (.aload_n 0, 1) := by decide +kernel
theorem dX7_practises_38 : decode cX7_practises 38 = .ok (.iload_n 1, 1) := by decide +kernel
theorem dX7_practises_39 : decode cX7_practises 39 = .ok (.invokevirtual 87, 3) := by decide +kernel
theorem dX7_practises_42 : decode cX7_practises 42 = .ok (.ifCond .eq 6, 3) := by decide +kernel
theorem dX7_practises_45 : decode cX7_practises 45 = .ok (.bipush (-5), 2) := by decide +kernel
theorem dX7_practises_47 : decode cX7_practises 47 = .ok (.ireturn, 1) := by decide +kernel
theorem dX7_practises_48 : decode cX7_practises 48 = .ok (.iconst 0, 1) := by decide +kernel
theorem dX7_practises_49 : decode cX7_practises 49 = .ok (.istore_n 3, 1) := by decide +kernel
theorem dX7_practises_50 : decode cX7_practises 50 = .ok (.aload_n 0, 1) := by decide +kernel
theorem dX7_practises_51 : decode cX7_practises 51 = .ok (.iload_n 1, 1) := by decide +kernel
theorem dX7_practises_52 : decode cX7_practises 52 = .ok (.aload_n 0, 1) := by decide +kernel
theorem dX7_practises_53 : decode cX7_practises 53 = .ok (.getfield 7, 3) := by decide +kernel
theorem dX7_practises_56 : decode cX7_practises 56 = .ok (.iload_n 1, 1) := by decide +kernel
theorem dX7_practises_57 : decode cX7_practises 57 = .ok (.invokestatic 47, 3) := by decide +kernel
theorem dX7_practises_60 : decode cX7_practises 60 = .ok (.iconst 1, 1) := by decide +kernel
theorem dX7_practises_61 : decode cX7_practises 61 = .ok (.iadd, 1) := by decide +kernel
theorem dX7_practises_62 : decode cX7_practises 62 = .ok (.iaload, 1) := by decide +kernel
theorem dX7_practises_63 : decode cX7_practises 63 = .ok (.invokevirtual 71, 3) := by decide +kernel
theorem dX7_practises_66 : decode cX7_practises 66 = .ok (.istore 4, 2) := by decide +kernel
theorem dX7_practises_68 : decode cX7_practises 68 = .ok (.iload_n 3, 1) := by decide +kernel
theorem dX7_practises_69 : decode cX7_practises 69 = .ok (.iload_n 2, 1) := by decide +kernel
theorem dX7_practises_70 : decode cX7_practises 70 = .ok (.if_icmp .ge 31, 3) := by decide +kernel
theorem dX7_practises_73 : decode cX7_practises 73 = .ok (.iload 4, 2) := by decide +kernel
theorem dX7_practises_75 : decode cX7_practises 75 = .ok (.ifCond .lt 26, 3) := by decide +kernel
theorem dX7_practises_78 : decode cX7_practises 78 = .ok (.aload_n 0, 1) := by decide +kernel
theorem dX7_practises_79 : decode cX7_practises 79 = .ok (.getfield 29, 3) := by decide +kernel
theorem dX7_practises_82 : decode cX7_practises 82 = .ok (.iload_n 3, 1) := by decide +kernel
theorem dX7_practises_83 : decode cX7_practises 83 = .ok (.iload 4, 2) := by decide +kernel
theorem dX7_practises_85 : decode cX7_practises 85 = .ok (.iastore, 1) := by decide +kernel
theorem dX7_practises_86 : decode cX7_practises 86 = .ok (.iinc 3 1, 3) := by decide +kernel
theorem dX7_practises_89 : decode cX7_practises 89 = .ok (.aload_n 0, 1) := by decide +kernel
theorem dX7_practises_90 : decode cX7_practises 90 = .ok (.iload_n 1, 1) := by decide +kernel
theorem dX7_practises_91 : decode cX7_practises 91 = .ok (.iload 4, 2) := by decide +kernel
theorem dX7_practises_93 : decode cX7_practises 93 = .ok (.invokevirtual 71, 3) := by decide +kernel
theorem dX7_practises_96 : decode cX7_practises 96 = .ok (.istore 4, 2) := by decide +kernel
theorem dX7_practises_98 : decode cX7_practises 98 = .ok (.goto (-30), 3) := by decide +kernel
theorem dX7_practises_101 : decode cX7_practises 101 = .ok (.iconst 0, 1) := by decide +kernel
theorem dX7_practises_102 : decode cX7_practises 102 = .ok (.istore 5, 2) := by decide +kernel
theorem dX7_practises_104 : decode cX7_practises 104 = .ok (.iload 5, 2) := by decide +kernel
theorem dX7_practises_106 : decode cX7_practises 106 = .ok (.aload_n 0, 1) := by decide +kernel
theorem dX7_practises_107 : decode cX7_practises 107 = .ok (.getfield 7, 3) := by decide +kernel
theorem dX7_practises_110 : decode cX7_practises 110 = .ok (.bipush 6, 2) := by decide +kernel
theorem dX7_practises_112 : decode cX7_practises 112 = .ok (.iaload, 1) := by decide +kernel
theorem dX7_practises_113 : decode cX7_practises 113 = .ok (.if_icmp .ge 72, 3) := by decide +kernel
theorem dX7_practises_116 : decode cX7_practises 116 = .ok (.iload 5, 2) := by decide +kernel
theorem dX7_practises_118 : decode cX7_practises 118 = .ok (.ifCond .ne 7, 3) := by decide +kernel
theorem dX7_practises_121 : decode cX7_practises 121 = .ok (.iload_n 1, 1) := by decide +kernel
theorem dX7_practises_122 : decode cX7_practises 122 = .ok (.goto 18, 3) := by decide +kernel
theorem dX7_practises_125 : decode cX7_practises 125 = .ok (.iload 5, 2) := by decide +kernel
theorem dX7_practises_127 : decode cX7_practises 127 = .ok (.iload_n 1, 1) := by decide +kernel
theorem dX7_practises_128 : decode cX7_practises 128 = .ok (.if_icmp .gt 10, 3) := by decide +kernel
theorem dX7_practises_131 : decode cX7_practises 131 = .ok (.iload 5, 2) := by decide +kernel
theorem dX7_practises_133 : decode cX7_practises 133 = .ok (.iconst 1, 1) := by decide +kernel
theorem dX7_practises_134 : decode cX7_practises 134 = .ok (.isub, 1) := by decide +kernel
theorem dX7_practises_135 : decode cX7_practises 135 = .ok (.goto 5, 3) := by decide +kernel
theorem dX7_practises_138 : decode cX7_practises 138 = .ok (.iload 5, 2) := by decide +kernel
theorem dX7_practises_140 : decode cX7_practises 140 = .ok (.istore 6, 2) := by decide +kernel
theorem dX7_practises_142 : decode cX7_practises 142 = .ok (.iconst 0, 1) := by decide +kernel
theorem dX7_practises_143 : decode cX7_practises 143 = .ok (.istore 7, 2) := by decide +kernel
theorem dX7_practises_145 : decode cX7_practises 145 = .ok (.iload 7, 2) := by decide +kernel
theorem dX7_practises_147 : decode cX7_practises 147 = .ok (.iload_n 3, 1) := by decide +kernel
theorem dX7_practises_148 : decode cX7_practises 148 = .ok (.if_icmp .ge 31, 3) := by decide +kernel
theorem dX7_practises_151 : decode cX7_practises 151 = .ok (.aload_n 0, 1) := by decide +kernel
theorem dX7_practises_152 : decode cX7_practises 152 = .ok (.iload 6, 2) := by decide +kernel
theorem dX7_practises_154 : decode cX7_practises 154 = .ok (.invokevirtual 87, 3) := by decide +kernel
theorem dX7_practises_157 : decode cX7_practises 157 = .ok (.ifCond .ne 22, 3) := by decide +kernel
theorem dX7_practises_160 : decode cX7_practises 160 = .ok (.aload_n 0, 1) := by decide +kernel
theorem dX7_practises_161 : decode cX7_practises 161 = .ok (.iload 6, 2) := by decide +kernel
theorem dX7_practises_163 : decode cX7_practises 163 = .ok (.aload_n 0, 1) := by decide +kernel
theorem dX7_practises_164 : decode cX7_practises 164 = .ok (.getfield 29, 3) := by decide +kernel
theorem dX7_practises_167 : decode cX7_practises 167 = .ok (.iload 7, 2) := by decide +kernel
theorem dX7_practises_169 : decode cX7_practises 169 = .ok (.iaload, 1) := by decide +kernel
theorem dX7_practises_170 : decode cX7_practises 170 = .ok (.invokevirtual 90, 3) := by decide +kernel
theorem dX7_practises_173 : decode cX7_practises 173 = .ok (.iinc 7 1, 3) := by decide +kernel
theorem dX7_practises_176 : decode cX7_practises 176 = .ok (.goto (-31), 3) := by decide +kernel
theorem dX7_practises_179 : decode cX7_practises 179 = .ok (.iinc 5 1, 3) := by decide +kernel
theorem dX7_practises_182 : decode cX7_practises 182 = .ok (.goto (-78), 3) := by decide +kernel
theorem dX7_practises_185 : decode cX7_practises 185 = .ok (.iload_n 3, 1) := by decide +kernel
theorem dX7_practises_186 : decode cX7_practises 186 = .ok (.ireturn, 1) := by decide +kernel
theorem dX7_fades_0 : decode cX7_fades 0 = .ok (.iconst 0, 1) := by decide +kernel
theorem dX7_fades_1 : decode cX7_fades 1 = .ok (.istore_n 2, 1) := by decide +kernel
theorem dX7_fades_2 : decode cX7_fades 2 = .ok (.aload_n 0, 1) := by decide +kernel
theorem dX7_fades_3 : decode cX7_fades 3 = .ok (.getfield 7, 3) := by decide +kernel
theorem dX7_fades_6 : decode cX7_fades 6 = .ok (.iload_n 1, 1) := by decide +kernel
theorem dX7_fades_7 : decode cX7_fades 7 = .ok (.invokestatic 47, 3) := by decide +kernel
theorem dX7_fades_10 : decode cX7_fades 10 = .ok (.iaload, 1) := by decide +kernel
theorem dX7_fades_11 : decode cX7_fades 11 = .ok (.iconst 1, 1) := by decide +kernel
theorem dX7_fades_12 : decode cX7_fades 12 = .ok (.isub, 1) := by decide +kernel
theorem dX7_fades_13 : decode cX7_fades 13 = .ok (.istore_n 3, 1) := by decide +kernel
theorem dX7_fades_14 : decode cX7_fades 14 = .ok (.iload_n 3, 1) := by decide +kernel
theorem dX7_fades_15 : decode cX7_fades 15 = .ok (.ifCond .lt 82, 3) := by decide +kernel
theorem dX7_fades_18 : decode cX7_fades 18 = .ok (.iload_n 1, 1) := by decide +kernel
theorem dX7_fades_19 : decode cX7_fades 19 = .ok (.iload_n 3, 1) := by decide +kernel
theorem dX7_fades_20 : decode cX7_fades 20 = .ok (.invokestatic 51, 3) := by decide +kernel
theorem dX7_fades_23 : decode cX7_fades 23 = .ok (.istore 4, 2) := by decide +kernel
theorem dX7_fades_25 : decode cX7_fades 25 = .ok (.aload_n 0, 1) := by decide +kernel
theorem dX7_fades_26 : decode cX7_fades 26 = .ok (.getfield 7, 3) := by decide +kernel
theorem dX7_fades_29 : decode cX7_fades 29 = .ok (.iload 4, 2) := by decide +kernel
theorem dX7_fades_31 : decode cX7_fades 31 = .ok (.iconst 1, 1) := by decide +kernel
theorem dX7_fades_32 : decode cX7_fades 32 = .ok (.iadd, 1) := by decide +kernel
theorem dX7_fades_33 : decode cX7_fades 33 = .ok (.dup2, 1) := by decide +kernel
theorem dX7_fades_34 : decode cX7_fades 34 = .ok (.iaload, 1) := by decide +kernel
theorem dX7_fades_35 : decode cX7_fades 35 = .ok (.aload_n 0, 1) := by decide +kernel
theorem dX7_fades_36 : decode cX7_fades 36 = .ok (.getfield 7, 3) := by decide +kernel
theorem dX7_fades_39 : decode cX7_fades 39 = .ok (.iload 4, 2) := by decide +kernel
theorem dX7_fades_41 : decode cX7_fades 41 = .ok (.iconst 2, 1) := by decide +kernel
theorem dX7_fades_42 : decode cX7_fades 42 = .ok (.iadd, 1) := by decide +kernel
theorem dX7_fades_43 : decode cX7_fades 43 = .ok (.iaload, 1) := by decide +kernel
theorem dX7_fades_44 : decode cX7_fades 44 = .ok (.ifCond .ne 12, 3) := by decide +kernel
theorem dX7_fades_47 : decode cX7_fades 47 = .ok (.aload_n 0, 1) := by decide +kernel
theorem dX7_fades_48 : decode cX7_fades 48 = .ok (.getfield 7, 3) := by decide +kernel
theorem dX7_fades_51 : decode cX7_fades 51 = .ok (.iconst 1, 1) := by decide +kernel
theorem dX7_fades_52 : decode cX7_fades 52 = .ok (.iaload, 1) := by decide +kernel
theorem dX7_fades_53 : decode cX7_fades 53 = .ok (.goto 4, 3) := by decide +kernel
theorem dX7_fades_56 : decode cX7_fades 56 = .ok (.iconst 0, 1) := by decide +kernel
theorem dX7_fades_57 : decode cX7_fades 57 = .ok (.isub, 1) := by decide +kernel
theorem dX7_fades_58 : decode cX7_fades 58 = .ok (.iastore, 1) := by decide +kernel
theorem dX7_fades_59 : decode cX7_fades 59 = .ok (.aload_n 0, 1) := by decide +kernel
theorem dX7_fades_60 : decode cX7_fades 60 = .ok (.getfield 7, 3) := by decide +kernel
theorem dX7_fades_63 : decode cX7_fades 63 = .ok (.iload 4, 2) := by decide +kernel
theorem dX7_fades_65 : decode cX7_fades 65 = .ok (.iconst 2, 1) := by decide +kernel
theorem dX7_fades_66 : decode cX7_fades 66 = .ok (.iadd, 1) := by decide +kernel
theorem dX7_fades_67 : decode cX7_fades 67 = .ok (.iconst 0, 1) := by decide +kernel
theorem dX7_fades_68 : decode cX7_fades 68 = .ok (.iastore, 1) := by decide +kernel
theorem dX7_fades_69 : decode cX7_fades 69 = .ok (.aload_n 0, 1) := by decide +kernel
theorem dX7_fades_70 : decode cX7_fades 70 = .ok (.getfield 7, 3) := by decide +kernel
theorem dX7_fades_73 : decode cX7_fades 73 = .ok (.iload 4, 2) := by decide +kernel
theorem dX7_fades_75 : decode cX7_fades 75 = .ok (.iconst 1, 1) := by decide +kernel
theorem dX7_fades_76 : decode cX7_fades 76 = .ok (.iadd, 1) := by decide +kernel
theorem dX7_fades_77 : decode cX7_fades 77 = .ok (.iaload, 1) := by decide +kernel
theorem dX7_fades_78 : decode cX7_fades 78 = .ok (.iconst 1, 1) := by decide +kernel
theorem dX7_fades_79 : decode cX7_fades 79 = .ok (.if_icmp .ge 12, 3) := by decide +kernel
theorem dX7_fades_82 : decode cX7_fades 82 = .ok (.aload_n 0, 1) := by decide +kernel
theorem dX7_fades_83 : decode cX7_fades 83 = .ok (.iload_n 1, 1) := by decide +kernel
theorem dX7_fades_84 : decode cX7_fades 84 = .ok (.iload_n 3, 1) := by decide +kernel
theorem dX7_fades_85 : decode cX7_fades 85 = .ok (.invokevirtual 58, 3) := by decide +kernel
theorem dX7_fades_88 : decode cX7_fades 88 = .ok (.iinc 2 1, 3) := by decide +kernel
theorem dX7_fades_91 : decode cX7_fades 91 = .ok (.iinc 3 (-1), 3) := by decide +kernel
theorem dX7_fades_94 : decode cX7_fades 94 = .ok (.goto (-80), 3) := by decide +kernel
theorem dX7_fades_97 : decode cX7_fades 97 = .ok (.aload_n 0, 1) := by decide +kernel
theorem dX7_fades_98 : decode cX7_fades 98 = .ok (.getfield 7, 3) := by decide +kernel
theorem dX7_fades_101 : decode cX7_fades 101 = .ok (.iload_n 1, 1) := by decide +kernel
theorem dX7_fades_102 : decode cX7_fades 102 = .ok (.invokestatic 47, 3) := by decide +kernel
theorem dX7_fades_105 : decode cX7_fades 105 = .ok (.iconst 4, 1) := by decide +kernel
theorem dX7_fades_106 : decode cX7_fades 106 = .ok (.iadd, 1) := by decide +kernel
theorem dX7_fades_107 : decode cX7_fades 107 = .ok (.dup2, 1) := by decide +kernel
theorem dX7_fades_108 : decode cX7_fades 108 = .ok (.iaload, 1) := by decide +kernel
theorem dX7_fades_109 : decode cX7_fades 109 = .ok (.iload_n 2, 1) := by decide +kernel
theorem dX7_fades_110 : decode cX7_fades 110 = .ok (.iadd, 1) := by decide +kernel
theorem dX7_fades_111 : decode cX7_fades 111 = .ok (.iastore, 1) := by decide +kernel
theorem dX7_fades_112 : decode cX7_fades 112 = .ok (.aload_n 0, 1) := by decide +kernel
theorem dX7_fades_113 : decode cX7_fades 113 = .ok (.getfield 7, 3) := by decide +kernel
theorem dX7_fades_116 : decode cX7_fades 116 = .ok (.iload_n 1, 1) := by decide +kernel
theorem dX7_fades_117 : decode cX7_fades 117 = .ok (.invokestatic 47, 3) := by decide +kernel
theorem dX7_fades_120 : decode cX7_fades 120 = .ok (.iconst 1, 1) := by decide +kernel
theorem dX7_fades_121 : decode cX7_fades 121 = .ok (.iadd, 1) := by decide +kernel
theorem dX7_fades_122 : decode cX7_fades 122 = .ok (.iconst (-1), 1) := by decide +kernel
theorem dX7_fades_123 : decode cX7_fades 123 = .ok (.iastore, 1) := by decide +kernel
theorem dX7_fades_124 : decode cX7_fades 124 = .ok (.aload_n 0, 1) := by decide +kernel
theorem dX7_fades_125 : decode cX7_fades 125 = .ok (.getfield 7, 3) := by decide +kernel
theorem dX7_fades_128 : decode cX7_fades 128 = .ok (.iload_n 1, 1) := by decide +kernel
theorem dX7_fades_129 : decode cX7_fades 129 = .ok (.invokestatic 47, 3) := by decide +kernel
theorem dX7_fades_132 : decode cX7_fades 132 = .ok (.iconst 2, 1) := by decide +kernel
theorem dX7_fades_133 : decode cX7_fades 133 = .ok (.iadd, 1) := by decide +kernel
theorem dX7_fades_134 : decode cX7_fades 134 = .ok (.iconst 0, 1) := by decide +kernel
theorem dX7_fades_135 : decode cX7_fades 135 = .ok (.iastore, 1) := by decide +kernel
theorem dX7_fades_136 : decode cX7_fades 136 = .ok (.iload_n 2, 1) := by decide +kernel
theorem dX7_fades_137 : decode cX7_fades 137 = .ok (.ireturn, 1) := by decide +kernel
theorem dX7_nights_0 : decode cX7_nights 0 = .ok (.iconst 0, 1) := by decide +kernel
theorem dX7_nights_1 : decode cX7_nights 1 = .ok (.istore_n 1, 1) := by decide +kernel
theorem dX7_nights_2 : decode cX7_nights 2 = .ok (.iconst 0, 1) := by decide +kernel
theorem dX7_nights_3 : decode cX7_nights 3 = .ok (.istore_n 2, 1) := by decide +kernel
theorem dX7_nights_4 : decode cX7_nights 4 = .ok (.iload_n 2, 1) := by decide +kernel
theorem dX7_nights_5 : decode cX7_nights 5 = .ok (.aload_n 0, 1) := by decide +kernel
theorem dX7_nights_6 : decode cX7_nights 6 = .ok (.getfield 7, 3) := by decide +kernel
theorem dX7_nights_9 : decode cX7_nights 9 = .ok (.bipush 6, 2) := by decide +kernel
theorem dX7_nights_11 : decode cX7_nights 11 = .ok (.iaload, 1) := by decide +kernel
theorem dX7_nights_12 : decode cX7_nights 12 = .ok (.if_icmp .ge 17, 3) := by decide +kernel
theorem dX7_nights_15 : decode cX7_nights 15 = .ok (.iload_n 1, 1) := by decide +kernel
theorem dX7_nights_16 : decode cX7_nights 16 = .ok (.aload_n 0, 1) := by decide +kernel
theorem dX7_nights_17 : decode cX7_nights 17 = .ok (.iload_n 2, 1) := by decide +kernel
theorem dX7_nights_18 : decode cX7_nights 18 = .ok (.invokevirtual 93, 3) := by decide +kernel
theorem dX7_nights_21 : decode cX7_nights 21 = .ok (.iadd, 1) := by decide +kernel
theorem dX7_nights_22 : decode cX7_nights 22 = .ok (.istore_n 1, 1) := by decide +kernel
theorem dX7_nights_23 : decode cX7_nights 23 = .ok (.iinc 2 1, 3) := by decide +kernel
theorem dX7_nights_26 : decode cX7_nights 26 = .ok (.goto (-22), 3) := by decide +kernel
theorem dX7_nights_29 : decode cX7_nights 29 = .ok (.aload_n 0, 1) := by decide +kernel
theorem dX7_nights_30 : decode cX7_nights 30 = .ok (.getfield 7, 3) := by decide +kernel
theorem dX7_nights_33 : decode cX7_nights 33 = .ok (.iconst 4, 1) := by decide +kernel
theorem dX7_nights_34 : decode cX7_nights 34 = .ok (.dup2, 1) := by decide +kernel
theorem dX7_nights_35 : decode cX7_nights 35 = .ok (.iaload, 1) := by decide +kernel
theorem dX7_nights_36 : decode cX7_nights 36 = .ok (.iconst 1, 1) := by decide +kernel
theorem dX7_nights_37 : decode cX7_nights 37 = .ok (.iadd, 1) := by decide +kernel
theorem dX7_nights_38 : decode cX7_nights 38 = .ok (.iastore, 1) := by decide +kernel
theorem dX7_nights_39 : decode cX7_nights 39 = .ok (.iload_n 1, 1) := by decide +kernel
theorem dX7_nights_40 : decode cX7_nights 40 = .ok (.ireturn, 1) := by decide +kernel
theorem dX7_ends_0 : decode cX7_ends 0 = .ok (.aload_n 0, 1) := by decide +kernel
theorem dX7_ends_1 : decode cX7_ends 1 = .ok (.getfield 7, 3) := by decide +kernel
theorem dX7_ends_4 : decode cX7_ends 4 = .ok (.iconst 4, 1) := by decide +kernel
theorem dX7_ends_5 : decode cX7_ends 5 = .ok (.iaload, 1) := by decide +kernel
theorem dX7_ends_6 : decode cX7_ends 6 = .ok (.sipush 999, 3) := by decide +kernel
theorem dX7_ends_9 : decode cX7_ends 9 = .ok (.if_icmp .ne 8, 3) := by decide +kernel
theorem dX7_ends_12 : decode cX7_ends 12 = .ok (.bipush (-5), 2) := by decide +kernel
theorem dX7_ends_14 : decode cX7_ends 14 = .ok (.goto 7, 3) := by decide +kernel
theorem dX7_ends_17 : decode cX7_ends 17 = .ok (.aload_n 0, 1) := by decide +kernel
theorem dX7_ends_18 : decode cX7_ends 18 = .ok (.invokevirtual 96, 3) := by decide +kernel
theorem dX7_ends_21 : decode cX7_ends 21 = .ok (.ireturn, 1) := by decide +kernel
theorem dX7_set_0 : decode cX7_set 0 = .ok (.iload_n 1, 1) := by decide +kernel
theorem dX7_set_1 : decode cX7_set 1 = .ok (.ifCond .ne 13, 3) := by decide +kernel
theorem dX7_set_4 : decode cX7_set 4 = .ok (.iload_n 2, 1) := by decide +kernel
theorem dX7_set_5 : decode cX7_set 5 = .ok (.iconst 4, 1) := by decide +kernel
theorem dX7_set_6 : decode cX7_set 6 = .ok (.bipush 60, 2) := by decide +kernel
theorem dX7_set_8 : decode cX7_set 8 = .ok (.invokestatic 39, 3) := by decide +kernel
theorem dX7_set_11 : decode cX7_set 11 = .ok (.goto 51, 3) := by decide +kernel
theorem dX7_set_14 : decode cX7_set 14 = .ok (.iload_n 1, 1) := by decide +kernel
theorem dX7_set_15 : decode cX7_set 15 = .ok (.iconst 1, 1) := by decide +kernel
theorem dX7_set_16 : decode cX7_set 16 = .ok (.if_icmp .ne 12, 3) := by decide +kernel
theorem dX7_set_19 : decode cX7_set 19 = .ok (.iload_n 2, 1) := by decide +kernel
theorem dX7_set_20 : decode cX7_set 20 = .ok (.iconst 0, 1) := by decide +kernel
theorem dX7_set_21 : decode cX7_set 21 = .ok (.iconst 3, 1) := by decide +kernel
theorem dX7_set_22 : decode cX7_set 22 = .ok (.invokestatic 39, 3) := by decide +kernel
theorem dX7_set_25 : decode cX7_set 25 = .ok (.goto 37, 3) := by decide +kernel
theorem dX7_set_28 : decode cX7_set 28 = .ok (.iload_n 1, 1) := by decide +kernel
theorem dX7_set_29 : decode cX7_set 29 = .ok (.iconst 2, 1) := by decide +kernel
theorem dX7_set_30 : decode cX7_set 30 = .ok (.if_icmp .ne 12, 3) := by decide +kernel
theorem dX7_set_33 : decode cX7_set 33 = .ok (.iload_n 2, 1) := by decide +kernel
theorem dX7_set_34 : decode cX7_set 34 = .ok (.iconst 1, 1) := by decide +kernel
theorem dX7_set_35 : decode cX7_set 35 = .ok (.iconst 3, 1) := by decide +kernel
theorem dX7_set_36 : decode cX7_set 36 = .ok (.invokestatic 39, 3) := by decide +kernel
theorem dX7_set_39 : decode cX7_set 39 = .ok (.goto 23, 3) := by decide +kernel
theorem dX7_set_42 : decode cX7_set 42 = .ok (.iload_n 1, 1) := by decide +kernel
theorem dX7_set_43 : decode cX7_set 43 = .ok (.iconst 3, 1) := by decide +kernel
theorem dX7_set_44 : decode cX7_set 44 = .ok (.if_icmp .ne 17, 3) := by decide +kernel
theorem dX7_set_47 : decode cX7_set 47 = .ok (.iload_n 2, 1) := by decide +kernel
theorem dX7_set_48 : decode cX7_set 48 = .ok (.iconst 1, 1) := by decide +kernel
theorem dX7_set_49 : decode cX7_set 49 = .ok (.bipush 60, 2) := by decide +kernel
theorem dX7_set_51 : decode cX7_set 51 = .ok (.invokestatic 39, 3) := by decide +kernel
theorem dX7_set_54 : decode cX7_set 54 = .ok (.ifCond .eq 7, 3) := by decide +kernel
theorem dX7_set_57 : decode cX7_set 57 = .ok (.iconst 1, 1) := by decide +kernel
theorem dX7_set_58 : decode cX7_set 58 = .ok (.goto 4, 3) := by decide +kernel
theorem dX7_set_61 : decode cX7_set 61 = .ok (.iconst 0, 1) := by decide +kernel
theorem dX7_set_62 : decode cX7_set 62 = .ok (.istore_n 3, 1) := by decide +kernel
theorem dX7_set_63 : decode cX7_set 63 = .ok (.iload_n 3, 1) := by decide +kernel
theorem dX7_set_64 : decode cX7_set 64 = .ok (.ifCond .ne 6, 3) := by decide +kernel
theorem dX7_set_67 : decode cX7_set 67 = .ok (.bipush (-2), 2) := by decide +kernel
theorem dX7_set_69 : decode cX7_set 69 = .ok (.ireturn, 1) := by decide +kernel
theorem dX7_set_70 : decode cX7_set 70 = .ok (.aload_n 0, 1) := by decide +kernel
theorem dX7_set_71 : decode cX7_set 71 = .ok (.invokevirtual 100, 3) := by decide +kernel
theorem dX7_set_74 : decode cX7_set 74 = .ok (.aload_n 0, 1) := by decide +kernel
theorem dX7_set_75 : decode cX7_set 75 = .ok (.getfield 7, 3) := by decide +kernel
theorem dX7_set_78 : decode cX7_set 78 = .ok (.iload_n 1, 1) := by decide +kernel
theorem dX7_set_79 : decode cX7_set 79 = .ok (.iaload, 1) := by decide +kernel
theorem dX7_set_80 : decode cX7_set 80 = .ok (.istore 4, 2) := by decide +kernel
theorem dX7_set_82 : decode cX7_set 82 = .ok (.aload_n 0, 1) := by decide +kernel
theorem dX7_set_83 : decode cX7_set 83 = .ok (.getfield 7, 3) := by decide +kernel
theorem dX7_set_86 : decode cX7_set 86 = .ok (.iload_n 1, 1) := by decide +kernel
theorem dX7_set_87 : decode cX7_set 87 = .ok (.iload_n 2, 1) := by decide +kernel
theorem dX7_set_88 : decode cX7_set 88 = .ok (.iastore, 1) := by decide +kernel
theorem dX7_set_89 : decode cX7_set 89 = .ok (.aload_n 0, 1) := by decide +kernel
theorem dX7_set_90 : decode cX7_set 90 = .ok (.iload 4, 2) := by decide +kernel
theorem dX7_set_92 : decode cX7_set 92 = .ok (.invokevirtual 103, 3) := by decide +kernel
theorem dX7_set_95 : decode cX7_set 95 = .ok (.ireturn, 1) := by decide +kernel
theorem dX7_parrot_0 : decode cX7_parrot 0 = .ok (.aload_n 0, 1) := by decide +kernel
theorem dX7_parrot_1 : decode cX7_parrot 1 = .ok (.invokevirtual 100, 3) := by decide +kernel
theorem dX7_parrot_4 : decode cX7_parrot 4 = .ok (.aload_n 0, 1) := by decide +kernel
theorem dX7_parrot_5 : decode cX7_parrot 5 = .ok (.aload_n 0, 1) := by decide +kernel
theorem dX7_parrot_6 : decode cX7_parrot 6 = .ok (.invokevirtual 106, 3) := by decide +kernel
theorem dX7_parrot_9 : decode cX7_parrot 9 = .ok (.invokevirtual 103, 3) := by decide +kernel
theorem dX7_parrot_12 : decode cX7_parrot 12 = .ok (.ireturn, 1) := by decide +kernel
theorem dX7_lesson_0 : decode cX7_lesson 0 = .ok (.aload_n 0, 1) := by decide +kernel
theorem dX7_lesson_1 : decode cX7_lesson 1 = .ok (.invokevirtual 100, 3) := by decide +kernel
theorem dX7_lesson_4 : decode cX7_lesson 4 = .ok (.aload_n 0, 1) := by decide +kernel
theorem dX7_lesson_5 : decode cX7_lesson 5 = .ok (.aload_n 0, 1) := by decide +kernel
theorem dX7_lesson_6 : decode cX7_lesson 6 = .ok (.iload_n 1, 1) := by decide +kernel
theorem dX7_lesson_7 : decode cX7_lesson 7 = .ok (.iload_n 2, 1) := by decide +kernel
theorem dX7_lesson_8 : decode cX7_lesson 8 = .ok (.iload_n 3, 1) := by decide +kernel
theorem dX7_lesson_9 : decode cX7_lesson 9 = .ok (.invokevirtual 109, 3) := by decide +kernel
theorem dX7_lesson_12 : decode cX7_lesson 12 = .ok (.invokevirtual 103, 3) := by decide +kernel
theorem dX7_lesson_15 : decode cX7_lesson 15 = .ok (.ireturn, 1) := by decide +kernel
theorem dX7_hush_0 : decode cX7_hush 0 = .ok (.aload_n 0, 1) := by decide +kernel
theorem dX7_hush_1 : decode cX7_hush 1 = .ok (.invokevirtual 100, 3) := by decide +kernel
theorem dX7_hush_4 : decode cX7_hush 4 = .ok (.aload_n 0, 1) := by decide +kernel
theorem dX7_hush_5 : decode cX7_hush 5 = .ok (.aload_n 0, 1) := by decide +kernel
theorem dX7_hush_6 : decode cX7_hush 6 = .ok (.iload_n 1, 1) := by decide +kernel
theorem dX7_hush_7 : decode cX7_hush 7 = .ok (.invokevirtual 113, 3) := by decide +kernel
theorem dX7_hush_10 : decode cX7_hush 10 = .ok (.invokevirtual 103, 3) := by decide +kernel
theorem dX7_hush_13 : decode cX7_hush 13 = .ok (.ireturn, 1) := by decide +kernel
theorem dX7_practise_0 : decode cX7_practise 0 = .ok (.aload_n 0, 1) := by decide +kernel
theorem dX7_practise_1 : decode cX7_practise 1 = .ok (.invokevirtual 100, 3) := by decide +kernel
theorem dX7_practise_4 : decode cX7_practise 4 = .ok (.aload_n 0, 1) := by decide +kernel
theorem dX7_practise_5 : decode cX7_practise 5 = .ok (.aload_n 0, 1) := by decide +kernel
theorem dX7_practise_6 : decode cX7_practise 6 = .ok (.iload_n 1, 1) := by decide +kernel
theorem dX7_practise_7 : decode cX7_practise 7 = .ok (.iload_n 2, 1) := by decide +kernel
theorem dX7_practise_8 : decode cX7_practise 8 = .ok (.invokevirtual 116, 3) := by decide +kernel
theorem dX7_practise_11 : decode cX7_practise 11 = .ok (.invokevirtual 103, 3) := by decide +kernel
theorem dX7_practise_14 : decode cX7_practise 14 = .ok (.ireturn, 1) := by decide +kernel
theorem dX7_night_0 : decode cX7_night 0 = .ok (.aload_n 0, 1) := by decide +kernel
theorem dX7_night_1 : decode cX7_night 1 = .ok (.invokevirtual 100, 3) := by decide +kernel
theorem dX7_night_4 : decode cX7_night 4 = .ok (.aload_n 0, 1) := by decide +kernel
theorem dX7_night_5 : decode cX7_night 5 = .ok (.aload_n 0, 1) := by decide +kernel
theorem dX7_night_6 : decode cX7_night 6 = .ok (.invokevirtual 119, 3) := by decide +kernel
theorem dX7_night_9 : decode cX7_night 9 = .ok (.invokevirtual 103, 3) := by decide +kernel
theorem dX7_night_12 : decode cX7_night 12 = .ok (.ireturn, 1) := by decide +kernel
theorem dX7_unlike_0 : decode cX7_unlike 0 = .ok (.iconst 0, 1) := by decide +kernel
theorem dX7_unlike_1 : decode cX7_unlike 1 = .ok (.istore_n 2, 1) := by decide +kernel
theorem dX7_unlike_2 : decode cX7_unlike 2 = .ok (.iconst 0, 1) := by decide +kernel
theorem dX7_unlike_3 : decode cX7_unlike 3 = .ok (.istore_n 3, 1) := by decide +kernel
theorem dX7_unlike_4 : decode cX7_unlike 4 = .ok (.iconst 0, 1) := by decide +kernel
theorem dX7_unlike_5 : decode cX7_unlike 5 = .ok (.istore 4, 2) := by decide +kernel
theorem dX7_unlike_7 : decode cX7_unlike 7 = .ok (.iload 4, 2) := by decide +kernel
theorem dX7_unlike_9 : decode cX7_unlike 9 = .ok (.aload_n 0, 1) := by decide +kernel
theorem dX7_unlike_10 : decode cX7_unlike 10 = .ok (.getfield 7, 3) := by decide +kernel
theorem dX7_unlike_13 : decode cX7_unlike 13 = .ok (.iload_n 1, 1) := by decide +kernel
theorem dX7_unlike_14 : decode cX7_unlike 14 = .ok (.invokestatic 68, 3) := by decide +kernel
theorem dX7_unlike_17 : decode cX7_unlike 17 = .ok (.iaload, 1) := by decide +kernel
theorem dX7_unlike_18 : decode cX7_unlike 18 = .ok (.if_icmp .ge 49, 3) := by decide +kernel
theorem dX7_unlike_21 : decode cX7_unlike 21 = .ok (.aload_n 0, 1) := by decide +kernel
theorem dX7_unlike_22 : decode cX7_unlike 22 = .ok (.getfield 7, 3) := by decide +kernel
theorem dX7_unlike_25 : decode cX7_unlike 25 = .ok (.iload_n 1, 1) := by decide +kernel
theorem dX7_unlike_26 : decode cX7_unlike 26 = .ok (.invokestatic 68, 3) := by decide +kernel
theorem dX7_unlike_29 : decode cX7_unlike 29 = .ok (.iconst 2, 1) := by decide +kernel
theorem dX7_unlike_30 : decode cX7_unlike 30 = .ok (.iadd, 1) := by decide +kernel
theorem dX7_unlike_31 : decode cX7_unlike 31 = .ok (.iload 4, 2) := by decide +kernel
theorem dX7_unlike_33 : decode cX7_unlike 33 = .ok (.iadd, 1) := by decide +kernel
theorem dX7_unlike_34 : decode cX7_unlike 34 = .ok (.iaload, 1) := by decide +kernel
theorem dX7_unlike_35 : decode cX7_unlike 35 = .ok (.istore 5, 2) := by decide +kernel
theorem dX7_unlike_37 : decode cX7_unlike 37 = .ok (.iload_n 3, 1) := by decide +kernel
theorem dX7_unlike_38 : decode cX7_unlike 38 = .ok (.iload_n 2, 1) := by decide +kernel
theorem dX7_unlike_39 : decode cX7_unlike 39 = .ok (.iload 5, 2) := by decide +kernel
theorem dX7_unlike_41 : decode cX7_unlike 41 = .ok (.ishr, 1) := by decide +kernel
theorem dX7_unlike_42 : decode cX7_unlike 42 = .ok (.iconst 1, 1) := by decide +kernel
theorem dX7_unlike_43 : decode cX7_unlike 43 = .ok (.iand, 1) := by decide +kernel
theorem dX7_unlike_44 : decode cX7_unlike 44 = .ok (.ifCond .ne 7, 3) := by decide +kernel
theorem dX7_unlike_47 : decode cX7_unlike 47 = .ok (.iconst 1, 1) := by decide +kernel
theorem dX7_unlike_48 : decode cX7_unlike 48 = .ok (.goto 4, 3) := by decide +kernel
theorem dX7_unlike_51 : decode cX7_unlike 51 = .ok (.iconst 0, 1) := by decide +kernel
theorem dX7_unlike_52 : decode cX7_unlike 52 = .ok (.iadd, 1) := by decide +kernel
theorem dX7_unlike_53 : decode cX7_unlike 53 = .ok (.istore_n 3, 1) := by decide +kernel
theorem dX7_unlike_54 : decode cX7_unlike 54 = .ok (.iload_n 2, 1) := by decide +kernel
theorem dX7_unlike_55 : decode cX7_unlike 55 = .ok (.iconst 1, 1) := by decide +kernel
theorem dX7_unlike_56 : decode cX7_unlike 56 = .ok (.iload 5, 2) := by decide +kernel
theorem dX7_unlike_58 : decode cX7_unlike 58 = .ok (.ishl, 1) := by decide +kernel
theorem dX7_unlike_59 : decode cX7_unlike 59 = .ok (.ior, 1) := by decide +kernel
theorem dX7_unlike_60 : decode cX7_unlike 60 = .ok (.istore_n 2, 1) := by decide +kernel
theorem dX7_unlike_61 : decode cX7_unlike 61 = .ok (.iinc 4 1, 3) := by decide +kernel
theorem dX7_unlike_64 : decode cX7_unlike 64 = .ok (.goto (-57), 3) := by decide +kernel
theorem dX7_unlike_67 : decode cX7_unlike 67 = .ok (.iload_n 3, 1) := by decide +kernel
theorem dX7_unlike_68 : decode cX7_unlike 68 = .ok (.ireturn, 1) := by decide +kernel
theorem dX7_knowers_0 : decode cX7_knowers 0 = .ok (.iconst 0, 1) := by decide +kernel
theorem dX7_knowers_1 : decode cX7_knowers 1 = .ok (.istore_n 2, 1) := by decide +kernel
theorem dX7_knowers_2 : decode cX7_knowers 2 = .ok (.iconst 0, 1) := by decide +kernel
theorem dX7_knowers_3 : decode cX7_knowers 3 = .ok (.istore_n 3, 1) := by decide +kernel
theorem dX7_knowers_4 : decode cX7_knowers 4 = .ok (.iload_n 3, 1) := by decide +kernel
theorem dX7_knowers_5 : decode cX7_knowers 5 = .ok (.aload_n 0, 1) := by decide +kernel
theorem dX7_knowers_6 : decode cX7_knowers 6 = .ok (.getfield 7, 3) := by decide +kernel
theorem dX7_knowers_9 : decode cX7_knowers 9 = .ok (.bipush 6, 2) := by decide +kernel
theorem dX7_knowers_11 : decode cX7_knowers 11 = .ok (.iaload, 1) := by decide +kernel
theorem dX7_knowers_12 : decode cX7_knowers 12 = .ok (.if_icmp .ge 30, 3) := by decide +kernel
theorem dX7_knowers_15 : decode cX7_knowers 15 = .ok (.iload_n 2, 1) := by decide +kernel
theorem dX7_knowers_16 : decode cX7_knowers 16 = .ok (.aload_n 0, 1) := by decide +kernel
theorem dX7_knowers_17 : decode cX7_knowers 17 = .ok (.iload_n 3, 1) := by decide +kernel
theorem dX7_knowers_18 : decode cX7_knowers 18 = .ok (.iload_n 1, 1) := by decide +kernel
theorem dX7_knowers_19 : decode cX7_knowers 19 = .ok (.invokevirtual 77, 3) := by decide +kernel
theorem dX7_knowers_22 : decode cX7_knowers 22 = .ok (.bipush 100, 2) := by decide +kernel
theorem dX7_knowers_24 : decode cX7_knowers 24 = .ok (.if_icmp .ne 9, 3) := by decide +kernel
theorem dX7_knowers_27 : decode cX7_knowers 27 = .ok (.iconst 1, 1) := by decide +kernel
theorem dX7_knowers_28 : decode cX7_knowers 28 = .ok (.iload_n 3, 1) := by decide +kernel
theorem dX7_knowers_29 : decode cX7_knowers 29 = .ok (.ishl, 1) := by decide +kernel
theorem dX7_knowers_30 : decode cX7_knowers 30 = .ok (.goto 4, 3) := by decide +kernel
theorem dX7_knowers_33 : decode cX7_knowers 33 = .ok (.iconst 0, 1) := by decide +kernel
theorem dX7_knowers_34 : decode cX7_knowers 34 = .ok (.ior, 1) := by decide +kernel
theorem dX7_knowers_35 : decode cX7_knowers 35 = .ok (.istore_n 2, 1) := by decide +kernel
theorem dX7_knowers_36 : decode cX7_knowers 36 = .ok (.iinc 3 1, 3) := by decide +kernel
theorem dX7_knowers_39 : decode cX7_knowers 39 = .ok (.goto (-35), 3) := by decide +kernel
theorem dX7_knowers_42 : decode cX7_knowers 42 = .ok (.iload_n 2, 1) := by decide +kernel
theorem dX7_knowers_43 : decode cX7_knowers 43 = .ok (.ireturn, 1) := by decide +kernel
theorem dX7_ofSong_0 : decode cX7_ofSong 0 = .ok (.aload_n 0, 1) := by decide +kernel
theorem dX7_ofSong_1 : decode cX7_ofSong 1 = .ok (.iload_n 1, 1) := by decide +kernel
theorem dX7_ofSong_2 : decode cX7_ofSong 2 = .ok (.invokevirtual 84, 3) := by decide +kernel
theorem dX7_ofSong_5 : decode cX7_ofSong 5 = .ok (.ifCond .ne 5, 3) := by decide +kernel
theorem dX7_ofSong_8 : decode cX7_ofSong 8 = .ok (.iconst (-1), 1) := by decide +kernel
theorem dX7_ofSong_9 : decode cX7_ofSong 9 = .ok (.ireturn, 1) := by decide +kernel
theorem dX7_ofSong_10 : decode cX7_ofSong 10 = .ok (.iload_n 2, 1) := by decide +kernel
theorem dX7_ofSong_11 : decode cX7_ofSong 11 = .ok (.tableswitch 105 0 5 #[37, 47, 53, 65, 87, 99], 37) := by decide +kernel
theorem dX7_ofSong_48 : decode cX7_ofSong 48 = .ok (.aload_n 0, 1) := by decide +kernel
theorem dX7_ofSong_49 : decode cX7_ofSong 49 = .ok (.getfield 7, 3) := by decide +kernel
theorem dX7_ofSong_52 : decode cX7_ofSong 52 = .ok (.iload_n 1, 1) := by decide +kernel
theorem dX7_ofSong_53 : decode cX7_ofSong 53 = .ok (.invokestatic 68, 3) := by decide +kernel
theorem dX7_ofSong_56 : decode cX7_ofSong 56 = .ok (.iaload, 1) := by decide +kernel
theorem dX7_ofSong_57 : decode cX7_ofSong 57 = .ok (.ireturn, 1) := by decide +kernel
theorem dX7_ofSong_58 : decode cX7_ofSong 58 = .ok (.aload_n 0, 1) := by decide +kernel
theorem dX7_ofSong_59 : decode cX7_ofSong 59 = .ok (.iload_n 1, 1) := by decide +kernel
theorem dX7_ofSong_60 : decode cX7_ofSong 60 = .ok (.invokevirtual 122, 3) := by decide +kernel
theorem dX7_ofSong_63 : decode cX7_ofSong 63 = .ok (.ireturn, 1) := by decide +kernel
theorem dX7_ofSong_64 : decode cX7_ofSong 64 = .ok (.aload_n 0, 1) := by decide +kernel
theorem dX7_ofSong_65 : decode cX7_ofSong 65 = .ok (.getfield 7, 3) := by decide +kernel
theorem dX7_ofSong_68 : decode cX7_ofSong 68 = .ok (.iload_n 1, 1) := by decide +kernel
theorem dX7_ofSong_69 : decode cX7_ofSong 69 = .ok (.invokestatic 68, 3) := by decide +kernel
theorem dX7_ofSong_72 : decode cX7_ofSong 72 = .ok (.iconst 2, 1) := by decide +kernel
theorem dX7_ofSong_73 : decode cX7_ofSong 73 = .ok (.iadd, 1) := by decide +kernel
theorem dX7_ofSong_74 : decode cX7_ofSong 74 = .ok (.iaload, 1) := by decide +kernel
theorem dX7_ofSong_75 : decode cX7_ofSong 75 = .ok (.ireturn, 1) := by decide +kernel
theorem dX7_ofSong_76 : decode cX7_ofSong 76 = .ok (.aload_n 0, 1) := by decide +kernel
theorem dX7_ofSong_77 : decode cX7_ofSong 77 = .ok (.getfield 7, 3) := by decide +kernel
theorem dX7_ofSong_80 : decode cX7_ofSong 80 = .ok (.iload_n 1, 1) := by decide +kernel
theorem dX7_ofSong_81 : decode cX7_ofSong 81 = .ok (.invokestatic 68, 3) := by decide +kernel
theorem dX7_ofSong_84 : decode cX7_ofSong 84 = .ok (.iconst 1, 1) := by decide +kernel
theorem dX7_ofSong_85 : decode cX7_ofSong 85 = .ok (.iadd, 1) := by decide +kernel
theorem dX7_ofSong_86 : decode cX7_ofSong 86 = .ok (.aload_n 0, 1) := by decide +kernel
theorem dX7_ofSong_87 : decode cX7_ofSong 87 = .ok (.getfield 7, 3) := by decide +kernel
theorem dX7_ofSong_90 : decode cX7_ofSong 90 = .ok (.iload_n 1, 1) := by decide +kernel
theorem dX7_ofSong_91 : decode cX7_ofSong 91 = .ok (.invokestatic 68, 3) := by decide +kernel
theorem dX7_ofSong_94 : decode cX7_ofSong 94 = .ok (.iaload, 1) := by decide +kernel
theorem dX7_ofSong_95 : decode cX7_ofSong 95 = .ok (.iadd, 1) := by decide +kernel
theorem dX7_ofSong_96 : decode cX7_ofSong 96 = .ok (.iaload, 1) := by decide +kernel
theorem dX7_ofSong_97 : decode cX7_ofSong 97 = .ok (.ireturn, 1) := by decide +kernel
theorem dX7_ofSong_98 : decode cX7_ofSong 98 = .ok (.aload_n 0, 1) := by decide +kernel
theorem dX7_ofSong_99 : decode cX7_ofSong 99 = .ok (.getfield 7, 3) := by decide +kernel
theorem dX7_ofSong_102 : decode cX7_ofSong 102 = .ok (.iload_n 1, 1) := by decide +kernel
theorem dX7_ofSong_103 : decode cX7_ofSong 103 = .ok (.invokestatic 68, 3) := by decide +kernel
theorem dX7_ofSong_106 : decode cX7_ofSong 106 = .ok (.iconst 1, 1) := by decide +kernel
theorem dX7_ofSong_107 : decode cX7_ofSong 107 = .ok (.iadd, 1) := by decide +kernel
theorem dX7_ofSong_108 : decode cX7_ofSong 108 = .ok (.iaload, 1) := by decide +kernel
theorem dX7_ofSong_109 : decode cX7_ofSong 109 = .ok (.ireturn, 1) := by decide +kernel
theorem dX7_ofSong_110 : decode cX7_ofSong 110 = .ok (.aload_n 0, 1) := by decide +kernel
theorem dX7_ofSong_111 : decode cX7_ofSong 111 = .ok (.iload_n 1, 1) := by decide +kernel
theorem dX7_ofSong_112 : decode cX7_ofSong 112 = .ok (.invokevirtual 125, 3) := by decide +kernel
theorem dX7_ofSong_115 : decode cX7_ofSong 115 = .ok (.ireturn, 1) := by decide +kernel
theorem dX7_ofSong_116 : decode cX7_ofSong 116 = .ok (.bipush (-2), 2) := by decide +kernel
theorem dX7_ofSong_118 : decode cX7_ofSong 118 = .ok (.ireturn, 1) := by decide +kernel
theorem dX7_bar_0 : decode cX7_bar 0 = .ok (.aload_n 0, 1) := by decide +kernel
theorem dX7_bar_1 : decode cX7_bar 1 = .ok (.iload_n 1, 1) := by decide +kernel
theorem dX7_bar_2 : decode cX7_bar 2 = .ok (.invokevirtual 84, 3) := by decide +kernel
theorem dX7_bar_5 : decode cX7_bar 5 = .ok (.ifCond .eq 38, 3) := by decide +kernel
theorem dX7_bar_8 : decode cX7_bar 8 = .ok (.iload_n 2, 1) := by decide +kernel
theorem dX7_bar_9 : decode cX7_bar 9 = .ok (.iconst 0, 1) := by decide +kernel
theorem dX7_bar_10 : decode cX7_bar 10 = .ok (.aload_n 0, 1) := by decide +kernel
theorem dX7_bar_11 : decode cX7_bar 11 = .ok (.getfield 7, 3) := by decide +kernel
theorem dX7_bar_14 : decode cX7_bar 14 = .ok (.iload_n 1, 1) := by decide +kernel
theorem dX7_bar_15 : decode cX7_bar 15 = .ok (.invokestatic 68, 3) := by decide +kernel
theorem dX7_bar_18 : decode cX7_bar 18 = .ok (.iaload, 1) := by decide +kernel
theorem dX7_bar_19 : decode cX7_bar 19 = .ok (.iconst 1, 1) := by decide +kernel
theorem dX7_bar_20 : decode cX7_bar 20 = .ok (.isub, 1) := by decide +kernel
theorem dX7_bar_21 : decode cX7_bar 21 = .ok (.invokestatic 39, 3) := by decide +kernel
theorem dX7_bar_24 : decode cX7_bar 24 = .ok (.ifCond .eq 19, 3) := by decide +kernel
theorem dX7_bar_27 : decode cX7_bar 27 = .ok (.aload_n 0, 1) := by decide +kernel
theorem dX7_bar_28 : decode cX7_bar 28 = .ok (.getfield 7, 3) := by decide +kernel
theorem dX7_bar_31 : decode cX7_bar 31 = .ok (.iload_n 1, 1) := by decide +kernel
theorem dX7_bar_32 : decode cX7_bar 32 = .ok (.invokestatic 68, 3) := by decide +kernel
theorem dX7_bar_35 : decode cX7_bar 35 = .ok (.iconst 2, 1) := by decide +kernel
theorem dX7_bar_36 : decode cX7_bar 36 = .ok (.iadd, 1) := by decide +kernel
theorem dX7_bar_37 : decode cX7_bar 37 = .ok (.iload_n 2, 1) := by decide +kernel
theorem dX7_bar_38 : decode cX7_bar 38 = .ok (.iadd, 1) := by decide +kernel
theorem dX7_bar_39 : decode cX7_bar 39 = .ok (.iaload, 1) := by decide +kernel
theorem dX7_bar_40 : decode cX7_bar 40 = .ok (.goto 4, 3) := by decide +kernel
theorem dX7_bar_43 : decode cX7_bar 43 = .ok (.iconst (-1), 1) := by decide +kernel
theorem dX7_bar_44 : decode cX7_bar 44 = .ok (.ireturn, 1) := by decide +kernel
theorem dX7_strengths_0 : decode cX7_strengths 0 = .ok (.iconst 0, 1) := by decide +kernel
theorem dX7_strengths_1 : decode cX7_strengths 1 = .ok (.istore_n 2, 1) := by decide +kernel
theorem dX7_strengths_2 : decode cX7_strengths 2 = .ok (.iconst 0, 1) := by decide +kernel
theorem dX7_strengths_3 : decode cX7_strengths 3 = .ok (.istore_n 3, 1) := by decide +kernel
theorem dX7_strengths_4 : decode cX7_strengths 4 = .ok (.iload_n 3, 1) := by decide +kernel
theorem dX7_strengths_5 : decode cX7_strengths 5 = .ok (.aload_n 0, 1) := by decide +kernel
theorem dX7_strengths_6 : decode cX7_strengths 6 = .ok (.getfield 7, 3) := by decide +kernel
theorem dX7_strengths_9 : decode cX7_strengths 9 = .ok (.iload_n 1, 1) := by decide +kernel
theorem dX7_strengths_10 : decode cX7_strengths 10 = .ok (.invokestatic 47, 3) := by decide +kernel
theorem dX7_strengths_13 : decode cX7_strengths 13 = .ok (.iaload, 1) := by decide +kernel
theorem dX7_strengths_14 : decode cX7_strengths 14 = .ok (.if_icmp .ge 24, 3) := by decide +kernel
theorem dX7_strengths_17 : decode cX7_strengths 17 = .ok (.iload_n 2, 1) := by decide +kernel
theorem dX7_strengths_18 : decode cX7_strengths 18 = .ok (.aload_n 0, 1) := by decide +kernel
theorem dX7_strengths_19 : decode cX7_strengths 19 = .ok (.getfield 7, 3) := by decide +kernel
theorem dX7_strengths_22 : decode cX7_strengths 22 = .ok (.iload_n 1, 1) := by decide +kernel
theorem dX7_strengths_23 : decode cX7_strengths 23 = .ok (.iload_n 3, 1) := by decide +kernel
theorem dX7_strengths_24 : decode cX7_strengths 24 = .ok (.invokestatic 51, 3) := by decide +kernel
theorem dX7_strengths_27 : decode cX7_strengths 27 = .ok (.iconst 1, 1) := by decide +kernel
theorem dX7_strengths_28 : decode cX7_strengths 28 = .ok (.iadd, 1) := by decide +kernel
theorem dX7_strengths_29 : decode cX7_strengths 29 = .ok (.iaload, 1) := by decide +kernel
theorem dX7_strengths_30 : decode cX7_strengths 30 = .ok (.iadd, 1) := by decide +kernel
theorem dX7_strengths_31 : decode cX7_strengths 31 = .ok (.istore_n 2, 1) := by decide +kernel
theorem dX7_strengths_32 : decode cX7_strengths 32 = .ok (.iinc 3 1, 3) := by decide +kernel
theorem dX7_strengths_35 : decode cX7_strengths 35 = .ok (.goto (-31), 3) := by decide +kernel
theorem dX7_strengths_38 : decode cX7_strengths 38 = .ok (.iload_n 2, 1) := by decide +kernel
theorem dX7_strengths_39 : decode cX7_strengths 39 = .ok (.ireturn, 1) := by decide +kernel
theorem dX7_songsOf_0 : decode cX7_songsOf 0 = .ok (.iconst 0, 1) := by decide +kernel
theorem dX7_songsOf_1 : decode cX7_songsOf 1 = .ok (.istore_n 2, 1) := by decide +kernel
theorem dX7_songsOf_2 : decode cX7_songsOf 2 = .ok (.iconst 0, 1) := by decide +kernel
theorem dX7_songsOf_3 : decode cX7_songsOf 3 = .ok (.istore_n 3, 1) := by decide +kernel
theorem dX7_songsOf_4 : decode cX7_songsOf 4 = .ok (.iload_n 3, 1) := by decide +kernel
theorem dX7_songsOf_5 : decode cX7_songsOf 5 = .ok (.aload_n 0, 1) := by decide +kernel
theorem dX7_songsOf_6 : decode cX7_songsOf 6 = .ok (.getfield 7, 3) := by decide +kernel
theorem dX7_songsOf_9 : decode cX7_songsOf 9 = .ok (.iconst 5, 1) := by decide +kernel
theorem dX7_songsOf_10 : decode cX7_songsOf 10 = .ok (.iaload, 1) := by decide +kernel
theorem dX7_songsOf_11 : decode cX7_songsOf 11 = .ok (.if_icmp .ge 30, 3) := by decide +kernel
theorem dX7_songsOf_14 : decode cX7_songsOf 14 = .ok (.iload_n 2, 1) := by decide +kernel
theorem dX7_songsOf_15 : decode cX7_songsOf 15 = .ok (.aload_n 0, 1) := by decide +kernel
theorem dX7_songsOf_16 : decode cX7_songsOf 16 = .ok (.iload_n 1, 1) := by decide +kernel
theorem dX7_songsOf_17 : decode cX7_songsOf 17 = .ok (.iload_n 3, 1) := by decide +kernel
theorem dX7_songsOf_18 : decode cX7_songsOf 18 = .ok (.invokevirtual 77, 3) := by decide +kernel
theorem dX7_songsOf_21 : decode cX7_songsOf 21 = .ok (.bipush 100, 2) := by decide +kernel
theorem dX7_songsOf_23 : decode cX7_songsOf 23 = .ok (.if_icmp .ne 9, 3) := by decide +kernel
theorem dX7_songsOf_26 : decode cX7_songsOf 26 = .ok (.iconst 1, 1) := by decide +kernel
theorem dX7_songsOf_27 : decode cX7_songsOf 27 = .ok (.iload_n 3, 1) := by decide +kernel
theorem dX7_songsOf_28 : decode cX7_songsOf 28 = .ok (.ishl, 1) := by decide +kernel
theorem dX7_songsOf_29 : decode cX7_songsOf 29 = .ok (.goto 4, 3) := by decide +kernel
theorem dX7_songsOf_32 : decode cX7_songsOf 32 = .ok (.iconst 0, 1) := by decide +kernel
theorem dX7_songsOf_33 : decode cX7_songsOf 33 = .ok (.ior, 1) := by decide +kernel
theorem dX7_songsOf_34 : decode cX7_songsOf 34 = .ok (.istore_n 2, 1) := by decide +kernel
theorem dX7_songsOf_35 : decode cX7_songsOf 35 = .ok (.iinc 3 1, 3) := by decide +kernel
theorem dX7_songsOf_38 : decode cX7_songsOf 38 = .ok (.goto (-34), 3) := by decide +kernel
theorem dX7_songsOf_41 : decode cX7_songsOf 41 = .ok (.iload_n 2, 1) := by decide +kernel
theorem dX7_songsOf_42 : decode cX7_songsOf 42 = .ok (.ireturn, 1) := by decide +kernel
theorem dX7_of_0 : decode cX7_of 0 = .ok (.aload_n 0, 1) := by decide +kernel
theorem dX7_of_1 : decode cX7_of 1 = .ok (.iload_n 1, 1) := by decide +kernel
theorem dX7_of_2 : decode cX7_of 2 = .ok (.invokevirtual 80, 3) := by decide +kernel
theorem dX7_of_5 : decode cX7_of 5 = .ok (.ifCond .ne 5, 3) := by decide +kernel
theorem dX7_of_8 : decode cX7_of 8 = .ok (.iconst (-1), 1) := by decide +kernel
theorem dX7_of_9 : decode cX7_of 9 = .ok (.ireturn, 1) := by decide +kernel
theorem dX7_of_10 : decode cX7_of 10 = .ok (.iload_n 1, 1) := by decide +kernel
theorem dX7_of_11 : decode cX7_of 11 = .ok (.invokestatic 47, 3) := by decide +kernel
theorem dX7_of_14 : decode cX7_of 14 = .ok (.istore_n 3, 1) := by decide +kernel
theorem dX7_of_15 : decode cX7_of 15 = .ok (.iload_n 2, 1) := by decide +kernel
theorem dX7_of_16 : decode cX7_of 16 = .ok (.tableswitch 99 0 6 #[44, 51, 57, 82, 82, 82, 93], 44) := by decide +kernel
theorem dX7_of_60 : decode cX7_of 60 = .ok (.aload_n 0, 1) := by decide +kernel
theorem dX7_of_61 : decode cX7_of 61 = .ok (.getfield 7, 3) := by decide +kernel
theorem dX7_of_64 : decode cX7_of 64 = .ok (.iload_n 3, 1) := by decide +kernel
theorem dX7_of_65 : decode cX7_of 65 = .ok (.iaload, 1) := by decide +kernel
theorem dX7_of_66 : decode cX7_of 66 = .ok (.ireturn, 1) := by decide +kernel
theorem dX7_of_67 : decode cX7_of 67 = .ok (.aload_n 0, 1) := by decide +kernel
theorem dX7_of_68 : decode cX7_of 68 = .ok (.iload_n 1, 1) := by decide +kernel
theorem dX7_of_69 : decode cX7_of 69 = .ok (.invokevirtual 128, 3) := by decide +kernel
theorem dX7_of_72 : decode cX7_of 72 = .ok (.ireturn, 1) := by decide +kernel
theorem dX7_of_73 : decode cX7_of 73 = .ok (.aload_n 0, 1) := by decide +kernel
theorem dX7_of_74 : decode cX7_of 74 = .ok (.getfield 7, 3) := by decide +kernel
theorem dX7_of_77 : decode cX7_of 77 = .ok (.iload_n 3, 1) := by decide +kernel
theorem dX7_of_78 : decode cX7_of 78 = .ok (.iconst 1, 1) := by decide +kernel
theorem dX7_of_79 : decode cX7_of 79 = .ok (.iadd, 1) := by decide +kernel
theorem dX7_of_80 : decode cX7_of 80 = .ok (.iaload, 1) := by decide +kernel
theorem dX7_of_81 : decode cX7_of 81 = .ok (.ifCond .ge 8, 3) := by decide +kernel
theorem dX7_of_84 : decode cX7_of 84 = .ok (.bipush (-6), 2) := by decide +kernel
theorem dX7_of_86 : decode cX7_of 86 = .ok (.goto 11, 3) := by decide +kernel
theorem dX7_of_89 : decode cX7_of 89 = .ok (.aload_n 0, 1) := by decide +kernel
theorem dX7_of_90 : decode cX7_of 90 = .ok (.getfield 7, 3) := by decide +kernel
theorem dX7_of_93 : decode cX7_of 93 = .ok (.iload_n 3, 1) := by decide +kernel
theorem dX7_of_94 : decode cX7_of 94 = .ok (.iconst 1, 1) := by decide +kernel
theorem dX7_of_95 : decode cX7_of 95 = .ok (.iadd, 1) := by decide +kernel
theorem dX7_of_96 : decode cX7_of 96 = .ok (.iaload, 1) := by decide +kernel
theorem dX7_of_97 : decode cX7_of 97 = .ok (.ireturn, 1) := by decide +kernel
theorem dX7_of_98 : decode cX7_of 98 = .ok (.aload_n 0, 1) := by decide +kernel
theorem dX7_of_99 : decode cX7_of 99 = .ok (.getfield 7, 3) := by decide +kernel
theorem dX7_of_102 : decode cX7_of 102 = .ok (.iload_n 3, 1) := by decide +kernel
theorem dX7_of_103 : decode cX7_of 103 = .ok (.iload_n 2, 1) := by decide +kernel
theorem dX7_of_104 : decode cX7_of 104 = .ok (.iadd, 1) := by decide +kernel
theorem dX7_of_105 : decode cX7_of 105 = .ok (.iconst 1, 1) := by decide +kernel
theorem dX7_of_106 : decode cX7_of 106 = .ok (.isub, 1) := by decide +kernel
theorem dX7_of_107 : decode cX7_of 107 = .ok (.iaload, 1) := by decide +kernel
theorem dX7_of_108 : decode cX7_of 108 = .ok (.ireturn, 1) := by decide +kernel
theorem dX7_of_109 : decode cX7_of 109 = .ok (.aload_n 0, 1) := by decide +kernel
theorem dX7_of_110 : decode cX7_of 110 = .ok (.iload_n 1, 1) := by decide +kernel
theorem dX7_of_111 : decode cX7_of 111 = .ok (.invokevirtual 131, 3) := by decide +kernel
theorem dX7_of_114 : decode cX7_of 114 = .ok (.ireturn, 1) := by decide +kernel
theorem dX7_of_115 : decode cX7_of 115 = .ok (.bipush (-2), 2) := by decide +kernel
theorem dX7_of_117 : decode cX7_of 117 = .ok (.ireturn, 1) := by decide +kernel
theorem dX7_link_0 : decode cX7_link 0 = .ok (.aload_n 0, 1) := by decide +kernel
theorem dX7_link_1 : decode cX7_link 1 = .ok (.iload_n 1, 1) := by decide +kernel
theorem dX7_link_2 : decode cX7_link 2 = .ok (.invokevirtual 80, 3) := by decide +kernel
theorem dX7_link_5 : decode cX7_link 5 = .ok (.ifCond .eq 22, 3) := by decide +kernel
theorem dX7_link_8 : decode cX7_link 8 = .ok (.iload_n 2, 1) := by decide +kernel
theorem dX7_link_9 : decode cX7_link 9 = .ok (.iconst 0, 1) := by decide +kernel
theorem dX7_link_10 : decode cX7_link 10 = .ok (.aload_n 0, 1) := by decide +kernel
theorem dX7_link_11 : decode cX7_link 11 = .ok (.getfield 7, 3) := by decide +kernel
theorem dX7_link_14 : decode cX7_link 14 = .ok (.iload_n 1, 1) := by decide +kernel
theorem dX7_link_15 : decode cX7_link 15 = .ok (.invokestatic 47, 3) := by decide +kernel
theorem dX7_link_18 : decode cX7_link 18 = .ok (.iaload, 1) := by decide +kernel
theorem dX7_link_19 : decode cX7_link 19 = .ok (.iconst 1, 1) := by decide +kernel
theorem dX7_link_20 : decode cX7_link 20 = .ok (.isub, 1) := by decide +kernel
theorem dX7_link_21 : decode cX7_link 21 = .ok (.invokestatic 39, 3) := by decide +kernel
theorem dX7_link_24 : decode cX7_link 24 = .ok (.ifCond .ne 5, 3) := by decide +kernel
theorem dX7_link_27 : decode cX7_link 27 = .ok (.iconst (-1), 1) := by decide +kernel
theorem dX7_link_28 : decode cX7_link 28 = .ok (.ireturn, 1) := by decide +kernel
theorem dX7_link_29 : decode cX7_link 29 = .ok (.iload_n 1, 1) := by decide +kernel
theorem dX7_link_30 : decode cX7_link 30 = .ok (.aload_n 0, 1) := by decide +kernel
theorem dX7_link_31 : decode cX7_link 31 = .ok (.getfield 7, 3) := by decide +kernel
theorem dX7_link_34 : decode cX7_link 34 = .ok (.iload_n 1, 1) := by decide +kernel
theorem dX7_link_35 : decode cX7_link 35 = .ok (.invokestatic 47, 3) := by decide +kernel
theorem dX7_link_38 : decode cX7_link 38 = .ok (.iaload, 1) := by decide +kernel
theorem dX7_link_39 : decode cX7_link 39 = .ok (.iconst 1, 1) := by decide +kernel
theorem dX7_link_40 : decode cX7_link 40 = .ok (.isub, 1) := by decide +kernel
theorem dX7_link_41 : decode cX7_link 41 = .ok (.iload_n 2, 1) := by decide +kernel
theorem dX7_link_42 : decode cX7_link 42 = .ok (.isub, 1) := by decide +kernel
theorem dX7_link_43 : decode cX7_link 43 = .ok (.invokestatic 51, 3) := by decide +kernel
theorem dX7_link_46 : decode cX7_link 46 = .ok (.istore 4, 2) := by decide +kernel
theorem dX7_link_48 : decode cX7_link 48 = .ok (.iload_n 3, 1) := by decide +kernel
theorem dX7_link_49 : decode cX7_link 49 = .ok (.tableswitch 65 0 3 #[31, 42, 53, 53], 31) := by decide +kernel
theorem dX7_link_80 : decode cX7_link 80 = .ok (.aload_n 0, 1) := by decide +kernel
theorem dX7_link_81 : decode cX7_link 81 = .ok (.getfield 7, 3) := by decide +kernel
theorem dX7_link_84 : decode cX7_link 84 = .ok (.iload 4, 2) := by decide +kernel
theorem dX7_link_86 : decode cX7_link 86 = .ok (.iaload, 1) := by decide +kernel
theorem dX7_link_87 : decode cX7_link 87 = .ok (.bipush 26, 2) := by decide +kernel
theorem dX7_link_89 : decode cX7_link 89 = .ok (.idiv, 1) := by decide +kernel
theorem dX7_link_90 : decode cX7_link 90 = .ok (.ireturn, 1) := by decide +kernel
theorem dX7_link_91 : decode cX7_link 91 = .ok (.aload_n 0, 1) := by decide +kernel
theorem dX7_link_92 : decode cX7_link 92 = .ok (.getfield 7, 3) := by decide +kernel
theorem dX7_link_95 : decode cX7_link 95 = .ok (.iload 4, 2) := by decide +kernel
theorem dX7_link_97 : decode cX7_link 97 = .ok (.iaload, 1) := by decide +kernel
theorem dX7_link_98 : decode cX7_link 98 = .ok (.bipush 26, 2) := by decide +kernel
theorem dX7_link_100 : decode cX7_link 100 = .ok (.irem, 1) := by decide +kernel
theorem dX7_link_101 : decode cX7_link 101 = .ok (.ireturn, 1) := by decide +kernel
theorem dX7_link_102 : decode cX7_link 102 = .ok (.aload_n 0, 1) := by decide +kernel
theorem dX7_link_103 : decode cX7_link 103 = .ok (.getfield 7, 3) := by decide +kernel
theorem dX7_link_106 : decode cX7_link 106 = .ok (.iload 4, 2) := by decide +kernel
theorem dX7_link_108 : decode cX7_link 108 = .ok (.iload_n 3, 1) := by decide +kernel
theorem dX7_link_109 : decode cX7_link 109 = .ok (.iadd, 1) := by decide +kernel
theorem dX7_link_110 : decode cX7_link 110 = .ok (.iconst 1, 1) := by decide +kernel
theorem dX7_link_111 : decode cX7_link 111 = .ok (.isub, 1) := by decide +kernel
theorem dX7_link_112 : decode cX7_link 112 = .ok (.iaload, 1) := by decide +kernel
theorem dX7_link_113 : decode cX7_link 113 = .ok (.ireturn, 1) := by decide +kernel
theorem dX7_link_114 : decode cX7_link 114 = .ok (.bipush (-2), 2) := by decide +kernel
theorem dX7_link_116 : decode cX7_link 116 = .ok (.ireturn, 1) := by decide +kernel
theorem dX7_sings_0 : decode cX7_sings 0 = .ok (.aload_n 0, 1) := by decide +kernel
theorem dX7_sings_1 : decode cX7_sings 1 = .ok (.iload_n 1, 1) := by decide +kernel
theorem dX7_sings_2 : decode cX7_sings 2 = .ok (.invokevirtual 80, 3) := by decide +kernel
theorem dX7_sings_5 : decode cX7_sings 5 = .ok (.ifCond .ne 5, 3) := by decide +kernel
theorem dX7_sings_8 : decode cX7_sings 8 = .ok (.iconst (-1), 1) := by decide +kernel
theorem dX7_sings_9 : decode cX7_sings 9 = .ok (.ireturn, 1) := by decide +kernel
theorem dX7_sings_10 : decode cX7_sings 10 = .ok (.iload_n 2, 1) := by decide +kernel
theorem dX7_sings_11 : decode cX7_sings 11 = .ok (.iconst 0, 1) := by decide +kernel
theorem dX7_sings_12 : decode cX7_sings 12 = .ok (.bipush 25, 2) := by decide +kernel
theorem dX7_sings_14 : decode cX7_sings 14 = .ok (.invokestatic 39, 3) := by decide +kernel
theorem dX7_sings_17 : decode cX7_sings 17 = .ok (.ifCond .eq 13, 3) := by decide +kernel
theorem dX7_sings_20 : decode cX7_sings 20 = .ok (.iload_n 3, 1) := by decide +kernel
theorem dX7_sings_21 : decode cX7_sings 21 = .ok (.iconst 0, 1) := by decide +kernel
theorem dX7_sings_22 : decode cX7_sings 22 = .ok (.bipush 99, 2) := by decide +kernel
theorem dX7_sings_24 : decode cX7_sings 24 = .ok (.invokestatic 39, 3) := by decide +kernel
theorem dX7_sings_27 : decode cX7_sings 27 = .ok (.ifCond .ne 6, 3) := by decide +kernel
theorem dX7_sings_30 : decode cX7_sings 30 = .ok (.bipush (-2), 2) := by decide +kernel
theorem dX7_sings_32 : decode cX7_sings 32 = .ok (.ireturn, 1) := by decide +kernel
theorem dX7_sings_33 : decode cX7_sings 33 = .ok (.iload_n 2, 1) := by decide +kernel
theorem dX7_sings_34 : decode cX7_sings 34 = .ok (.istore 4, 2) := by decide +kernel
theorem dX7_sings_36 : decode cX7_sings 36 = .ok (.iconst 0, 1) := by decide +kernel
theorem dX7_sings_37 : decode cX7_sings 37 = .ok (.istore 5, 2) := by decide +kernel
theorem dX7_sings_39 : decode cX7_sings 39 = .ok (.iload 5, 2) := by decide +kernel
theorem dX7_sings_41 : decode cX7_sings 41 = .ok (.iload_n 3, 1) := by decide +kernel
theorem dX7_sings_42 : decode cX7_sings 42 = .ok (.if_icmp .ge 23, 3) := by decide +kernel
theorem dX7_sings_45 : decode cX7_sings 45 = .ok (.iload 4, 2) := by decide +kernel
theorem dX7_sings_47 : decode cX7_sings 47 = .ok (.ifCond .lt 18, 3) := by decide +kernel
theorem dX7_sings_50 : decode cX7_sings 50 = .ok (.aload_n 0, 1) := by decide +kernel
theorem dX7_sings_51 : decode cX7_sings 51 = .ok (.iload_n 1, 1) := by decide +kernel
theorem dX7_sings_52 : decode cX7_sings 52 = .ok (.iload 4, 2) := by decide +kernel
theorem dX7_sings_54 : decode cX7_sings 54 = .ok (.invokevirtual 71, 3) := by decide +kernel
theorem dX7_sings_57 : decode cX7_sings 57 = .ok (.istore 4, 2) := by decide +kernel
theorem dX7_sings_59 : decode cX7_sings 59 = .ok (.iinc 5 1, 3) := by decide +kernel
theorem dX7_sings_62 : decode cX7_sings 62 = .ok (.goto (-23), 3) := by decide +kernel
theorem dX7_sings_65 : decode cX7_sings 65 = .ok (.iload 4, 2) := by decide +kernel
theorem dX7_sings_67 : decode cX7_sings 67 = .ok (.ifCond .ge 8, 3) := by decide +kernel
theorem dX7_sings_70 : decode cX7_sings 70 = .ok (.bipush (-6), 2) := by decide +kernel
theorem dX7_sings_72 : decode cX7_sings 72 = .ok (.goto 5, 3) := by decide +kernel
theorem dX7_sings_75 : decode cX7_sings 75 = .ok (.iload 4, 2) := by decide +kernel
theorem dX7_sings_77 : decode cX7_sings 77 = .ok (.ireturn, 1) := by decide +kernel
theorem dX7_knows_0 : decode cX7_knows 0 = .ok (.aload_n 0, 1) := by decide +kernel
theorem dX7_knows_1 : decode cX7_knows 1 = .ok (.iload_n 1, 1) := by decide +kernel
theorem dX7_knows_2 : decode cX7_knows 2 = .ok (.invokevirtual 80, 3) := by decide +kernel
theorem dX7_knows_5 : decode cX7_knows 5 = .ok (.ifCond .eq 20, 3) := by decide +kernel
theorem dX7_knows_8 : decode cX7_knows 8 = .ok (.aload_n 0, 1) := by decide +kernel
theorem dX7_knows_9 : decode cX7_knows 9 = .ok (.iload_n 2, 1) := by decide +kernel
theorem dX7_knows_10 : decode cX7_knows 10 = .ok (.invokevirtual 84, 3) := by decide +kernel
theorem dX7_knows_13 : decode cX7_knows 13 = .ok (.ifCond .eq 12, 3) := by decide +kernel
theorem dX7_knows_16 : decode cX7_knows 16 = .ok (.aload_n 0, 1) := by decide +kernel
theorem dX7_knows_17 : decode cX7_knows 17 = .ok (.iload_n 1, 1) := by decide +kernel
theorem dX7_knows_18 : decode cX7_knows 18 = .ok (.iload_n 2, 1) := by decide +kernel
theorem dX7_knows_19 : decode cX7_knows 19 = .ok (.invokevirtual 77, 3) := by decide +kernel
theorem dX7_knows_22 : decode cX7_knows 22 = .ok (.goto 4, 3) := by decide +kernel
theorem dX7_knows_25 : decode cX7_knows 25 = .ok (.iconst (-1), 1) := by decide +kernel
theorem dX7_knows_26 : decode cX7_knows 26 = .ok (.ireturn, 1) := by decide +kernel
theorem dX7_songsWith_0 : decode cX7_songsWith 0 = .ok (.iconst 0, 1) := by decide +kernel
theorem dX7_songsWith_1 : decode cX7_songsWith 1 = .ok (.istore_n 3, 1) := by decide +kernel
theorem dX7_songsWith_2 : decode cX7_songsWith 2 = .ok (.iconst 0, 1) := by decide +kernel
theorem dX7_songsWith_3 : decode cX7_songsWith 3 = .ok (.istore 4, 2) := by decide +kernel
theorem dX7_songsWith_5 : decode cX7_songsWith 5 = .ok (.iload 4, 2) := by decide +kernel
theorem dX7_songsWith_7 : decode cX7_songsWith 7 = .ok (.aload_n 0, 1) := by decide +kernel
theorem dX7_songsWith_8 : decode cX7_songsWith 8 = .ok (.getfield 7, 3) := by decide +kernel
theorem dX7_songsWith_11 : decode cX7_songsWith 11 = .ok (.iconst 5, 1) := by decide +kernel
theorem dX7_songsWith_12 : decode cX7_songsWith 12 = .ok (.iaload, 1) := by decide +kernel
theorem dX7_songsWith_13 : decode cX7_songsWith 13 = .ok (.if_icmp .ge 80, 3) := by decide +kernel
theorem dX7_songsWith_16 : decode cX7_songsWith 16 = .ok (.iload 4, 2) := by decide +kernel
theorem dX7_songsWith_18 : decode cX7_songsWith 18 = .ok (.invokestatic 68, 3) := by decide +kernel
theorem dX7_songsWith_21 : decode cX7_songsWith 21 = .ok (.istore 5, 2) := by decide +kernel
theorem dX7_songsWith_23 : decode cX7_songsWith 23 = .ok (.iconst 1, 1) := by decide +kernel
theorem dX7_songsWith_24 : decode cX7_songsWith 24 = .ok (.istore 6, 2) := by decide +kernel
theorem dX7_songsWith_26 : decode cX7_songsWith 26 = .ok (.iload 6, 2) := by decide +kernel
theorem dX7_songsWith_28 : decode cX7_songsWith 28 = .ok (.aload_n 0, 1) := by decide +kernel
theorem dX7_songsWith_29 : decode cX7_songsWith 29 = .ok (.getfield 7, 3) := by decide +kernel
theorem dX7_songsWith_32 : decode cX7_songsWith 32 = .ok (.iload 5, 2) := by decide +kernel
theorem dX7_songsWith_34 : decode cX7_songsWith 34 = .ok (.iaload, 1) := by decide +kernel
theorem dX7_songsWith_35 : decode cX7_songsWith 35 = .ok (.if_icmp .ge 52, 3) := by decide +kernel
theorem dX7_songsWith_38 : decode cX7_songsWith 38 = .ok (.iload_n 3, 1) := by decide +kernel
theorem dX7_songsWith_39 : decode cX7_songsWith 39 = .ok (.aload_n 0, 1) := by decide +kernel
theorem dX7_songsWith_40 : decode cX7_songsWith 40 = .ok (.getfield 7, 3) := by decide +kernel
theorem dX7_songsWith_43 : decode cX7_songsWith 43 = .ok (.iload 5, 2) := by decide +kernel
theorem dX7_songsWith_45 : decode cX7_songsWith 45 = .ok (.iconst 1, 1) := by decide +kernel
theorem dX7_songsWith_46 : decode cX7_songsWith 46 = .ok (.iadd, 1) := by decide +kernel
theorem dX7_songsWith_47 : decode cX7_songsWith 47 = .ok (.iload 6, 2) := by decide +kernel
theorem dX7_songsWith_49 : decode cX7_songsWith 49 = .ok (.iadd, 1) := by decide +kernel
theorem dX7_songsWith_50 : decode cX7_songsWith 50 = .ok (.iaload, 1) := by decide +kernel
theorem dX7_songsWith_51 : decode cX7_songsWith 51 = .ok (.iload_n 1, 1) := by decide +kernel
theorem dX7_songsWith_52 : decode cX7_songsWith 52 = .ok (.if_icmp .ne 26, 3) := by decide +kernel
theorem dX7_songsWith_55 : decode cX7_songsWith 55 = .ok (.aload_n 0, 1) := by decide +kernel
theorem dX7_songsWith_56 : decode cX7_songsWith 56 = .ok (.getfield 7, 3) := by decide +kernel
theorem dX7_songsWith_59 : decode cX7_songsWith 59 = .ok (.iload 5, 2) := by decide +kernel
theorem dX7_songsWith_61 : decode cX7_songsWith 61 = .ok (.iconst 2, 1) := by decide +kernel
theorem dX7_songsWith_62 : decode cX7_songsWith 62 = .ok (.iadd, 1) := by decide +kernel
theorem dX7_songsWith_63 : decode cX7_songsWith 63 = .ok (.iload 6, 2) := by decide +kernel
theorem dX7_songsWith_65 : decode cX7_songsWith 65 = .ok (.iadd, 1) := by decide +kernel
theorem dX7_songsWith_66 : decode cX7_songsWith 66 = .ok (.iaload, 1) := by decide +kernel
theorem dX7_songsWith_67 : decode cX7_songsWith 67 = .ok (.iload_n 2, 1) := by decide +kernel
theorem dX7_songsWith_68 : decode cX7_songsWith 68 = .ok (.if_icmp .ne 10, 3) := by decide +kernel
theorem dX7_songsWith_71 : decode cX7_songsWith 71 = .ok (.iconst 1, 1) := by decide +kernel
theorem dX7_songsWith_72 : decode cX7_songsWith 72 = .ok (.iload 4, 2) := by decide +kernel
theorem dX7_songsWith_74 : decode cX7_songsWith 74 = .ok (.ishl, 1) := by decide +kernel
theorem dX7_songsWith_75 : decode cX7_songsWith 75 = .ok (.goto 4, 3) := by decide +kernel
theorem dX7_songsWith_78 : decode cX7_songsWith 78 = .ok (.iconst 0, 1) := by decide +kernel
theorem dX7_songsWith_79 : decode cX7_songsWith 79 = .ok (.ior, 1) := by decide +kernel
theorem dX7_songsWith_80 : decode cX7_songsWith 80 = .ok (.istore_n 3, 1) := by decide +kernel
theorem dX7_songsWith_81 : decode cX7_songsWith 81 = .ok (.iinc 6 1, 3) := by decide +kernel
theorem dX7_songsWith_84 : decode cX7_songsWith 84 = .ok (.goto (-58), 3) := by decide +kernel
theorem dX7_songsWith_87 : decode cX7_songsWith 87 = .ok (.iinc 4 1, 3) := by decide +kernel
theorem dX7_songsWith_90 : decode cX7_songsWith 90 = .ok (.goto (-85), 3) := by decide +kernel
theorem dX7_songsWith_93 : decode cX7_songsWith 93 = .ok (.iload_n 3, 1) := by decide +kernel
theorem dX7_songsWith_94 : decode cX7_songsWith 94 = .ok (.ireturn, 1) := by decide +kernel
theorem dX7_mistake_0 : decode cX7_mistake 0 = .ok (.aload_n 0, 1) := by decide +kernel
theorem dX7_mistake_1 : decode cX7_mistake 1 = .ok (.iload_n 1, 1) := by decide +kernel
theorem dX7_mistake_2 : decode cX7_mistake 2 = .ok (.invokevirtual 80, 3) := by decide +kernel
theorem dX7_mistake_5 : decode cX7_mistake 5 = .ok (.ifCond .eq 11, 3) := by decide +kernel
theorem dX7_mistake_8 : decode cX7_mistake 8 = .ok (.aload_n 0, 1) := by decide +kernel
theorem dX7_mistake_9 : decode cX7_mistake 9 = .ok (.iload_n 2, 1) := by decide +kernel
theorem dX7_mistake_10 : decode cX7_mistake 10 = .ok (.invokevirtual 84, 3) := by decide +kernel
theorem dX7_mistake_13 : decode cX7_mistake 13 = .ok (.ifCond .ne 5, 3) := by decide +kernel
theorem dX7_mistake_16 : decode cX7_mistake 16 = .ok (.iconst (-1), 1) := by decide +kernel
theorem dX7_mistake_17 : decode cX7_mistake 17 = .ok (.ireturn, 1) := by decide +kernel
theorem dX7_mistake_18 : decode cX7_mistake 18 = .ok (.iload_n 3, 1) := by decide +kernel
theorem dX7_mistake_19 : decode cX7_mistake 19 = .ok (.iconst 0, 1) := by decide +kernel
theorem dX7_mistake_20 : decode cX7_mistake 20 = .ok (.iconst 2, 1) := by decide +kernel
theorem dX7_mistake_21 : decode cX7_mistake 21 = .ok (.invokestatic 39, 3) := by decide +kernel
theorem dX7_mistake_24 : decode cX7_mistake 24 = .ok (.ifCond .ne 6, 3) := by decide +kernel
theorem dX7_mistake_27 : decode cX7_mistake 27 = .ok (.bipush (-2), 2) := by decide +kernel
theorem dX7_mistake_29 : decode cX7_mistake 29 = .ok (.ireturn, 1) := by decide +kernel
theorem dX7_mistake_30 : decode cX7_mistake 30 = .ok (.aload_n 0, 1) := by decide +kernel
theorem dX7_mistake_31 : decode cX7_mistake 31 = .ok (.iload_n 1, 1) := by decide +kernel
theorem dX7_mistake_32 : decode cX7_mistake 32 = .ok (.iload_n 2, 1) := by decide +kernel
theorem dX7_mistake_33 : decode cX7_mistake 33 = .ok (.invokevirtual 74, 3) := by decide +kernel
theorem dX7_mistake_36 : decode cX7_mistake 36 = .ok (.istore 4, 2) := by decide +kernel
theorem dX7_mistake_38 : decode cX7_mistake 38 = .ok (.iload 4, 2) := by decide +kernel
theorem dX7_mistake_40 : decode cX7_mistake 40 = .ok (.iconst 1, 1) := by decide +kernel
theorem dX7_mistake_41 : decode cX7_mistake 41 = .ok (.iadd, 1) := by decide +kernel
theorem dX7_mistake_42 : decode cX7_mistake 42 = .ok (.aload_n 0, 1) := by decide +kernel
theorem dX7_mistake_43 : decode cX7_mistake 43 = .ok (.getfield 7, 3) := by decide +kernel
theorem dX7_mistake_46 : decode cX7_mistake 46 = .ok (.iload_n 2, 1) := by decide +kernel
theorem dX7_mistake_47 : decode cX7_mistake 47 = .ok (.invokestatic 68, 3) := by decide +kernel
theorem dX7_mistake_50 : decode cX7_mistake 50 = .ok (.iaload, 1) := by decide +kernel
theorem dX7_mistake_51 : decode cX7_mistake 51 = .ok (.if_icmp .lt 6, 3) := by decide +kernel
theorem dX7_mistake_54 : decode cX7_mistake 54 = .ok (.bipush (-5), 2) := by decide +kernel
theorem dX7_mistake_56 : decode cX7_mistake 56 = .ok (.ireturn, 1) := by decide +kernel
theorem dX7_mistake_57 : decode cX7_mistake 57 = .ok (.aload_n 0, 1) := by decide +kernel
theorem dX7_mistake_58 : decode cX7_mistake 58 = .ok (.getfield 7, 3) := by decide +kernel
theorem dX7_mistake_61 : decode cX7_mistake 61 = .ok (.iload_n 2, 1) := by decide +kernel
theorem dX7_mistake_62 : decode cX7_mistake 62 = .ok (.invokestatic 68, 3) := by decide +kernel
theorem dX7_mistake_65 : decode cX7_mistake 65 = .ok (.iconst 2, 1) := by decide +kernel
theorem dX7_mistake_66 : decode cX7_mistake 66 = .ok (.iadd, 1) := by decide +kernel
theorem dX7_mistake_67 : decode cX7_mistake 67 = .ok (.iload 4, 2) := by decide +kernel
theorem dX7_mistake_69 : decode cX7_mistake 69 = .ok (.iadd, 1) := by decide +kernel
theorem dX7_mistake_70 : decode cX7_mistake 70 = .ok (.iaload, 1) := by decide +kernel
theorem dX7_mistake_71 : decode cX7_mistake 71 = .ok (.istore 5, 2) := by decide +kernel
theorem dX7_mistake_73 : decode cX7_mistake 73 = .ok (.aload_n 0, 1) := by decide +kernel
theorem dX7_mistake_74 : decode cX7_mistake 74 = .ok (.iload_n 1, 1) := by decide +kernel
theorem dX7_mistake_75 : decode cX7_mistake 75 = .ok (.iload 5, 2) := by decide +kernel
theorem dX7_mistake_77 : decode cX7_mistake 77 = .ok (.invokevirtual 71, 3) := by decide +kernel
theorem dX7_mistake_80 : decode cX7_mistake 80 = .ok (.istore 6, 2) := by decide +kernel
theorem dX7_mistake_82 : decode cX7_mistake 82 = .ok (.iload_n 3, 1) := by decide +kernel
theorem dX7_mistake_83 : decode cX7_mistake 83 = .ok (.ifCond .ne 10, 3) := by decide +kernel
theorem dX7_mistake_86 : decode cX7_mistake 86 = .ok (.iload 4, 2) := by decide +kernel
theorem dX7_mistake_88 : decode cX7_mistake 88 = .ok (.iconst 1, 1) := by decide +kernel
theorem dX7_mistake_89 : decode cX7_mistake 89 = .ok (.iadd, 1) := by decide +kernel
theorem dX7_mistake_90 : decode cX7_mistake 90 = .ok (.goto 40, 3) := by decide +kernel
theorem dX7_mistake_93 : decode cX7_mistake 93 = .ok (.iload_n 3, 1) := by decide +kernel
theorem dX7_mistake_94 : decode cX7_mistake 94 = .ok (.iconst 1, 1) := by decide +kernel
theorem dX7_mistake_95 : decode cX7_mistake 95 = .ok (.if_icmp .ne 18, 3) := by decide +kernel
theorem dX7_mistake_98 : decode cX7_mistake 98 = .ok (.iload 6, 2) := by decide +kernel
theorem dX7_mistake_100 : decode cX7_mistake 100 = .ok (.ifCond .ge 8, 3) := by decide +kernel
theorem dX7_mistake_103 : decode cX7_mistake 103 = .ok (.bipush (-6), 2) := by decide +kernel
theorem dX7_mistake_105 : decode cX7_mistake 105 = .ok (.goto 25, 3) := by decide +kernel
theorem dX7_mistake_108 : decode cX7_mistake 108 = .ok (.iload 6, 2) := by decide +kernel
theorem dX7_mistake_110 : decode cX7_mistake 110 = .ok (.goto 20, 3) := by decide +kernel
theorem dX7_mistake_113 : decode cX7_mistake 113 = .ok (.iload 6, 2) := by decide +kernel
theorem dX7_mistake_115 : decode cX7_mistake 115 = .ok (.ifCond .ge 7, 3) := by decide +kernel
theorem dX7_mistake_118 : decode cX7_mistake 118 = .ok (.iconst 0, 1) := by decide +kernel
theorem dX7_mistake_119 : decode cX7_mistake 119 = .ok (.goto 11, 3) := by decide +kernel
theorem dX7_mistake_122 : decode cX7_mistake 122 = .ok (.aload_n 0, 1) := by decide +kernel
theorem dX7_mistake_123 : decode cX7_mistake 123 = .ok (.iload 5, 2) := by decide +kernel
theorem dX7_mistake_125 : decode cX7_mistake 125 = .ok (.iload 6, 2) := by decide +kernel
theorem dX7_mistake_127 : decode cX7_mistake 127 = .ok (.invokevirtual 134, 3) := by decide +kernel
theorem dX7_mistake_130 : decode cX7_mistake 130 = .ok (.ireturn, 1) := by decide +kernel
theorem dX7_rhymes_0 : decode cX7_rhymes 0 = .ok (.aload_n 0, 1) := by decide +kernel
theorem dX7_rhymes_1 : decode cX7_rhymes 1 = .ok (.iload_n 1, 1) := by decide +kernel
theorem dX7_rhymes_2 : decode cX7_rhymes 2 = .ok (.invokevirtual 84, 3) := by decide +kernel
theorem dX7_rhymes_5 : decode cX7_rhymes 5 = .ok (.ifCond .eq 11, 3) := by decide +kernel
theorem dX7_rhymes_8 : decode cX7_rhymes 8 = .ok (.aload_n 0, 1) := by decide +kernel
theorem dX7_rhymes_9 : decode cX7_rhymes 9 = .ok (.iload_n 2, 1) := by decide +kernel
theorem dX7_rhymes_10 : decode cX7_rhymes 10 = .ok (.invokevirtual 84, 3) := by decide +kernel
theorem dX7_rhymes_13 : decode cX7_rhymes 13 = .ok (.ifCond .ne 5, 3) := by decide +kernel
theorem dX7_rhymes_16 : decode cX7_rhymes 16 = .ok (.iconst (-1), 1) := by decide +kernel
theorem dX7_rhymes_17 : decode cX7_rhymes 17 = .ok (.ireturn, 1) := by decide +kernel
theorem dX7_rhymes_18 : decode cX7_rhymes 18 = .ok (.iconst 0, 1) := by decide +kernel
theorem dX7_rhymes_19 : decode cX7_rhymes 19 = .ok (.istore_n 3, 1) := by decide +kernel
theorem dX7_rhymes_20 : decode cX7_rhymes 20 = .ok (.iload_n 1, 1) := by decide +kernel
theorem dX7_rhymes_21 : decode cX7_rhymes 21 = .ok (.invokestatic 68, 3) := by decide +kernel
theorem dX7_rhymes_24 : decode cX7_rhymes 24 = .ok (.iconst 1, 1) := by decide +kernel
theorem dX7_rhymes_25 : decode cX7_rhymes 25 = .ok (.iadd, 1) := by decide +kernel
theorem dX7_rhymes_26 : decode cX7_rhymes 26 = .ok (.aload_n 0, 1) := by decide +kernel
theorem dX7_rhymes_27 : decode cX7_rhymes 27 = .ok (.getfield 7, 3) := by decide +kernel
theorem dX7_rhymes_30 : decode cX7_rhymes 30 = .ok (.iload_n 1, 1) := by decide +kernel
theorem dX7_rhymes_31 : decode cX7_rhymes 31 = .ok (.invokestatic 68, 3) := by decide +kernel
theorem dX7_rhymes_34 : decode cX7_rhymes 34 = .ok (.iaload, 1) := by decide +kernel
theorem dX7_rhymes_35 : decode cX7_rhymes 35 = .ok (.iadd, 1) := by decide +kernel
theorem dX7_rhymes_36 : decode cX7_rhymes 36 = .ok (.istore 4, 2) := by decide +kernel
theorem dX7_rhymes_38 : decode cX7_rhymes 38 = .ok (.iload_n 2, 1) := by decide +kernel
theorem dX7_rhymes_39 : decode cX7_rhymes 39 = .ok (.invokestatic 68, 3) := by decide +kernel
theorem dX7_rhymes_42 : decode cX7_rhymes 42 = .ok (.iconst 1, 1) := by decide +kernel
theorem dX7_rhymes_43 : decode cX7_rhymes 43 = .ok (.iadd, 1) := by decide +kernel
theorem dX7_rhymes_44 : decode cX7_rhymes 44 = .ok (.aload_n 0, 1) := by decide +kernel
theorem dX7_rhymes_45 : decode cX7_rhymes 45 = .ok (.getfield 7, 3) := by decide +kernel
theorem dX7_rhymes_48 : decode cX7_rhymes 48 = .ok (.iload_n 2, 1) := by decide +kernel
theorem dX7_rhymes_49 : decode cX7_rhymes 49 = .ok (.invokestatic 68, 3) := by decide +kernel
theorem dX7_rhymes_52 : decode cX7_rhymes 52 = .ok (.iaload, 1) := by decide +kernel
theorem dX7_rhymes_53 : decode cX7_rhymes 53 = .ok (.iadd, 1) := by decide +kernel
theorem dX7_rhymes_54 : decode cX7_rhymes 54 = .ok (.istore 5, 2) := by decide +kernel
theorem dX7_rhymes_56 : decode cX7_rhymes 56 = .ok (.iload_n 3, 1) := by decide +kernel
theorem dX7_rhymes_57 : decode cX7_rhymes 57 = .ok (.aload_n 0, 1) := by decide +kernel
theorem dX7_rhymes_58 : decode cX7_rhymes 58 = .ok (.getfield 7, 3) := by decide +kernel
theorem dX7_rhymes_61 : decode cX7_rhymes 61 = .ok (.iload_n 1, 1) := by decide +kernel
theorem dX7_rhymes_62 : decode cX7_rhymes 62 = .ok (.invokestatic 68, 3) := by decide +kernel
theorem dX7_rhymes_65 : decode cX7_rhymes 65 = .ok (.iaload, 1) := by decide +kernel
theorem dX7_rhymes_66 : decode cX7_rhymes 66 = .ok (.if_icmp .ge 43, 3) := by decide +kernel
theorem dX7_rhymes_69 : decode cX7_rhymes 69 = .ok (.iload_n 3, 1) := by decide +kernel
theorem dX7_rhymes_70 : decode cX7_rhymes 70 = .ok (.aload_n 0, 1) := by decide +kernel
theorem dX7_rhymes_71 : decode cX7_rhymes 71 = .ok (.getfield 7, 3) := by decide +kernel
theorem dX7_rhymes_74 : decode cX7_rhymes 74 = .ok (.iload_n 2, 1) := by decide +kernel
theorem dX7_rhymes_75 : decode cX7_rhymes 75 = .ok (.invokestatic 68, 3) := by decide +kernel
theorem dX7_rhymes_78 : decode cX7_rhymes 78 = .ok (.iaload, 1) := by decide +kernel
theorem dX7_rhymes_79 : decode cX7_rhymes 79 = .ok (.if_icmp .ge 30, 3) := by decide +kernel
theorem dX7_rhymes_82 : decode cX7_rhymes 82 = .ok (.aload_n 0, 1) := by decide +kernel
theorem dX7_rhymes_83 : decode cX7_rhymes 83 = .ok (.getfield 7, 3) := by decide +kernel
theorem dX7_rhymes_86 : decode cX7_rhymes 86 = .ok (.iload 4, 2) := by decide +kernel
theorem dX7_rhymes_88 : decode cX7_rhymes 88 = .ok (.iload_n 3, 1) := by decide +kernel
theorem dX7_rhymes_89 : decode cX7_rhymes 89 = .ok (.isub, 1) := by decide +kernel
theorem dX7_rhymes_90 : decode cX7_rhymes 90 = .ok (.iaload, 1) := by decide +kernel
theorem dX7_rhymes_91 : decode cX7_rhymes 91 = .ok (.aload_n 0, 1) := by decide +kernel
theorem dX7_rhymes_92 : decode cX7_rhymes 92 = .ok (.getfield 7, 3) := by decide +kernel
theorem dX7_rhymes_95 : decode cX7_rhymes 95 = .ok (.iload 5, 2) := by decide +kernel
theorem dX7_rhymes_97 : decode cX7_rhymes 97 = .ok (.iload_n 3, 1) := by decide +kernel
theorem dX7_rhymes_98 : decode cX7_rhymes 98 = .ok (.isub, 1) := by decide +kernel
theorem dX7_rhymes_99 : decode cX7_rhymes 99 = .ok (.iaload, 1) := by decide +kernel
theorem dX7_rhymes_100 : decode cX7_rhymes 100 = .ok (.if_icmp .ne 9, 3) := by decide +kernel
theorem dX7_rhymes_103 : decode cX7_rhymes 103 = .ok (.iinc 3 1, 3) := by decide +kernel
theorem dX7_rhymes_106 : decode cX7_rhymes 106 = .ok (.goto (-50), 3) := by decide +kernel
theorem dX7_rhymes_109 : decode cX7_rhymes 109 = .ok (.iload_n 3, 1) := by decide +kernel
theorem dX7_rhymes_110 : decode cX7_rhymes 110 = .ok (.ireturn, 1) := by decide +kernel
theorem dX7_follows_0 : decode cX7_follows 0 = .ok (.aload_n 0, 1) := by decide +kernel
theorem dX7_follows_1 : decode cX7_follows 1 = .ok (.iload_n 1, 1) := by decide +kernel
theorem dX7_follows_2 : decode cX7_follows 2 = .ok (.invokevirtual 80, 3) := by decide +kernel
theorem dX7_follows_5 : decode cX7_follows 5 = .ok (.ifCond .eq 11, 3) := by decide +kernel
theorem dX7_follows_8 : decode cX7_follows 8 = .ok (.aload_n 0, 1) := by decide +kernel
theorem dX7_follows_9 : decode cX7_follows 9 = .ok (.iload_n 2, 1) := by decide +kernel
theorem dX7_follows_10 : decode cX7_follows 10 = .ok (.invokevirtual 84, 3) := by decide +kernel
theorem dX7_follows_13 : decode cX7_follows 13 = .ok (.ifCond .ne 5, 3) := by decide +kernel
theorem dX7_follows_16 : decode cX7_follows 16 = .ok (.iconst (-1), 1) := by decide +kernel
theorem dX7_follows_17 : decode cX7_follows 17 = .ok (.ireturn, 1) := by decide +kernel
theorem dX7_follows_18 : decode cX7_follows 18 = .ok (.aload_n 0, 1) := by decide +kernel
theorem dX7_follows_19 : decode cX7_follows 19 = .ok (.iload_n 1, 1) := by decide +kernel
theorem dX7_follows_20 : decode cX7_follows 20 = .ok (.aload_n 0, 1) := by decide +kernel
theorem dX7_follows_21 : decode cX7_follows 21 = .ok (.getfield 7, 3) := by decide +kernel
theorem dX7_follows_24 : decode cX7_follows 24 = .ok (.iload_n 2, 1) := by decide +kernel
theorem dX7_follows_25 : decode cX7_follows 25 = .ok (.invokestatic 68, 3) := by decide +kernel
theorem dX7_follows_28 : decode cX7_follows 28 = .ok (.iconst 1, 1) := by decide +kernel
theorem dX7_follows_29 : decode cX7_follows 29 = .ok (.iadd, 1) := by decide +kernel
theorem dX7_follows_30 : decode cX7_follows 30 = .ok (.aload_n 0, 1) := by decide +kernel
theorem dX7_follows_31 : decode cX7_follows 31 = .ok (.getfield 7, 3) := by decide +kernel
theorem dX7_follows_34 : decode cX7_follows 34 = .ok (.iload_n 2, 1) := by decide +kernel
theorem dX7_follows_35 : decode cX7_follows 35 = .ok (.invokestatic 68, 3) := by decide +kernel
theorem dX7_follows_38 : decode cX7_follows 38 = .ok (.iaload, 1) := by decide +kernel
theorem dX7_follows_39 : decode cX7_follows 39 = .ok (.iadd, 1) := by decide +kernel
theorem dX7_follows_40 : decode cX7_follows 40 = .ok (.iaload, 1) := by decide +kernel
theorem dX7_follows_41 : decode cX7_follows 41 = .ok (.invokevirtual 71, 3) := by decide +kernel
theorem dX7_follows_44 : decode cX7_follows 44 = .ok (.istore_n 3, 1) := by decide +kernel
theorem dX7_follows_45 : decode cX7_follows 45 = .ok (.iconst 0, 1) := by decide +kernel
theorem dX7_follows_46 : decode cX7_follows 46 = .ok (.istore 4, 2) := by decide +kernel
theorem dX7_follows_48 : decode cX7_follows 48 = .ok (.iconst 0, 1) := by decide +kernel
theorem dX7_follows_49 : decode cX7_follows 49 = .ok (.istore 5, 2) := by decide +kernel
theorem dX7_follows_51 : decode cX7_follows 51 = .ok (.iload 5, 2) := by decide +kernel
theorem dX7_follows_53 : decode cX7_follows 53 = .ok (.aload_n 0, 1) := by decide +kernel
theorem dX7_follows_54 : decode cX7_follows 54 = .ok (.getfield 7, 3) := by decide +kernel
theorem dX7_follows_57 : decode cX7_follows 57 = .ok (.iconst 5, 1) := by decide +kernel
theorem dX7_follows_58 : decode cX7_follows 58 = .ok (.iaload, 1) := by decide +kernel
theorem dX7_follows_59 : decode cX7_follows 59 = .ok (.if_icmp .ge 42, 3) := by decide +kernel
theorem dX7_follows_62 : decode cX7_follows 62 = .ok (.iload 4, 2) := by decide +kernel
theorem dX7_follows_64 : decode cX7_follows 64 = .ok (.iload_n 3, 1) := by decide +kernel
theorem dX7_follows_65 : decode cX7_follows 65 = .ok (.ifCond .lt 26, 3) := by decide +kernel
theorem dX7_follows_68 : decode cX7_follows 68 = .ok (.aload_n 0, 1) := by decide +kernel
theorem dX7_follows_69 : decode cX7_follows 69 = .ok (.getfield 7, 3) := by decide +kernel
theorem dX7_follows_72 : decode cX7_follows 72 = .ok (.iload 5, 2) := by decide +kernel
theorem dX7_follows_74 : decode cX7_follows 74 = .ok (.invokestatic 68, 3) := by decide +kernel
theorem dX7_follows_77 : decode cX7_follows 77 = .ok (.iconst 2, 1) := by decide +kernel
theorem dX7_follows_78 : decode cX7_follows 78 = .ok (.iadd, 1) := by decide +kernel
theorem dX7_follows_79 : decode cX7_follows 79 = .ok (.iaload, 1) := by decide +kernel
theorem dX7_follows_80 : decode cX7_follows 80 = .ok (.iload_n 3, 1) := by decide +kernel
theorem dX7_follows_81 : decode cX7_follows 81 = .ok (.if_icmp .ne 10, 3) := by decide +kernel
theorem dX7_follows_84 : decode cX7_follows 84 = .ok (.iconst 1, 1) := by decide +kernel
theorem dX7_follows_85 : decode cX7_follows 85 = .ok (.iload 5, 2) := by decide +kernel
theorem dX7_follows_87 : decode cX7_follows 87 = .ok (.ishl, 1) := by decide +kernel
theorem dX7_follows_88 : decode cX7_follows 88 = .ok (.goto 4, 3) := by decide +kernel
theorem dX7_follows_91 : decode cX7_follows 91 = .ok (.iconst 0, 1) := by decide +kernel
theorem dX7_follows_92 : decode cX7_follows 92 = .ok (.ior, 1) := by decide +kernel
theorem dX7_follows_93 : decode cX7_follows 93 = .ok (.istore 4, 2) := by decide +kernel
theorem dX7_follows_95 : decode cX7_follows 95 = .ok (.iinc 5 1, 3) := by decide +kernel
theorem dX7_follows_98 : decode cX7_follows 98 = .ok (.goto (-47), 3) := by decide +kernel
theorem dX7_follows_101 : decode cX7_follows 101 = .ok (.iload 4, 2) := by decide +kernel
theorem dX7_follows_103 : decode cX7_follows 103 = .ok (.ireturn, 1) := by decide +kernel
theorem dX7_ofParrots_0 : decode cX7_ofParrots 0 = .ok (.iconst 0, 1) := by decide +kernel
theorem dX7_ofParrots_1 : decode cX7_ofParrots 1 = .ok (.istore_n 2, 1) := by decide +kernel
theorem dX7_ofParrots_2 : decode cX7_ofParrots 2 = .ok (.iconst 0, 1) := by decide +kernel
theorem dX7_ofParrots_3 : decode cX7_ofParrots 3 = .ok (.istore_n 3, 1) := by decide +kernel
theorem dX7_ofParrots_4 : decode cX7_ofParrots 4 = .ok (.iconst 0, 1) := by decide +kernel
theorem dX7_ofParrots_5 : decode cX7_ofParrots 5 = .ok (.istore 4, 2) := by decide +kernel
theorem dX7_ofParrots_7 : decode cX7_ofParrots 7 = .ok (.iload 4, 2) := by decide +kernel
theorem dX7_ofParrots_9 : decode cX7_ofParrots 9 = .ok (.aload_n 0, 1) := by decide +kernel
theorem dX7_ofParrots_10 : decode cX7_ofParrots 10 = .ok (.getfield 7, 3) := by decide +kernel
theorem dX7_ofParrots_13 : decode cX7_ofParrots 13 = .ok (.bipush 6, 2) := by decide +kernel
theorem dX7_ofParrots_15 : decode cX7_ofParrots 15 = .ok (.iaload, 1) := by decide +kernel
theorem dX7_ofParrots_16 : decode cX7_ofParrots 16 = .ok (.if_icmp .ge 62, 3) := by decide +kernel
theorem dX7_ofParrots_19 : decode cX7_ofParrots 19 = .ok (.iload_n 2, 1) := by decide +kernel
theorem dX7_ofParrots_20 : decode cX7_ofParrots 20 = .ok (.iload_n 1, 1) := by decide +kernel
theorem dX7_ofParrots_21 : decode cX7_ofParrots 21 = .ok (.iconst 5, 1) := by decide +kernel
theorem dX7_ofParrots_22 : decode cX7_ofParrots 22 = .ok (.if_icmp .ne 16, 3) := by decide +kernel
theorem dX7_ofParrots_25 : decode cX7_ofParrots 25 = .ok (.aload_n 0, 1) := by decide +kernel
theorem dX7_ofParrots_26 : decode cX7_ofParrots 26 = .ok (.getfield 7, 3) := by decide +kernel
theorem dX7_ofParrots_29 : decode cX7_ofParrots 29 = .ok (.iload 4, 2) := by decide +kernel
theorem dX7_ofParrots_31 : decode cX7_ofParrots 31 = .ok (.invokestatic 47, 3) := by decide +kernel
theorem dX7_ofParrots_34 : decode cX7_ofParrots 34 = .ok (.iaload, 1) := by decide +kernel
theorem dX7_ofParrots_35 : decode cX7_ofParrots 35 = .ok (.goto 15, 3) := by decide +kernel
theorem dX7_ofParrots_38 : decode cX7_ofParrots 38 = .ok (.aload_n 0, 1) := by decide +kernel
theorem dX7_ofParrots_39 : decode cX7_ofParrots 39 = .ok (.getfield 7, 3) := by decide +kernel
theorem dX7_ofParrots_42 : decode cX7_ofParrots 42 = .ok (.iload 4, 2) := by decide +kernel
theorem dX7_ofParrots_44 : decode cX7_ofParrots 44 = .ok (.invokestatic 47, 3) := by decide +kernel
theorem dX7_ofParrots_47 : decode cX7_ofParrots 47 = .ok (.iconst 4, 1) := by decide +kernel
theorem dX7_ofParrots_48 : decode cX7_ofParrots 48 = .ok (.iadd, 1) := by decide +kernel
theorem dX7_ofParrots_49 : decode cX7_ofParrots 49 = .ok (.iaload, 1) := by decide +kernel
theorem dX7_ofParrots_50 : decode cX7_ofParrots 50 = .ok (.iadd, 1) := by decide +kernel
theorem dX7_ofParrots_51 : decode cX7_ofParrots 51 = .ok (.istore_n 2, 1) := by decide +kernel
theorem dX7_ofParrots_52 : decode cX7_ofParrots 52 = .ok (.iload_n 3, 1) := by decide +kernel
theorem dX7_ofParrots_53 : decode cX7_ofParrots 53 = .ok (.aload_n 0, 1) := by decide +kernel
theorem dX7_ofParrots_54 : decode cX7_ofParrots 54 = .ok (.iload 4, 2) := by decide +kernel
theorem dX7_ofParrots_56 : decode cX7_ofParrots 56 = .ok (.invokevirtual 87, 3) := by decide +kernel
theorem dX7_ofParrots_59 : decode cX7_ofParrots 59 = .ok (.ifCond .eq 10, 3) := by decide +kernel
theorem dX7_ofParrots_62 : decode cX7_ofParrots 62 = .ok (.iconst 1, 1) := by decide +kernel
theorem dX7_ofParrots_63 : decode cX7_ofParrots 63 = .ok (.iload 4, 2) := by decide +kernel
theorem dX7_ofParrots_65 : decode cX7_ofParrots 65 = .ok (.ishl, 1) := by decide +kernel
theorem dX7_ofParrots_66 : decode cX7_ofParrots 66 = .ok (.goto 4, 3) := by decide +kernel
theorem dX7_ofParrots_69 : decode cX7_ofParrots 69 = .ok (.iconst 0, 1) := by decide +kernel
theorem dX7_ofParrots_70 : decode cX7_ofParrots 70 = .ok (.ior, 1) := by decide +kernel
theorem dX7_ofParrots_71 : decode cX7_ofParrots 71 = .ok (.istore_n 3, 1) := by decide +kernel
theorem dX7_ofParrots_72 : decode cX7_ofParrots 72 = .ok (.iinc 4 1, 3) := by decide +kernel
theorem dX7_ofParrots_75 : decode cX7_ofParrots 75 = .ok (.goto (-68), 3) := by decide +kernel
theorem dX7_ofParrots_78 : decode cX7_ofParrots 78 = .ok (.iload_n 1, 1) := by decide +kernel
theorem dX7_ofParrots_79 : decode cX7_ofParrots 79 = .ok (.bipush 7, 2) := by decide +kernel
theorem dX7_ofParrots_81 : decode cX7_ofParrots 81 = .ok (.if_icmp .ne 7, 3) := by decide +kernel
theorem dX7_ofParrots_84 : decode cX7_ofParrots 84 = .ok (.iload_n 3, 1) := by decide +kernel
theorem dX7_ofParrots_85 : decode cX7_ofParrots 85 = .ok (.goto 4, 3) := by decide +kernel
theorem dX7_ofParrots_88 : decode cX7_ofParrots 88 = .ok (.iload_n 2, 1) := by decide +kernel
theorem dX7_ofParrots_89 : decode cX7_ofParrots 89 = .ok (.ireturn, 1) := by decide +kernel
theorem dX7_count_0 : decode cX7_count 0 = .ok (.iload_n 1, 1) := by decide +kernel
theorem dX7_count_1 : decode cX7_count 1 = .ok (.tableswitch 106 0 13 #[71, 71, 71, 71, 71, 80, 80, 80, 86, 86, 86, 86, 96, 101], 71) := by decide +kernel
theorem dX7_count_72 : decode cX7_count 72 = .ok (.aload_n 0, 1) := by decide +kernel
theorem dX7_count_73 : decode cX7_count 73 = .ok (.getfield 7, 3) := by decide +kernel
theorem dX7_count_76 : decode cX7_count 76 = .ok (.iconst 4, 1) := by decide +kernel
theorem dX7_count_77 : decode cX7_count 77 = .ok (.iload_n 1, 1) := by decide +kernel
theorem dX7_count_78 : decode cX7_count 78 = .ok (.iadd, 1) := by decide +kernel
theorem dX7_count_79 : decode cX7_count 79 = .ok (.iaload, 1) := by decide +kernel
theorem dX7_count_80 : decode cX7_count 80 = .ok (.ireturn, 1) := by decide +kernel
theorem dX7_count_81 : decode cX7_count 81 = .ok (.aload_n 0, 1) := by decide +kernel
theorem dX7_count_82 : decode cX7_count 82 = .ok (.iload_n 1, 1) := by decide +kernel
theorem dX7_count_83 : decode cX7_count 83 = .ok (.invokevirtual 137, 3) := by decide +kernel
theorem dX7_count_86 : decode cX7_count 86 = .ok (.ireturn, 1) := by decide +kernel
theorem dX7_count_87 : decode cX7_count 87 = .ok (.aload_n 0, 1) := by decide +kernel
theorem dX7_count_88 : decode cX7_count 88 = .ok (.getfield 7, 3) := by decide +kernel
theorem dX7_count_91 : decode cX7_count 91 = .ok (.iload_n 1, 1) := by decide +kernel
theorem dX7_count_92 : decode cX7_count 92 = .ok (.bipush 8, 2) := by decide +kernel
theorem dX7_count_94 : decode cX7_count 94 = .ok (.isub, 1) := by decide +kernel
theorem dX7_count_95 : decode cX7_count 95 = .ok (.iaload, 1) := by decide +kernel
theorem dX7_count_96 : decode cX7_count 96 = .ok (.ireturn, 1) := by decide +kernel
theorem dX7_count_97 : decode cX7_count 97 = .ok (.aload_n 0, 1) := by decide +kernel
theorem dX7_count_98 : decode cX7_count 98 = .ok (.getfield 140, 3) := by decide +kernel
theorem dX7_count_101 : decode cX7_count 101 = .ok (.ireturn, 1) := by decide +kernel
theorem dX7_count_102 : decode cX7_count 102 = .ok (.aload_n 0, 1) := by decide +kernel
theorem dX7_count_103 : decode cX7_count 103 = .ok (.getfield 43, 3) := by decide +kernel
theorem dX7_count_106 : decode cX7_count 106 = .ok (.ireturn, 1) := by decide +kernel
theorem dX7_count_107 : decode cX7_count 107 = .ok (.bipush (-2), 2) := by decide +kernel
theorem dX7_count_109 : decode cX7_count 109 = .ok (.ireturn, 1) := by decide +kernel
theorem dX7_hearsAll_0 : decode cX7_hearsAll 0 = .ok (.iconst 0, 1) := by decide +kernel
theorem dX7_hearsAll_1 : decode cX7_hearsAll 1 = .ok (.istore_n 3, 1) := by decide +kernel
theorem dX7_hearsAll_2 : decode cX7_hearsAll 2 = .ok (.iload_n 3, 1) := by decide +kernel
theorem dX7_hearsAll_3 : decode cX7_hearsAll 3 = .ok (.aload_n 0, 1) := by decide +kernel
theorem dX7_hearsAll_4 : decode cX7_hearsAll 4 = .ok (.getfield 7, 3) := by decide +kernel
theorem dX7_hearsAll_7 : decode cX7_hearsAll 7 = .ok (.iload_n 2, 1) := by decide +kernel
theorem dX7_hearsAll_8 : decode cX7_hearsAll 8 = .ok (.invokestatic 68, 3) := by decide +kernel
theorem dX7_hearsAll_11 : decode cX7_hearsAll 11 = .ok (.iaload, 1) := by decide +kernel
theorem dX7_hearsAll_12 : decode cX7_hearsAll 12 = .ok (.if_icmp .ge 27, 3) := by decide +kernel
theorem dX7_hearsAll_15 : decode cX7_hearsAll 15 = .ok (.aload_n 0, 1) := by decide +kernel
theorem dX7_hearsAll_16 : decode cX7_hearsAll 16 = .ok (.iload_n 1, 1) := by decide +kernel
theorem dX7_hearsAll_17 : decode cX7_hearsAll 17 = .ok (.aload_n 0, 1) := by decide +kernel
theorem dX7_hearsAll_18 : decode cX7_hearsAll 18 = .ok (.getfield 7, 3) := by decide +kernel
theorem dX7_hearsAll_21 : decode cX7_hearsAll 21 = .ok (.iload_n 2, 1) := by decide +kernel
theorem dX7_hearsAll_22 : decode cX7_hearsAll 22 = .ok (.invokestatic 68, 3) := by decide +kernel
theorem dX7_hearsAll_25 : decode cX7_hearsAll 25 = .ok (.iconst 2, 1) := by decide +kernel
theorem dX7_hearsAll_26 : decode cX7_hearsAll 26 = .ok (.iadd, 1) := by decide +kernel
theorem dX7_hearsAll_27 : decode cX7_hearsAll 27 = .ok (.iload_n 3, 1) := by decide +kernel
theorem dX7_hearsAll_28 : decode cX7_hearsAll 28 = .ok (.iadd, 1) := by decide +kernel
theorem dX7_hearsAll_29 : decode cX7_hearsAll 29 = .ok (.iaload, 1) := by decide +kernel
theorem dX7_hearsAll_30 : decode cX7_hearsAll 30 = .ok (.invokevirtual 90, 3) := by decide +kernel
theorem dX7_hearsAll_33 : decode cX7_hearsAll 33 = .ok (.iinc 3 1, 3) := by decide +kernel
theorem dX7_hearsAll_36 : decode cX7_hearsAll 36 = .ok (.goto (-34), 3) := by decide +kernel
theorem dX7_hearsAll_39 : decode cX7_hearsAll 39 = .ok (.return_, 1) := by decide +kernel
theorem dX7_lessonsFor_0 : decode cX7_lessonsFor 0 = .ok (.aload_n 0, 1) := by decide +kernel
theorem dX7_lessonsFor_1 : decode cX7_lessonsFor 1 = .ok (.iload_n 1, 1) := by decide +kernel
theorem dX7_lessonsFor_2 : decode cX7_lessonsFor 2 = .ok (.invokevirtual 80, 3) := by decide +kernel
theorem dX7_lessonsFor_5 : decode cX7_lessonsFor 5 = .ok (.ifCond .eq 11, 3) := by decide +kernel
theorem dX7_lessonsFor_8 : decode cX7_lessonsFor 8 = .ok (.aload_n 0, 1) := by decide +kernel
theorem dX7_lessonsFor_9 : decode cX7_lessonsFor 9 = .ok (.iload_n 2, 1) := by decide +kernel
theorem dX7_lessonsFor_10 : decode cX7_lessonsFor 10 = .ok (.invokevirtual 84, 3) := by decide +kernel
theorem dX7_lessonsFor_13 : decode cX7_lessonsFor 13 = .ok (.ifCond .ne 5, 3) := by decide +kernel
theorem dX7_lessonsFor_16 : decode cX7_lessonsFor 16 = .ok (.iconst (-1), 1) := by decide +kernel
theorem dX7_lessonsFor_17 : decode cX7_lessonsFor 17 = .ok (.ireturn, 1) := by decide +kernel
theorem dX7_lessonsFor_18 : decode cX7_lessonsFor 18 = .ok (.aload_n 0, 1) := by decide +kernel
theorem dX7_lessonsFor_19 : decode cX7_lessonsFor 19 = .ok (.invokevirtual 143, 3) := by decide +kernel
theorem dX7_lessonsFor_22 : decode cX7_lessonsFor 22 = .ok (.iconst 0, 1) := by decide +kernel
theorem dX7_lessonsFor_23 : decode cX7_lessonsFor 23 = .ok (.istore_n 3, 1) := by decide +kernel
theorem dX7_lessonsFor_24 : decode cX7_lessonsFor 24 = .ok (.iload_n 3, 1) := by decide +kernel
theorem dX7_lessonsFor_25 : decode cX7_lessonsFor 25 = .ok (.bipush 30, 2) := by decide +kernel
theorem dX7_lessonsFor_27 : decode cX7_lessonsFor 27 = .ok (.if_icmp .ge 38, 3) := by decide +kernel
theorem dX7_lessonsFor_30 : decode cX7_lessonsFor 30 = .ok (.aload_n 0, 1) := by decide +kernel
theorem dX7_lessonsFor_31 : decode cX7_lessonsFor 31 = .ok (.iload_n 1, 1) := by decide +kernel
theorem dX7_lessonsFor_32 : decode cX7_lessonsFor 32 = .ok (.iload_n 2, 1) := by decide +kernel
theorem dX7_lessonsFor_33 : decode cX7_lessonsFor 33 = .ok (.invokevirtual 77, 3) := by decide +kernel
theorem dX7_lessonsFor_36 : decode cX7_lessonsFor 36 = .ok (.bipush 100, 2) := by decide +kernel
theorem dX7_lessonsFor_38 : decode cX7_lessonsFor 38 = .ok (.if_icmp .ge 27, 3) := by decide +kernel
theorem dX7_lessonsFor_41 : decode cX7_lessonsFor 41 = .ok (.aload_n 0, 1) := by decide +kernel
theorem dX7_lessonsFor_42 : decode cX7_lessonsFor 42 = .ok (.getfield 7, 3) := by decide +kernel
theorem dX7_lessonsFor_45 : decode cX7_lessonsFor 45 = .ok (.iload_n 1, 1) := by decide +kernel
theorem dX7_lessonsFor_46 : decode cX7_lessonsFor 46 = .ok (.invokestatic 47, 3) := by decide +kernel
theorem dX7_lessonsFor_49 : decode cX7_lessonsFor 49 = .ok (.iconst 1, 1) := by decide +kernel
theorem dX7_lessonsFor_50 : decode cX7_lessonsFor 50 = .ok (.iadd, 1) := by decide +kernel
theorem dX7_lessonsFor_51 : decode cX7_lessonsFor 51 = .ok (.iconst (-1), 1) := by decide +kernel
theorem dX7_lessonsFor_52 : decode cX7_lessonsFor 52 = .ok (.iastore, 1) := by decide +kernel
theorem dX7_lessonsFor_53 : decode cX7_lessonsFor 53 = .ok (.aload_n 0, 1) := by decide +kernel
theorem dX7_lessonsFor_54 : decode cX7_lessonsFor 54 = .ok (.iload_n 1, 1) := by decide +kernel
theorem dX7_lessonsFor_55 : decode cX7_lessonsFor 55 = .ok (.iload_n 2, 1) := by decide +kernel
theorem dX7_lessonsFor_56 : decode cX7_lessonsFor 56 = .ok (.invokevirtual 146, 3) := by decide +kernel
theorem dX7_lessonsFor_59 : decode cX7_lessonsFor 59 = .ok (.iinc 3 1, 3) := by decide +kernel
theorem dX7_lessonsFor_62 : decode cX7_lessonsFor 62 = .ok (.goto (-38), 3) := by decide +kernel
theorem dX7_lessonsFor_65 : decode cX7_lessonsFor 65 = .ok (.aload_n 0, 1) := by decide +kernel
theorem dX7_lessonsFor_66 : decode cX7_lessonsFor 66 = .ok (.iload_n 1, 1) := by decide +kernel
theorem dX7_lessonsFor_67 : decode cX7_lessonsFor 67 = .ok (.iload_n 2, 1) := by decide +kernel
theorem dX7_lessonsFor_68 : decode cX7_lessonsFor 68 = .ok (.invokevirtual 77, 3) := by decide +kernel
