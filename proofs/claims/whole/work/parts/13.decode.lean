theorem dX7_lessonsFor_71 : decode cX7_lessonsFor 71 = .ok (.bipush 100, 2) := by decide +kernel
theorem dX7_lessonsFor_73 : decode cX7_lessonsFor 73 = .ok (.if_icmp .ne 7, 3) := by decide +kernel
theorem dX7_lessonsFor_76 : decode cX7_lessonsFor 76 = .ok (.iconst 1, 1) := by decide +kernel
theorem dX7_lessonsFor_77 : decode cX7_lessonsFor 77 = .ok (.goto 4, 3) := by decide +kernel
theorem dX7_lessonsFor_80 : decode cX7_lessonsFor 80 = .ok (.iconst 0, 1) := by decide +kernel
theorem dX7_lessonsFor_81 : decode cX7_lessonsFor 81 = .ok (.istore 4, 2) := by decide +kernel
theorem dX7_lessonsFor_83 : decode cX7_lessonsFor 83 = .ok (.aload_n 0, 1) := by decide +kernel
theorem dX7_lessonsFor_84 : decode cX7_lessonsFor 84 = .ok (.invokevirtual 149, 3) := by decide +kernel
theorem dX7_lessonsFor_87 : decode cX7_lessonsFor 87 = .ok (.iload 4, 2) := by decide +kernel
theorem dX7_lessonsFor_89 : decode cX7_lessonsFor 89 = .ok (.ifCond .eq 7, 3) := by decide +kernel
theorem dX7_lessonsFor_92 : decode cX7_lessonsFor 92 = .ok (.iload_n 3, 1) := by decide +kernel
theorem dX7_lessonsFor_93 : decode cX7_lessonsFor 93 = .ok (.goto 5, 3) := by decide +kernel
theorem dX7_lessonsFor_96 : decode cX7_lessonsFor 96 = .ok (.bipush (-6), 2) := by decide +kernel
theorem dX7_lessonsFor_98 : decode cX7_lessonsFor 98 = .ok (.ireturn, 1) := by decide +kernel
theorem dX7_bestLesson_0 : decode cX7_bestLesson 0 = .ok (.aload_n 0, 1) := by decide +kernel
theorem dX7_bestLesson_1 : decode cX7_bestLesson 1 = .ok (.iload_n 1, 1) := by decide +kernel
theorem dX7_bestLesson_2 : decode cX7_bestLesson 2 = .ok (.invokevirtual 80, 3) := by decide +kernel
theorem dX7_bestLesson_5 : decode cX7_bestLesson 5 = .ok (.ifCond .ne 5, 3) := by decide +kernel
theorem dX7_bestLesson_8 : decode cX7_bestLesson 8 = .ok (.iconst (-1), 1) := by decide +kernel
theorem dX7_bestLesson_9 : decode cX7_bestLesson 9 = .ok (.ireturn, 1) := by decide +kernel
theorem dX7_bestLesson_10 : decode cX7_bestLesson 10 = .ok (.iload_n 2, 1) := by decide +kernel
theorem dX7_bestLesson_11 : decode cX7_bestLesson 11 = .ok (.iconst 0, 1) := by decide +kernel
theorem dX7_bestLesson_12 : decode cX7_bestLesson 12 = .ok (.iconst 1, 1) := by decide +kernel
theorem dX7_bestLesson_13 : decode cX7_bestLesson 13 = .ok (.invokestatic 39, 3) := by decide +kernel
theorem dX7_bestLesson_16 : decode cX7_bestLesson 16 = .ok (.ifCond .ne 6, 3) := by decide +kernel
theorem dX7_bestLesson_19 : decode cX7_bestLesson 19 = .ok (.bipush (-2), 2) := by decide +kernel
theorem dX7_bestLesson_21 : decode cX7_bestLesson 21 = .ok (.ireturn, 1) := by decide +kernel
theorem dX7_bestLesson_22 : decode cX7_bestLesson 22 = .ok (.aload_n 0, 1) := by decide +kernel
theorem dX7_bestLesson_23 : decode cX7_bestLesson 23 = .ok (.iload_n 1, 1) := by decide +kernel
theorem dX7_bestLesson_24 : decode cX7_bestLesson 24 = .ok (.invokevirtual 152, 3) := by decide +kernel
theorem dX7_bestLesson_27 : decode cX7_bestLesson 27 = .ok (.istore_n 3, 1) := by decide +kernel
theorem dX7_bestLesson_28 : decode cX7_bestLesson 28 = .ok (.bipush (-6), 2) := by decide +kernel
theorem dX7_bestLesson_30 : decode cX7_bestLesson 30 = .ok (.istore 4, 2) := by decide +kernel
theorem dX7_bestLesson_32 : decode cX7_bestLesson 32 = .ok (.iconst 0, 1) := by decide +kernel
theorem dX7_bestLesson_33 : decode cX7_bestLesson 33 = .ok (.istore 5, 2) := by decide +kernel
theorem dX7_bestLesson_35 : decode cX7_bestLesson 35 = .ok (.iload 5, 2) := by decide +kernel
theorem dX7_bestLesson_37 : decode cX7_bestLesson 37 = .ok (.aload_n 0, 1) := by decide +kernel
theorem dX7_bestLesson_38 : decode cX7_bestLesson 38 = .ok (.getfield 7, 3) := by decide +kernel
theorem dX7_bestLesson_41 : decode cX7_bestLesson 41 = .ok (.iconst 5, 1) := by decide +kernel
theorem dX7_bestLesson_42 : decode cX7_bestLesson 42 = .ok (.iaload, 1) := by decide +kernel
theorem dX7_bestLesson_43 : decode cX7_bestLesson 43 = .ok (.if_icmp .ge 59, 3) := by decide +kernel
theorem dX7_bestLesson_46 : decode cX7_bestLesson 46 = .ok (.aload_n 0, 1) := by decide +kernel
theorem dX7_bestLesson_47 : decode cX7_bestLesson 47 = .ok (.invokevirtual 143, 3) := by decide +kernel
theorem dX7_bestLesson_50 : decode cX7_bestLesson 50 = .ok (.aload_n 0, 1) := by decide +kernel
theorem dX7_bestLesson_51 : decode cX7_bestLesson 51 = .ok (.iload_n 1, 1) := by decide +kernel
theorem dX7_bestLesson_52 : decode cX7_bestLesson 52 = .ok (.iload 5, 2) := by decide +kernel
theorem dX7_bestLesson_54 : decode cX7_bestLesson 54 = .ok (.invokevirtual 146, 3) := by decide +kernel
theorem dX7_bestLesson_57 : decode cX7_bestLesson 57 = .ok (.aload_n 0, 1) := by decide +kernel
theorem dX7_bestLesson_58 : decode cX7_bestLesson 58 = .ok (.iload_n 1, 1) := by decide +kernel
theorem dX7_bestLesson_59 : decode cX7_bestLesson 59 = .ok (.invokevirtual 152, 3) := by decide +kernel
theorem dX7_bestLesson_62 : decode cX7_bestLesson 62 = .ok (.istore 6, 2) := by decide +kernel
theorem dX7_bestLesson_64 : decode cX7_bestLesson 64 = .ok (.aload_n 0, 1) := by decide +kernel
theorem dX7_bestLesson_65 : decode cX7_bestLesson 65 = .ok (.invokevirtual 149, 3) := by decide +kernel
theorem dX7_bestLesson_68 : decode cX7_bestLesson 68 = .ok (.iload 6, 2) := by decide +kernel
theorem dX7_bestLesson_70 : decode cX7_bestLesson 70 = .ok (.iload_n 3, 1) := by decide +kernel
theorem dX7_bestLesson_71 : decode cX7_bestLesson 71 = .ok (.if_icmp .le 8, 3) := by decide +kernel
theorem dX7_bestLesson_74 : decode cX7_bestLesson 74 = .ok (.iload 5, 2) := by decide +kernel
theorem dX7_bestLesson_76 : decode cX7_bestLesson 76 = .ok (.goto 5, 3) := by decide +kernel
theorem dX7_bestLesson_79 : decode cX7_bestLesson 79 = .ok (.iload 4, 2) := by decide +kernel
theorem dX7_bestLesson_81 : decode cX7_bestLesson 81 = .ok (.istore 4, 2) := by decide +kernel
theorem dX7_bestLesson_83 : decode cX7_bestLesson 83 = .ok (.iload 6, 2) := by decide +kernel
theorem dX7_bestLesson_85 : decode cX7_bestLesson 85 = .ok (.iload_n 3, 1) := by decide +kernel
theorem dX7_bestLesson_86 : decode cX7_bestLesson 86 = .ok (.if_icmp .le 8, 3) := by decide +kernel
theorem dX7_bestLesson_89 : decode cX7_bestLesson 89 = .ok (.iload 6, 2) := by decide +kernel
theorem dX7_bestLesson_91 : decode cX7_bestLesson 91 = .ok (.goto 4, 3) := by decide +kernel
theorem dX7_bestLesson_94 : decode cX7_bestLesson 94 = .ok (.iload_n 3, 1) := by decide +kernel
theorem dX7_bestLesson_95 : decode cX7_bestLesson 95 = .ok (.istore_n 3, 1) := by decide +kernel
theorem dX7_bestLesson_96 : decode cX7_bestLesson 96 = .ok (.iinc 5 1, 3) := by decide +kernel
theorem dX7_bestLesson_99 : decode cX7_bestLesson 99 = .ok (.goto (-64), 3) := by decide +kernel
theorem dX7_bestLesson_102 : decode cX7_bestLesson 102 = .ok (.iload 4, 2) := by decide +kernel
theorem dX7_bestLesson_104 : decode cX7_bestLesson 104 = .ok (.bipush (-6), 2) := by decide +kernel
theorem dX7_bestLesson_106 : decode cX7_bestLesson 106 = .ok (.if_icmp .eq 7, 3) := by decide +kernel
theorem dX7_bestLesson_109 : decode cX7_bestLesson 109 = .ok (.iload_n 2, 1) := by decide +kernel
theorem dX7_bestLesson_110 : decode cX7_bestLesson 110 = .ok (.ifCond .ne 8, 3) := by decide +kernel
theorem dX7_bestLesson_113 : decode cX7_bestLesson 113 = .ok (.iload 4, 2) := by decide +kernel
theorem dX7_bestLesson_115 : decode cX7_bestLesson 115 = .ok (.goto 4, 3) := by decide +kernel
theorem dX7_bestLesson_118 : decode cX7_bestLesson 118 = .ok (.iload_n 3, 1) := by decide +kernel
theorem dX7_bestLesson_119 : decode cX7_bestLesson 119 = .ok (.ireturn, 1) := by decide +kernel
theorem dX7_keeps_0 : decode cX7_keeps 0 = .ok (.aload_n 0, 1) := by decide +kernel
theorem dX7_keeps_1 : decode cX7_keeps 1 = .ok (.iload_n 1, 1) := by decide +kernel
theorem dX7_keeps_2 : decode cX7_keeps 2 = .ok (.invokevirtual 80, 3) := by decide +kernel
theorem dX7_keeps_5 : decode cX7_keeps 5 = .ok (.ifCond .eq 11, 3) := by decide +kernel
theorem dX7_keeps_8 : decode cX7_keeps 8 = .ok (.aload_n 0, 1) := by decide +kernel
theorem dX7_keeps_9 : decode cX7_keeps 9 = .ok (.iload_n 2, 1) := by decide +kernel
theorem dX7_keeps_10 : decode cX7_keeps 10 = .ok (.invokevirtual 84, 3) := by decide +kernel
theorem dX7_keeps_13 : decode cX7_keeps 13 = .ok (.ifCond .ne 5, 3) := by decide +kernel
theorem dX7_keeps_16 : decode cX7_keeps 16 = .ok (.iconst (-1), 1) := by decide +kernel
theorem dX7_keeps_17 : decode cX7_keeps 17 = .ok (.ireturn, 1) := by decide +kernel
theorem dX7_keeps_18 : decode cX7_keeps 18 = .ok (.aload_n 0, 1) := by decide +kernel
theorem dX7_keeps_19 : decode cX7_keeps 19 = .ok (.invokevirtual 143, 3) := by decide +kernel
theorem dX7_keeps_22 : decode cX7_keeps 22 = .ok (.iconst 0, 1) := by decide +kernel
theorem dX7_keeps_23 : decode cX7_keeps 23 = .ok (.istore_n 3, 1) := by decide +kernel
theorem dX7_keeps_24 : decode cX7_keeps 24 = .ok (.iload_n 3, 1) := by decide +kernel
theorem dX7_keeps_25 : decode cX7_keeps 25 = .ok (.bipush 30, 2) := by decide +kernel
theorem dX7_keeps_27 : decode cX7_keeps 27 = .ok (.if_icmp .ge 26, 3) := by decide +kernel
theorem dX7_keeps_30 : decode cX7_keeps 30 = .ok (.aload_n 0, 1) := by decide +kernel
theorem dX7_keeps_31 : decode cX7_keeps 31 = .ok (.iload_n 1, 1) := by decide +kernel
theorem dX7_keeps_32 : decode cX7_keeps 32 = .ok (.iload_n 2, 1) := by decide +kernel
theorem dX7_keeps_33 : decode cX7_keeps 33 = .ok (.invokevirtual 77, 3) := by decide +kernel
theorem dX7_keeps_36 : decode cX7_keeps 36 = .ok (.bipush 100, 2) := by decide +kernel
theorem dX7_keeps_38 : decode cX7_keeps 38 = .ok (.if_icmp .ne 15, 3) := by decide +kernel
theorem dX7_keeps_41 : decode cX7_keeps 41 = .ok (.aload_n 0, 1) := by decide +kernel
theorem dX7_keeps_42 : decode cX7_keeps 42 = .ok (.invokevirtual 96, 3) := by decide +kernel
theorem dX7_keeps_45 : decode cX7_keeps 45 = .ok (.istore 4, 2) := by decide +kernel
theorem dX7_keeps_47 : decode cX7_keeps 47 = .ok (.iinc 3 1, 3) := by decide +kernel
theorem dX7_keeps_50 : decode cX7_keeps 50 = .ok (.goto (-26), 3) := by decide +kernel
theorem dX7_keeps_53 : decode cX7_keeps 53 = .ok (.aload_n 0, 1) := by decide +kernel
theorem dX7_keeps_54 : decode cX7_keeps 54 = .ok (.iload_n 1, 1) := by decide +kernel
theorem dX7_keeps_55 : decode cX7_keeps 55 = .ok (.iload_n 2, 1) := by decide +kernel
theorem dX7_keeps_56 : decode cX7_keeps 56 = .ok (.invokevirtual 77, 3) := by decide +kernel
theorem dX7_keeps_59 : decode cX7_keeps 59 = .ok (.bipush 100, 2) := by decide +kernel
theorem dX7_keeps_61 : decode cX7_keeps 61 = .ok (.if_icmp .ge 7, 3) := by decide +kernel
theorem dX7_keeps_64 : decode cX7_keeps 64 = .ok (.iconst 1, 1) := by decide +kernel
theorem dX7_keeps_65 : decode cX7_keeps 65 = .ok (.goto 4, 3) := by decide +kernel
theorem dX7_keeps_68 : decode cX7_keeps 68 = .ok (.iconst 0, 1) := by decide +kernel
theorem dX7_keeps_69 : decode cX7_keeps 69 = .ok (.istore 4, 2) := by decide +kernel
theorem dX7_keeps_71 : decode cX7_keeps 71 = .ok (.aload_n 0, 1) := by decide +kernel
theorem dX7_keeps_72 : decode cX7_keeps 72 = .ok (.invokevirtual 149, 3) := by decide +kernel
theorem dX7_keeps_75 : decode cX7_keeps 75 = .ok (.iload 4, 2) := by decide +kernel
theorem dX7_keeps_77 : decode cX7_keeps 77 = .ok (.ifCond .eq 7, 3) := by decide +kernel
theorem dX7_keeps_80 : decode cX7_keeps 80 = .ok (.iload_n 3, 1) := by decide +kernel
theorem dX7_keeps_81 : decode cX7_keeps 81 = .ok (.goto 5, 3) := by decide +kernel
theorem dX7_keeps_84 : decode cX7_keeps 84 = .ok (.bipush (-6), 2) := by decide +kernel
theorem dX7_keeps_86 : decode cX7_keeps 86 = .ok (.ireturn, 1) := by decide +kernel
theorem dX7_isSign_0 : decode cX7_isSign 0 = .ok (.aload_n 0, 1) := by decide +kernel
theorem dX7_isSign_1 : decode cX7_isSign 1 = .ok (.getfield 155, 3) := by decide +kernel
theorem dX7_isSign_4 : decode cX7_isSign 4 = .ok (.aload_n 0, 1) := by decide +kernel
theorem dX7_isSign_5 : decode cX7_isSign 5 = .ok (.getfield 140, 3) := by decide +kernel
theorem dX7_isSign_8 : decode cX7_isSign 8 = .ok (.if_icmp .ge 33, 3) := by decide +kernel
theorem dX7_isSign_11 : decode cX7_isSign 11 = .ok (.aload_n 0, 1) := by decide +kernel
theorem dX7_isSign_12 : decode cX7_isSign 12 = .ok (.getfield 35, 3) := by decide +kernel
theorem dX7_isSign_15 : decode cX7_isSign 15 = .ok (.aload_n 0, 1) := by decide +kernel
theorem dX7_isSign_16 : decode cX7_isSign 16 = .ok (.getfield 155, 3) := by decide +kernel
theorem dX7_isSign_19 : decode cX7_isSign 19 = .ok (.caload, 1) := by decide +kernel
theorem dX7_isSign_20 : decode cX7_isSign 20 = .ok (.iload_n 1, 1) := by decide +kernel
theorem dX7_isSign_21 : decode cX7_isSign 21 = .ok (.if_icmp .lt 20, 3) := by decide +kernel
theorem dX7_isSign_24 : decode cX7_isSign 24 = .ok (.aload_n 0, 1) := by decide +kernel
theorem dX7_isSign_25 : decode cX7_isSign 25 = .ok (.getfield 35, 3) := by decide +kernel
theorem dX7_isSign_28 : decode cX7_isSign 28 = .ok (.aload_n 0, 1) := by decide +kernel
theorem dX7_isSign_29 : decode cX7_isSign 29 = .ok (.getfield 155, 3) := by decide +kernel
theorem dX7_isSign_32 : decode cX7_isSign 32 = .ok (.caload, 1) := by decide +kernel
theorem dX7_isSign_33 : decode cX7_isSign 33 = .ok (.iload_n 2, 1) := by decide +kernel
theorem dX7_isSign_34 : decode cX7_isSign 34 = .ok (.if_icmp .gt 7, 3) := by decide +kernel
theorem dX7_isSign_37 : decode cX7_isSign 37 = .ok (.iconst 1, 1) := by decide +kernel
theorem dX7_isSign_38 : decode cX7_isSign 38 = .ok (.goto 4, 3) := by decide +kernel
theorem dX7_isSign_41 : decode cX7_isSign 41 = .ok (.iconst 0, 1) := by decide +kernel
theorem dX7_isSign_42 : decode cX7_isSign 42 = .ok (.ireturn, 1) := by decide +kernel
theorem dX7_accepts_0 : decode cX7_accepts 0 = .ok (.aload_n 0, 1) := by decide +kernel
theorem dX7_accepts_1 : decode cX7_accepts 1 = .ok (.iload_n 1, 1) := by decide +kernel
theorem dX7_accepts_2 : decode cX7_accepts 2 = .ok (.iload_n 1, 1) := by decide +kernel
theorem dX7_accepts_3 : decode cX7_accepts 3 = .ok (.invokevirtual 158, 3) := by decide +kernel
theorem dX7_accepts_6 : decode cX7_accepts 6 = .ok (.istore_n 2, 1) := by decide +kernel
theorem dX7_accepts_7 : decode cX7_accepts 7 = .ok (.aload_n 0, 1) := by decide +kernel
theorem dX7_accepts_8 : decode cX7_accepts 8 = .ok (.dup, 1) := by decide +kernel
theorem dX7_accepts_9 : decode cX7_accepts 9 = .ok (.getfield 155, 3) := by decide +kernel
theorem dX7_accepts_12 : decode cX7_accepts 12 = .ok (.iload_n 2, 1) := by decide +kernel
theorem dX7_accepts_13 : decode cX7_accepts 13 = .ok (.ifCond .eq 7, 3) := by decide +kernel
theorem dX7_accepts_16 : decode cX7_accepts 16 = .ok (.iconst 1, 1) := by decide +kernel
theorem dX7_accepts_17 : decode cX7_accepts 17 = .ok (.goto 4, 3) := by decide +kernel
theorem dX7_accepts_20 : decode cX7_accepts 20 = .ok (.iconst 0, 1) := by decide +kernel
theorem dX7_accepts_21 : decode cX7_accepts 21 = .ok (.iadd, 1) := by decide +kernel
theorem dX7_accepts_22 : decode cX7_accepts 22 = .ok (.putfield 155, 3) := by decide +kernel
theorem dX7_accepts_25 : decode cX7_accepts 25 = .ok (.iload_n 2, 1) := by decide +kernel
theorem dX7_accepts_26 : decode cX7_accepts 26 = .ok (.ireturn, 1) := by decide +kernel
theorem dX7_digit_0 : decode cX7_digit 0 = .ok (.aload_n 0, 1) := by decide +kernel
theorem dX7_digit_1 : decode cX7_digit 1 = .ok (.bipush 48, 2) := by decide +kernel
theorem dX7_digit_3 : decode cX7_digit 3 = .ok (.bipush 57, 2) := by decide +kernel
theorem dX7_digit_5 : decode cX7_digit 5 = .ok (.invokevirtual 158, 3) := by decide +kernel
theorem dX7_digit_8 : decode cX7_digit 8 = .ok (.istore_n 2, 1) := by decide +kernel
theorem dX7_digit_9 : decode cX7_digit 9 = .ok (.aload_n 0, 1) := by decide +kernel
theorem dX7_digit_10 : decode cX7_digit 10 = .ok (.getfield 32, 3) := by decide +kernel
theorem dX7_digit_13 : decode cX7_digit 13 = .ok (.iconst 4, 1) := by decide +kernel
theorem dX7_digit_14 : decode cX7_digit 14 = .ok (.aload_n 0, 1) := by decide +kernel
theorem dX7_digit_15 : decode cX7_digit 15 = .ok (.getfield 162, 3) := by decide +kernel
theorem dX7_digit_18 : decode cX7_digit 18 = .ok (.imul, 1) := by decide +kernel
theorem dX7_digit_19 : decode cX7_digit 19 = .ok (.iload_n 1, 1) := by decide +kernel
theorem dX7_digit_20 : decode cX7_digit 20 = .ok (.iadd, 1) := by decide +kernel
theorem dX7_digit_21 : decode cX7_digit 21 = .ok (.iload_n 2, 1) := by decide +kernel
theorem dX7_digit_22 : decode cX7_digit 22 = .ok (.ifCond .eq 18, 3) := by decide +kernel
theorem dX7_digit_25 : decode cX7_digit 25 = .ok (.aload_n 0, 1) := by decide +kernel
theorem dX7_digit_26 : decode cX7_digit 26 = .ok (.getfield 35, 3) := by decide +kernel
theorem dX7_digit_29 : decode cX7_digit 29 = .ok (.aload_n 0, 1) := by decide +kernel
theorem dX7_digit_30 : decode cX7_digit 30 = .ok (.getfield 155, 3) := by decide +kernel
theorem dX7_digit_33 : decode cX7_digit 33 = .ok (.caload, 1) := by decide +kernel
theorem dX7_digit_34 : decode cX7_digit 34 = .ok (.bipush 48, 2) := by decide +kernel
theorem dX7_digit_36 : decode cX7_digit 36 = .ok (.isub, 1) := by decide +kernel
theorem dX7_digit_37 : decode cX7_digit 37 = .ok (.goto 4, 3) := by decide +kernel
theorem dX7_digit_40 : decode cX7_digit 40 = .ok (.iconst 0, 1) := by decide +kernel
theorem dX7_digit_41 : decode cX7_digit 41 = .ok (.iastore, 1) := by decide +kernel
theorem dX7_digit_42 : decode cX7_digit 42 = .ok (.aload_n 0, 1) := by decide +kernel
theorem dX7_digit_43 : decode cX7_digit 43 = .ok (.dup, 1) := by decide +kernel
theorem dX7_digit_44 : decode cX7_digit 44 = .ok (.getfield 155, 3) := by decide +kernel
theorem dX7_digit_47 : decode cX7_digit 47 = .ok (.iload_n 2, 1) := by decide +kernel
theorem dX7_digit_48 : decode cX7_digit 48 = .ok (.ifCond .eq 7, 3) := by decide +kernel
theorem dX7_digit_51 : decode cX7_digit 51 = .ok (.iconst 1, 1) := by decide +kernel
theorem dX7_digit_52 : decode cX7_digit 52 = .ok (.goto 4, 3) := by decide +kernel
theorem dX7_digit_55 : decode cX7_digit 55 = .ok (.iconst 0, 1) := by decide +kernel
theorem dX7_digit_56 : decode cX7_digit 56 = .ok (.iadd, 1) := by decide +kernel
theorem dX7_digit_57 : decode cX7_digit 57 = .ok (.putfield 155, 3) := by decide +kernel
theorem dX7_digit_60 : decode cX7_digit 60 = .ok (.iload_n 2, 1) := by decide +kernel
theorem dX7_digit_61 : decode cX7_digit 61 = .ok (.ireturn, 1) := by decide +kernel
theorem dX7_number_0 : decode cX7_number 0 = .ok (.aload_n 0, 1) := by decide +kernel
theorem dX7_number_1 : decode cX7_number 1 = .ok (.iload_n 1, 1) := by decide +kernel
theorem dX7_number_2 : decode cX7_number 2 = .ok (.invokevirtual 165, 3) := by decide +kernel
theorem dX7_number_5 : decode cX7_number 5 = .ok (.istore_n 2, 1) := by decide +kernel
theorem dX7_number_6 : decode cX7_number 6 = .ok (.iconst 4, 1) := by decide +kernel
theorem dX7_number_7 : decode cX7_number 7 = .ok (.aload_n 0, 1) := by decide +kernel
theorem dX7_number_8 : decode cX7_number 8 = .ok (.getfield 162, 3) := by decide +kernel
theorem dX7_number_11 : decode cX7_number 11 = .ok (.imul, 1) := by decide +kernel
theorem dX7_number_12 : decode cX7_number 12 = .ok (.iload_n 1, 1) := by decide +kernel
theorem dX7_number_13 : decode cX7_number 13 = .ok (.iadd, 1) := by decide +kernel
theorem dX7_number_14 : decode cX7_number 14 = .ok (.istore_n 3, 1) := by decide +kernel
theorem dX7_number_15 : decode cX7_number 15 = .ok (.iload_n 2, 1) := by decide +kernel
theorem dX7_number_16 : decode cX7_number 16 = .ok (.ifCond .eq 61, 3) := by decide +kernel
theorem dX7_number_19 : decode cX7_number 19 = .ok (.aload_n 0, 1) := by decide +kernel
theorem dX7_number_20 : decode cX7_number 20 = .ok (.getfield 32, 3) := by decide +kernel
theorem dX7_number_23 : decode cX7_number 23 = .ok (.iload_n 3, 1) := by decide +kernel
theorem dX7_number_24 : decode cX7_number 24 = .ok (.iaload, 1) := by decide +kernel
theorem dX7_number_25 : decode cX7_number 25 = .ok (.ifCond .le 52, 3) := by decide +kernel
theorem dX7_number_28 : decode cX7_number 28 = .ok (.aload_n 0, 1) := by decide +kernel
theorem dX7_number_29 : decode cX7_number 29 = .ok (.bipush 48, 2) := by decide +kernel
theorem dX7_number_31 : decode cX7_number 31 = .ok (.bipush 57, 2) := by decide +kernel
theorem dX7_number_33 : decode cX7_number 33 = .ok (.invokevirtual 158, 3) := by decide +kernel
theorem dX7_number_36 : decode cX7_number 36 = .ok (.ifCond .eq 41, 3) := by decide +kernel
theorem dX7_number_39 : decode cX7_number 39 = .ok (.aload_n 0, 1) := by decide +kernel
theorem dX7_number_40 : decode cX7_number 40 = .ok (.getfield 32, 3) := by decide +kernel
theorem dX7_number_43 : decode cX7_number 43 = .ok (.iload_n 3, 1) := by decide +kernel
theorem dX7_number_44 : decode cX7_number 44 = .ok (.bipush 10, 2) := by decide +kernel
theorem dX7_number_46 : decode cX7_number 46 = .ok (.aload_n 0, 1) := by decide +kernel
theorem dX7_number_47 : decode cX7_number 47 = .ok (.getfield 32, 3) := by decide +kernel
theorem dX7_number_50 : decode cX7_number 50 = .ok (.iload_n 3, 1) := by decide +kernel
theorem dX7_number_51 : decode cX7_number 51 = .ok (.iaload, 1) := by decide +kernel
theorem dX7_number_52 : decode cX7_number 52 = .ok (.imul, 1) := by decide +kernel
theorem dX7_number_53 : decode cX7_number 53 = .ok (.aload_n 0, 1) := by decide +kernel
theorem dX7_number_54 : decode cX7_number 54 = .ok (.getfield 35, 3) := by decide +kernel
theorem dX7_number_57 : decode cX7_number 57 = .ok (.aload_n 0, 1) := by decide +kernel
theorem dX7_number_58 : decode cX7_number 58 = .ok (.getfield 155, 3) := by decide +kernel
theorem dX7_number_61 : decode cX7_number 61 = .ok (.caload, 1) := by decide +kernel
theorem dX7_number_62 : decode cX7_number 62 = .ok (.iadd, 1) := by decide +kernel
theorem dX7_number_63 : decode cX7_number 63 = .ok (.bipush 48, 2) := by decide +kernel
theorem dX7_number_65 : decode cX7_number 65 = .ok (.isub, 1) := by decide +kernel
theorem dX7_number_66 : decode cX7_number 66 = .ok (.iastore, 1) := by decide +kernel
theorem dX7_number_67 : decode cX7_number 67 = .ok (.aload_n 0, 1) := by decide +kernel
theorem dX7_number_68 : decode cX7_number 68 = .ok (.dup, 1) := by decide +kernel
theorem dX7_number_69 : decode cX7_number 69 = .ok (.getfield 155, 3) := by decide +kernel
theorem dX7_number_72 : decode cX7_number 72 = .ok (.iconst 1, 1) := by decide +kernel
theorem dX7_number_73 : decode cX7_number 73 = .ok (.iadd, 1) := by decide +kernel
theorem dX7_number_74 : decode cX7_number 74 = .ok (.putfield 155, 3) := by decide +kernel
theorem dX7_number_77 : decode cX7_number 77 = .ok (.iload_n 2, 1) := by decide +kernel
theorem dX7_number_78 : decode cX7_number 78 = .ok (.ireturn, 1) := by decide +kernel
theorem dX7_letters_0 : decode cX7_letters 0 = .ok (.iconst 4, 1) := by decide +kernel
theorem dX7_letters_1 : decode cX7_letters 1 = .ok (.aload_n 0, 1) := by decide +kernel
theorem dX7_letters_2 : decode cX7_letters 2 = .ok (.getfield 162, 3) := by decide +kernel
theorem dX7_letters_5 : decode cX7_letters 5 = .ok (.imul, 1) := by decide +kernel
theorem dX7_letters_6 : decode cX7_letters 6 = .ok (.istore_n 1, 1) := by decide +kernel
theorem dX7_letters_7 : decode cX7_letters 7 = .ok (.aload_n 0, 1) := by decide +kernel
theorem dX7_letters_8 : decode cX7_letters 8 = .ok (.getfield 32, 3) := by decide +kernel
theorem dX7_letters_11 : decode cX7_letters 11 = .ok (.iload_n 1, 1) := by decide +kernel
theorem dX7_letters_12 : decode cX7_letters 12 = .ok (.iconst 1, 1) := by decide +kernel
theorem dX7_letters_13 : decode cX7_letters 13 = .ok (.iadd, 1) := by decide +kernel
theorem dX7_letters_14 : decode cX7_letters 14 = .ok (.aload_n 0, 1) := by decide +kernel
theorem dX7_letters_15 : decode cX7_letters 15 = .ok (.getfield 155, 3) := by decide +kernel
theorem dX7_letters_18 : decode cX7_letters 18 = .ok (.iastore, 1) := by decide +kernel
theorem dX7_letters_19 : decode cX7_letters 19 = .ok (.aload_n 0, 1) := by decide +kernel
theorem dX7_letters_20 : decode cX7_letters 20 = .ok (.getfield 155, 3) := by decide +kernel
theorem dX7_letters_23 : decode cX7_letters 23 = .ok (.aload_n 0, 1) := by decide +kernel
theorem dX7_letters_24 : decode cX7_letters 24 = .ok (.getfield 32, 3) := by decide +kernel
theorem dX7_letters_27 : decode cX7_letters 27 = .ok (.iload_n 1, 1) := by decide +kernel
theorem dX7_letters_28 : decode cX7_letters 28 = .ok (.iconst 1, 1) := by decide +kernel
theorem dX7_letters_29 : decode cX7_letters 29 = .ok (.iadd, 1) := by decide +kernel
theorem dX7_letters_30 : decode cX7_letters 30 = .ok (.iaload, 1) := by decide +kernel
theorem dX7_letters_31 : decode cX7_letters 31 = .ok (.isub, 1) := by decide +kernel
theorem dX7_letters_32 : decode cX7_letters 32 = .ok (.bipush 20, 2) := by decide +kernel
theorem dX7_letters_34 : decode cX7_letters 34 = .ok (.if_icmp .ge 27, 3) := by decide +kernel
theorem dX7_letters_37 : decode cX7_letters 37 = .ok (.aload_n 0, 1) := by decide +kernel
theorem dX7_letters_38 : decode cX7_letters 38 = .ok (.bipush 97, 2) := by decide +kernel
theorem dX7_letters_40 : decode cX7_letters 40 = .ok (.bipush 122, 2) := by decide +kernel
theorem dX7_letters_42 : decode cX7_letters 42 = .ok (.invokevirtual 158, 3) := by decide +kernel
theorem dX7_letters_45 : decode cX7_letters 45 = .ok (.ifCond .eq 16, 3) := by decide +kernel
theorem dX7_letters_48 : decode cX7_letters 48 = .ok (.aload_n 0, 1) := by decide +kernel
theorem dX7_letters_49 : decode cX7_letters 49 = .ok (.dup, 1) := by decide +kernel
theorem dX7_letters_50 : decode cX7_letters 50 = .ok (.getfield 155, 3) := by decide +kernel
theorem dX7_letters_53 : decode cX7_letters 53 = .ok (.iconst 1, 1) := by decide +kernel
theorem dX7_letters_54 : decode cX7_letters 54 = .ok (.iadd, 1) := by decide +kernel
theorem dX7_letters_55 : decode cX7_letters 55 = .ok (.putfield 155, 3) := by decide +kernel
theorem dX7_letters_58 : decode cX7_letters 58 = .ok (.goto (-39), 3) := by decide +kernel
theorem dX7_letters_61 : decode cX7_letters 61 = .ok (.aload_n 0, 1) := by decide +kernel
theorem dX7_letters_62 : decode cX7_letters 62 = .ok (.getfield 32, 3) := by decide +kernel
theorem dX7_letters_65 : decode cX7_letters 65 = .ok (.iload_n 1, 1) := by decide +kernel
theorem dX7_letters_66 : decode cX7_letters 66 = .ok (.iconst 2, 1) := by decide +kernel
theorem dX7_letters_67 : decode cX7_letters 67 = .ok (.iadd, 1) := by decide +kernel
theorem dX7_letters_68 : decode cX7_letters 68 = .ok (.aload_n 0, 1) := by decide +kernel
theorem dX7_letters_69 : decode cX7_letters 69 = .ok (.getfield 155, 3) := by decide +kernel
theorem dX7_letters_72 : decode cX7_letters 72 = .ok (.aload_n 0, 1) := by decide +kernel
theorem dX7_letters_73 : decode cX7_letters 73 = .ok (.getfield 32, 3) := by decide +kernel
theorem dX7_letters_76 : decode cX7_letters 76 = .ok (.iload_n 1, 1) := by decide +kernel
theorem dX7_letters_77 : decode cX7_letters 77 = .ok (.iconst 1, 1) := by decide +kernel
theorem dX7_letters_78 : decode cX7_letters 78 = .ok (.iadd, 1) := by decide +kernel
theorem dX7_letters_79 : decode cX7_letters 79 = .ok (.iaload, 1) := by decide +kernel
theorem dX7_letters_80 : decode cX7_letters 80 = .ok (.isub, 1) := by decide +kernel
theorem dX7_letters_81 : decode cX7_letters 81 = .ok (.iastore, 1) := by decide +kernel
theorem dX7_letters_82 : decode cX7_letters 82 = .ok (.aload_n 0, 1) := by decide +kernel
theorem dX7_letters_83 : decode cX7_letters 83 = .ok (.getfield 32, 3) := by decide +kernel
theorem dX7_letters_86 : decode cX7_letters 86 = .ok (.iload_n 1, 1) := by decide +kernel
theorem dX7_letters_87 : decode cX7_letters 87 = .ok (.iconst 2, 1) := by decide +kernel
theorem dX7_letters_88 : decode cX7_letters 88 = .ok (.iadd, 1) := by decide +kernel
theorem dX7_letters_89 : decode cX7_letters 89 = .ok (.iaload, 1) := by decide +kernel
theorem dX7_letters_90 : decode cX7_letters 90 = .ok (.ifCond .le 7, 3) := by decide +kernel
theorem dX7_letters_93 : decode cX7_letters 93 = .ok (.iconst 1, 1) := by decide +kernel
theorem dX7_letters_94 : decode cX7_letters 94 = .ok (.goto 4, 3) := by decide +kernel
theorem dX7_letters_97 : decode cX7_letters 97 = .ok (.iconst 0, 1) := by decide +kernel
theorem dX7_letters_98 : decode cX7_letters 98 = .ok (.ireturn, 1) := by decide +kernel
theorem dX7_readsOrder_0 : decode cX7_readsOrder 0 = .ok (.aload_n 0, 1) := by decide +kernel
theorem dX7_readsOrder_1 : decode cX7_readsOrder 1 = .ok (.getfield 32, 3) := by decide +kernel
theorem dX7_readsOrder_4 : decode cX7_readsOrder 4 = .ok (.iconst 4, 1) := by decide +kernel
theorem dX7_readsOrder_5 : decode cX7_readsOrder 5 = .ok (.aload_n 0, 1) := by decide +kernel
theorem dX7_readsOrder_6 : decode cX7_readsOrder 6 = .ok (.getfield 162, 3) := by decide +kernel
theorem dX7_readsOrder_9 : decode cX7_readsOrder 9 = .ok (.imul, 1) := by decide +kernel
theorem dX7_readsOrder_10 : decode cX7_readsOrder 10 = .ok (.aload_n 0, 1) := by decide +kernel
theorem dX7_readsOrder_11 : decode cX7_readsOrder 11 = .ok (.getfield 155, 3) := by decide +kernel
theorem dX7_readsOrder_14 : decode cX7_readsOrder 14 = .ok (.aload_n 0, 1) := by decide +kernel
theorem dX7_readsOrder_15 : decode cX7_readsOrder 15 = .ok (.getfield 140, 3) := by decide +kernel
theorem dX7_readsOrder_18 : decode cX7_readsOrder 18 = .ok (.if_icmp .ge 15, 3) := by decide +kernel
theorem dX7_readsOrder_21 : decode cX7_readsOrder 21 = .ok (.aload_n 0, 1) := by decide +kernel
theorem dX7_readsOrder_22 : decode cX7_readsOrder 22 = .ok (.getfield 35, 3) := by decide +kernel
theorem dX7_readsOrder_25 : decode cX7_readsOrder 25 = .ok (.aload_n 0, 1) := by decide +kernel
theorem dX7_readsOrder_26 : decode cX7_readsOrder 26 = .ok (.getfield 155, 3) := by decide +kernel
theorem dX7_readsOrder_29 : decode cX7_readsOrder 29 = .ok (.caload, 1) := by decide +kernel
theorem dX7_readsOrder_30 : decode cX7_readsOrder 30 = .ok (.goto 4, 3) := by decide +kernel
theorem dX7_readsOrder_33 : decode cX7_readsOrder 33 = .ok (.iconst 0, 1) := by decide +kernel
theorem dX7_readsOrder_34 : decode cX7_readsOrder 34 = .ok (.iastore, 1) := by decide +kernel
theorem dX7_readsOrder_35 : decode cX7_readsOrder 35 = .ok (.aload_n 0, 1) := by decide +kernel
theorem dX7_readsOrder_36 : decode cX7_readsOrder 36 = .ok (.getfield 32, 3) := by decide +kernel
theorem dX7_readsOrder_39 : decode cX7_readsOrder 39 = .ok (.iconst 4, 1) := by decide +kernel
theorem dX7_readsOrder_40 : decode cX7_readsOrder 40 = .ok (.aload_n 0, 1) := by decide +kernel
theorem dX7_readsOrder_41 : decode cX7_readsOrder 41 = .ok (.getfield 162, 3) := by decide +kernel
theorem dX7_readsOrder_44 : decode cX7_readsOrder 44 = .ok (.imul, 1) := by decide +kernel
theorem dX7_readsOrder_45 : decode cX7_readsOrder 45 = .ok (.iconst 3, 1) := by decide +kernel
theorem dX7_readsOrder_46 : decode cX7_readsOrder 46 = .ok (.iadd, 1) := by decide +kernel
theorem dX7_readsOrder_47 : decode cX7_readsOrder 47 = .ok (.iconst 0, 1) := by decide +kernel
theorem dX7_readsOrder_48 : decode cX7_readsOrder 48 = .ok (.iastore, 1) := by decide +kernel
theorem dX7_readsOrder_49 : decode cX7_readsOrder 49 = .ok (.aload_n 0, 1) := by decide +kernel
theorem dX7_readsOrder_50 : decode cX7_readsOrder 50 = .ok (.bipush 83, 2) := by decide +kernel
theorem dX7_readsOrder_52 : decode cX7_readsOrder 52 = .ok (.invokevirtual 168, 3) := by decide +kernel
theorem dX7_readsOrder_55 : decode cX7_readsOrder 55 = .ok (.ifCond .eq 11, 3) := by decide +kernel
theorem dX7_readsOrder_58 : decode cX7_readsOrder 58 = .ok (.aload_n 0, 1) := by decide +kernel
theorem dX7_readsOrder_59 : decode cX7_readsOrder 59 = .ok (.invokevirtual 172, 3) := by decide +kernel
theorem dX7_readsOrder_62 : decode cX7_readsOrder 62 = .ok (.istore_n 1, 1) := by decide +kernel
theorem dX7_readsOrder_63 : decode cX7_readsOrder 63 = .ok (.goto 148, 3) := by decide +kernel
theorem dX7_readsOrder_66 : decode cX7_readsOrder 66 = .ok (.aload_n 0, 1) := by decide +kernel
theorem dX7_readsOrder_67 : decode cX7_readsOrder 67 = .ok (.bipush 76, 2) := by decide +kernel
theorem dX7_readsOrder_69 : decode cX7_readsOrder 69 = .ok (.invokevirtual 168, 3) := by decide +kernel
theorem dX7_readsOrder_72 : decode cX7_readsOrder 72 = .ok (.ifCond .eq 54, 3) := by decide +kernel
theorem dX7_readsOrder_75 : decode cX7_readsOrder 75 = .ok (.aload_n 0, 1) := by decide +kernel
theorem dX7_readsOrder_76 : decode cX7_readsOrder 76 = .ok (.iconst 1, 1) := by decide +kernel
theorem dX7_readsOrder_77 : decode cX7_readsOrder 77 = .ok (.invokevirtual 165, 3) := by decide +kernel
theorem dX7_readsOrder_80 : decode cX7_readsOrder 80 = .ok (.ifCond .eq 41, 3) := by decide +kernel
theorem dX7_readsOrder_83 : decode cX7_readsOrder 83 = .ok (.aload_n 0, 1) := by decide +kernel
theorem dX7_readsOrder_84 : decode cX7_readsOrder 84 = .ok (.bipush 46, 2) := by decide +kernel
theorem dX7_readsOrder_86 : decode cX7_readsOrder 86 = .ok (.invokevirtual 168, 3) := by decide +kernel
theorem dX7_readsOrder_89 : decode cX7_readsOrder 89 = .ok (.ifCond .eq 32, 3) := by decide +kernel
theorem dX7_readsOrder_92 : decode cX7_readsOrder 92 = .ok (.aload_n 0, 1) := by decide +kernel
theorem dX7_readsOrder_93 : decode cX7_readsOrder 93 = .ok (.iconst 2, 1) := by decide +kernel
theorem dX7_readsOrder_94 : decode cX7_readsOrder 94 = .ok (.invokevirtual 165, 3) := by decide +kernel
theorem dX7_readsOrder_97 : decode cX7_readsOrder 97 = .ok (.ifCond .eq 24, 3) := by decide +kernel
theorem dX7_readsOrder_100 : decode cX7_readsOrder 100 = .ok (.aload_n 0, 1) := by decide +kernel
theorem dX7_readsOrder_101 : decode cX7_readsOrder 101 = .ok (.bipush 47, 2) := by decide +kernel
theorem dX7_readsOrder_103 : decode cX7_readsOrder 103 = .ok (.invokevirtual 168, 3) := by decide +kernel
theorem dX7_readsOrder_106 : decode cX7_readsOrder 106 = .ok (.ifCond .eq 11, 3) := by decide +kernel
theorem dX7_readsOrder_109 : decode cX7_readsOrder 109 = .ok (.aload_n 0, 1) := by decide +kernel
theorem dX7_readsOrder_110 : decode cX7_readsOrder 110 = .ok (.iconst 3, 1) := by decide +kernel
theorem dX7_readsOrder_111 : decode cX7_readsOrder 111 = .ok (.invokevirtual 176, 3) := by decide +kernel
theorem dX7_readsOrder_114 : decode cX7_readsOrder 114 = .ok (.ifCond .eq 7, 3) := by decide +kernel
theorem dX7_readsOrder_117 : decode cX7_readsOrder 117 = .ok (.iconst 1, 1) := by decide +kernel
theorem dX7_readsOrder_118 : decode cX7_readsOrder 118 = .ok (.goto 4, 3) := by decide +kernel
theorem dX7_readsOrder_121 : decode cX7_readsOrder 121 = .ok (.iconst 0, 1) := by decide +kernel
theorem dX7_readsOrder_122 : decode cX7_readsOrder 122 = .ok (.istore_n 1, 1) := by decide +kernel
theorem dX7_readsOrder_123 : decode cX7_readsOrder 123 = .ok (.goto 88, 3) := by decide +kernel
theorem dX7_readsOrder_126 : decode cX7_readsOrder 126 = .ok (.aload_n 0, 1) := by decide +kernel
theorem dX7_readsOrder_127 : decode cX7_readsOrder 127 = .ok (.bipush 72, 2) := by decide +kernel
theorem dX7_readsOrder_129 : decode cX7_readsOrder 129 = .ok (.invokevirtual 168, 3) := by decide +kernel
theorem dX7_readsOrder_132 : decode cX7_readsOrder 132 = .ok (.ifCond .eq 12, 3) := by decide +kernel
theorem dX7_readsOrder_135 : decode cX7_readsOrder 135 = .ok (.aload_n 0, 1) := by decide +kernel
theorem dX7_readsOrder_136 : decode cX7_readsOrder 136 = .ok (.iconst 1, 1) := by decide +kernel
theorem dX7_readsOrder_137 : decode cX7_readsOrder 137 = .ok (.invokevirtual 165, 3) := by decide +kernel
theorem dX7_readsOrder_140 : decode cX7_readsOrder 140 = .ok (.istore_n 1, 1) := by decide +kernel
theorem dX7_readsOrder_141 : decode cX7_readsOrder 141 = .ok (.goto 70, 3) := by decide +kernel
theorem dX7_readsOrder_144 : decode cX7_readsOrder 144 = .ok (.aload_n 0, 1) := by decide +kernel
theorem dX7_readsOrder_145 : decode cX7_readsOrder 145 = .ok (.bipush 80, 2) := by decide +kernel
theorem dX7_readsOrder_147 : decode cX7_readsOrder 147 = .ok (.invokevirtual 168, 3) := by decide +kernel
theorem dX7_readsOrder_150 : decode cX7_readsOrder 150 = .ok (.ifCond .eq 37, 3) := by decide +kernel
theorem dX7_readsOrder_153 : decode cX7_readsOrder 153 = .ok (.aload_n 0, 1) := by decide +kernel
theorem dX7_readsOrder_154 : decode cX7_readsOrder 154 = .ok (.iconst 1, 1) := by decide +kernel
theorem dX7_readsOrder_155 : decode cX7_readsOrder 155 = .ok (.invokevirtual 165, 3) := by decide +kernel
theorem dX7_readsOrder_158 : decode cX7_readsOrder 158 = .ok (.ifCond .eq 24, 3) := by decide +kernel
theorem dX7_readsOrder_161 : decode cX7_readsOrder 161 = .ok (.aload_n 0, 1) := by decide +kernel
theorem dX7_readsOrder_162 : decode cX7_readsOrder 162 = .ok (.bipush 42, 2) := by decide +kernel
theorem dX7_readsOrder_164 : decode cX7_readsOrder 164 = .ok (.invokevirtual 168, 3) := by decide +kernel
theorem dX7_readsOrder_167 : decode cX7_readsOrder 167 = .ok (.ifCond .eq 15, 3) := by decide +kernel
theorem dX7_readsOrder_170 : decode cX7_readsOrder 170 = .ok (.aload_n 0, 1) := by decide +kernel
theorem dX7_readsOrder_171 : decode cX7_readsOrder 171 = .ok (.iconst 2, 1) := by decide +kernel
theorem dX7_readsOrder_172 : decode cX7_readsOrder 172 = .ok (.invokevirtual 176, 3) := by decide +kernel
theorem dX7_readsOrder_175 : decode cX7_readsOrder 175 = .ok (.ifCond .eq 7, 3) := by decide +kernel
theorem dX7_readsOrder_178 : decode cX7_readsOrder 178 = .ok (.iconst 1, 1) := by decide +kernel
theorem dX7_readsOrder_179 : decode cX7_readsOrder 179 = .ok (.goto 4, 3) := by decide +kernel
theorem dX7_readsOrder_182 : decode cX7_readsOrder 182 = .ok (.iconst 0, 1) := by decide +kernel
theorem dX7_readsOrder_183 : decode cX7_readsOrder 183 = .ok (.istore_n 1, 1) := by decide +kernel
theorem dX7_readsOrder_184 : decode cX7_readsOrder 184 = .ok (.goto 27, 3) := by decide +kernel
theorem dX7_readsOrder_187 : decode cX7_readsOrder 187 = .ok (.aload_n 0, 1) := by decide +kernel
theorem dX7_readsOrder_188 : decode cX7_readsOrder 188 = .ok (.bipush 66, 2) := by decide +kernel
theorem dX7_readsOrder_190 : decode cX7_readsOrder 190 = .ok (.invokevirtual 168, 3) := by decide +kernel
theorem dX7_readsOrder_193 : decode cX7_readsOrder 193 = .ok (.ifCond .ne 12, 3) := by decide +kernel
theorem dX7_readsOrder_196 : decode cX7_readsOrder 196 = .ok (.aload_n 0, 1) := by decide +kernel
theorem dX7_readsOrder_197 : decode cX7_readsOrder 197 = .ok (.bipush 78, 2) := by decide +kernel
theorem dX7_readsOrder_199 : decode cX7_readsOrder 199 = .ok (.invokevirtual 168, 3) := by decide +kernel
theorem dX7_readsOrder_202 : decode cX7_readsOrder 202 = .ok (.ifCond .eq 7, 3) := by decide +kernel
theorem dX7_readsOrder_205 : decode cX7_readsOrder 205 = .ok (.iconst 1, 1) := by decide +kernel
theorem dX7_readsOrder_206 : decode cX7_readsOrder 206 = .ok (.goto 4, 3) := by decide +kernel
theorem dX7_readsOrder_209 : decode cX7_readsOrder 209 = .ok (.iconst 0, 1) := by decide +kernel
theorem dX7_readsOrder_210 : decode cX7_readsOrder 210 = .ok (.istore_n 1, 1) := by decide +kernel
theorem dX7_readsOrder_211 : decode cX7_readsOrder 211 = .ok (.aload_n 0, 1) := by decide +kernel
theorem dX7_readsOrder_212 : decode cX7_readsOrder 212 = .ok (.dup, 1) := by decide +kernel
theorem dX7_readsOrder_213 : decode cX7_readsOrder 213 = .ok (.getfield 162, 3) := by decide +kernel
theorem dX7_readsOrder_216 : decode cX7_readsOrder 216 = .ok (.iload_n 1, 1) := by decide +kernel
theorem dX7_readsOrder_217 : decode cX7_readsOrder 217 = .ok (.ifCond .eq 7, 3) := by decide +kernel
theorem dX7_readsOrder_220 : decode cX7_readsOrder 220 = .ok (.iconst 1, 1) := by decide +kernel
theorem dX7_readsOrder_221 : decode cX7_readsOrder 221 = .ok (.goto 4, 3) := by decide +kernel
theorem dX7_readsOrder_224 : decode cX7_readsOrder 224 = .ok (.iconst 0, 1) := by decide +kernel
theorem dX7_readsOrder_225 : decode cX7_readsOrder 225 = .ok (.iadd, 1) := by decide +kernel
theorem dX7_readsOrder_226 : decode cX7_readsOrder 226 = .ok (.putfield 162, 3) := by decide +kernel
theorem dX7_readsOrder_229 : decode cX7_readsOrder 229 = .ok (.iload_n 1, 1) := by decide +kernel
theorem dX7_readsOrder_230 : decode cX7_readsOrder 230 = .ok (.ireturn, 1) := by decide +kernel
theorem dX7_faultOf_0 : decode cX7_faultOf 0 = .ok (.aload_n 0, 1) := by decide +kernel
theorem dX7_faultOf_1 : decode cX7_faultOf 1 = .ok (.iconst 0, 1) := by decide +kernel
theorem dX7_faultOf_2 : decode cX7_faultOf 2 = .ok (.putfield 155, 3) := by decide +kernel
theorem dX7_faultOf_5 : decode cX7_faultOf 5 = .ok (.aload_n 0, 1) := by decide +kernel
theorem dX7_faultOf_6 : decode cX7_faultOf 6 = .ok (.iconst 0, 1) := by decide +kernel
theorem dX7_faultOf_7 : decode cX7_faultOf 7 = .ok (.putfield 162, 3) := by decide +kernel
theorem dX7_faultOf_10 : decode cX7_faultOf 10 = .ok (.aload_n 0, 1) := by decide +kernel
theorem dX7_faultOf_11 : decode cX7_faultOf 11 = .ok (.invokevirtual 179, 3) := by decide +kernel
theorem dX7_faultOf_14 : decode cX7_faultOf 14 = .ok (.istore_n 1, 1) := by decide +kernel
theorem dX7_faultOf_15 : decode cX7_faultOf 15 = .ok (.iload_n 1, 1) := by decide +kernel
theorem dX7_faultOf_16 : decode cX7_faultOf 16 = .ok (.ifCond .eq 39, 3) := by decide +kernel
theorem dX7_faultOf_19 : decode cX7_faultOf 19 = .ok (.aload_n 0, 1) := by decide +kernel
theorem dX7_faultOf_20 : decode cX7_faultOf 20 = .ok (.getfield 155, 3) := by decide +kernel
theorem dX7_faultOf_23 : decode cX7_faultOf 23 = .ok (.aload_n 0, 1) := by decide +kernel
theorem dX7_faultOf_24 : decode cX7_faultOf 24 = .ok (.getfield 140, 3) := by decide +kernel
theorem dX7_faultOf_27 : decode cX7_faultOf 27 = .ok (.if_icmp .ge 28, 3) := by decide +kernel
theorem dX7_faultOf_30 : decode cX7_faultOf 30 = .ok (.aload_n 0, 1) := by decide +kernel
theorem dX7_faultOf_31 : decode cX7_faultOf 31 = .ok (.bipush 59, 2) := by decide +kernel
theorem dX7_faultOf_33 : decode cX7_faultOf 33 = .ok (.invokevirtual 168, 3) := by decide +kernel
theorem dX7_faultOf_36 : decode cX7_faultOf 36 = .ok (.ifCond .eq 14, 3) := by decide +kernel
theorem dX7_faultOf_39 : decode cX7_faultOf 39 = .ok (.aload_n 0, 1) := by decide +kernel
theorem dX7_faultOf_40 : decode cX7_faultOf 40 = .ok (.invokevirtual 179, 3) := by decide +kernel
theorem dX7_faultOf_43 : decode cX7_faultOf 43 = .ok (.ifCond .eq 7, 3) := by decide +kernel
theorem dX7_faultOf_46 : decode cX7_faultOf 46 = .ok (.iconst 1, 1) := by decide +kernel
theorem dX7_faultOf_47 : decode cX7_faultOf 47 = .ok (.goto 4, 3) := by decide +kernel
theorem dX7_faultOf_50 : decode cX7_faultOf 50 = .ok (.iconst 0, 1) := by decide +kernel
theorem dX7_faultOf_51 : decode cX7_faultOf 51 = .ok (.istore_n 1, 1) := by decide +kernel
theorem dX7_faultOf_52 : decode cX7_faultOf 52 = .ok (.goto (-37), 3) := by decide +kernel
theorem dX7_faultOf_55 : decode cX7_faultOf 55 = .ok (.iload_n 1, 1) := by decide +kernel
theorem dX7_faultOf_56 : decode cX7_faultOf 56 = .ok (.ifCond .eq 7, 3) := by decide +kernel
theorem dX7_faultOf_59 : decode cX7_faultOf 59 = .ok (.iconst (-1), 1) := by decide +kernel
theorem dX7_faultOf_60 : decode cX7_faultOf 60 = .ok (.goto 7, 3) := by decide +kernel
theorem dX7_faultOf_63 : decode cX7_faultOf 63 = .ok (.aload_n 0, 1) := by decide +kernel
theorem dX7_faultOf_64 : decode cX7_faultOf 64 = .ok (.getfield 155, 3) := by decide +kernel
theorem dX7_faultOf_67 : decode cX7_faultOf 67 = .ok (.ireturn, 1) := by decide +kernel
theorem dX7_does_0 : decode cX7_does 0 = .ok (.iconst 4, 1) := by decide +kernel
theorem dX7_does_1 : decode cX7_does 1 = .ok (.iload_n 1, 1) := by decide +kernel
theorem dX7_does_2 : decode cX7_does 2 = .ok (.imul, 1) := by decide +kernel
theorem dX7_does_3 : decode cX7_does 3 = .ok (.istore_n 2, 1) := by decide +kernel
theorem dX7_does_4 : decode cX7_does 4 = .ok (.aload_n 0, 1) := by decide +kernel
theorem dX7_does_5 : decode cX7_does 5 = .ok (.getfield 32, 3) := by decide +kernel
theorem dX7_does_8 : decode cX7_does 8 = .ok (.iload_n 2, 1) := by decide +kernel
theorem dX7_does_9 : decode cX7_does 9 = .ok (.iaload, 1) := by decide +kernel
theorem dX7_does_10 : decode cX7_does 10 = .ok (.lookupswitch 139 #[(66, 71), (72, 105), (76, 76), (80, 118), (83, 50)], 50) := by decide +kernel
theorem dX7_does_60 : decode cX7_does 60 = .ok (.aload_n 0, 1) := by decide +kernel
theorem dX7_does_61 : decode cX7_does 61 = .ok (.aload_n 0, 1) := by decide +kernel
theorem dX7_does_62 : decode cX7_does 62 = .ok (.getfield 32, 3) := by decide +kernel
theorem dX7_does_65 : decode cX7_does 65 = .ok (.iload_n 2, 1) := by decide +kernel
theorem dX7_does_66 : decode cX7_does 66 = .ok (.iconst 1, 1) := by decide +kernel
theorem dX7_does_67 : decode cX7_does 67 = .ok (.iadd, 1) := by decide +kernel
theorem dX7_does_68 : decode cX7_does 68 = .ok (.iaload, 1) := by decide +kernel
theorem dX7_does_69 : decode cX7_does 69 = .ok (.aload_n 0, 1) := by decide +kernel
theorem dX7_does_70 : decode cX7_does 70 = .ok (.getfield 32, 3) := by decide +kernel
theorem dX7_does_73 : decode cX7_does 73 = .ok (.iload_n 2, 1) := by decide +kernel
theorem dX7_does_74 : decode cX7_does 74 = .ok (.iconst 2, 1) := by decide +kernel
theorem dX7_does_75 : decode cX7_does 75 = .ok (.iadd, 1) := by decide +kernel
theorem dX7_does_76 : decode cX7_does 76 = .ok (.iaload, 1) := by decide +kernel
theorem dX7_does_77 : decode cX7_does 77 = .ok (.invokevirtual 182, 3) := by decide +kernel
theorem dX7_does_80 : decode cX7_does 80 = .ok (.ireturn, 1) := by decide +kernel
theorem dX7_does_81 : decode cX7_does 81 = .ok (.aload_n 0, 1) := by decide +kernel
theorem dX7_does_82 : decode cX7_does 82 = .ok (.invokevirtual 106, 3) := by decide +kernel
theorem dX7_does_85 : decode cX7_does 85 = .ok (.ireturn, 1) := by decide +kernel
theorem dX7_does_86 : decode cX7_does 86 = .ok (.aload_n 0, 1) := by decide +kernel
theorem dX7_does_87 : decode cX7_does 87 = .ok (.aload_n 0, 1) := by decide +kernel
theorem dX7_does_88 : decode cX7_does 88 = .ok (.getfield 32, 3) := by decide +kernel
theorem dX7_does_91 : decode cX7_does 91 = .ok (.iload_n 2, 1) := by decide +kernel
theorem dX7_does_92 : decode cX7_does 92 = .ok (.iconst 1, 1) := by decide +kernel
theorem dX7_does_93 : decode cX7_does 93 = .ok (.iadd, 1) := by decide +kernel
theorem dX7_does_94 : decode cX7_does 94 = .ok (.iaload, 1) := by decide +kernel
theorem dX7_does_95 : decode cX7_does 95 = .ok (.aload_n 0, 1) := by decide +kernel
theorem dX7_does_96 : decode cX7_does 96 = .ok (.getfield 32, 3) := by decide +kernel
theorem dX7_does_99 : decode cX7_does 99 = .ok (.iload_n 2, 1) := by decide +kernel
theorem dX7_does_100 : decode cX7_does 100 = .ok (.iconst 2, 1) := by decide +kernel
theorem dX7_does_101 : decode cX7_does 101 = .ok (.iadd, 1) := by decide +kernel
theorem dX7_does_102 : decode cX7_does 102 = .ok (.iaload, 1) := by decide +kernel
theorem dX7_does_103 : decode cX7_does 103 = .ok (.aload_n 0, 1) := by decide +kernel
theorem dX7_does_104 : decode cX7_does 104 = .ok (.getfield 32, 3) := by decide +kernel
theorem dX7_does_107 : decode cX7_does 107 = .ok (.iload_n 2, 1) := by decide +kernel
theorem dX7_does_108 : decode cX7_does 108 = .ok (.iconst 3, 1) := by decide +kernel
theorem dX7_does_109 : decode cX7_does 109 = .ok (.iadd, 1) := by decide +kernel
theorem dX7_does_110 : decode cX7_does 110 = .ok (.iaload, 1) := by decide +kernel
theorem dX7_does_111 : decode cX7_does 111 = .ok (.invokevirtual 109, 3) := by decide +kernel
theorem dX7_does_114 : decode cX7_does 114 = .ok (.ireturn, 1) := by decide +kernel
theorem dX7_does_115 : decode cX7_does 115 = .ok (.aload_n 0, 1) := by decide +kernel
theorem dX7_does_116 : decode cX7_does 116 = .ok (.aload_n 0, 1) := by decide +kernel
theorem dX7_does_117 : decode cX7_does 117 = .ok (.getfield 32, 3) := by decide +kernel
theorem dX7_does_120 : decode cX7_does 120 = .ok (.iload_n 2, 1) := by decide +kernel
theorem dX7_does_121 : decode cX7_does 121 = .ok (.iconst 1, 1) := by decide +kernel
theorem dX7_does_122 : decode cX7_does 122 = .ok (.iadd, 1) := by decide +kernel
theorem dX7_does_123 : decode cX7_does 123 = .ok (.iaload, 1) := by decide +kernel
theorem dX7_does_124 : decode cX7_does 124 = .ok (.invokevirtual 113, 3) := by decide +kernel
theorem dX7_does_127 : decode cX7_does 127 = .ok (.ireturn, 1) := by decide +kernel
theorem dX7_does_128 : decode cX7_does 128 = .ok (.aload_n 0, 1) := by decide +kernel
theorem dX7_does_129 : decode cX7_does 129 = .ok (.aload_n 0, 1) := by decide +kernel
theorem dX7_does_130 : decode cX7_does 130 = .ok (.getfield 32, 3) := by decide +kernel
theorem dX7_does_133 : decode cX7_does 133 = .ok (.iload_n 2, 1) := by decide +kernel
theorem dX7_does_134 : decode cX7_does 134 = .ok (.iconst 1, 1) := by decide +kernel
theorem dX7_does_135 : decode cX7_does 135 = .ok (.iadd, 1) := by decide +kernel
theorem dX7_does_136 : decode cX7_does 136 = .ok (.iaload, 1) := by decide +kernel
theorem dX7_does_137 : decode cX7_does 137 = .ok (.aload_n 0, 1) := by decide +kernel
theorem dX7_does_138 : decode cX7_does 138 = .ok (.getfield 32, 3) := by decide +kernel
theorem dX7_does_141 : decode cX7_does 141 = .ok (.iload_n 2, 1) := by decide +kernel
theorem dX7_does_142 : decode cX7_does 142 = .ok (.iconst 2, 1) := by decide +kernel
theorem dX7_does_143 : decode cX7_does 143 = .ok (.iadd, 1) := by decide +kernel
theorem dX7_does_144 : decode cX7_does 144 = .ok (.iaload, 1) := by decide +kernel
theorem dX7_does_145 : decode cX7_does 145 = .ok (.invokevirtual 116, 3) := by decide +kernel
theorem dX7_does_148 : decode cX7_does 148 = .ok (.ireturn, 1) := by decide +kernel
theorem dX7_does_149 : decode cX7_does 149 = .ok (.aload_n 0, 1) := by decide +kernel
theorem dX7_does_150 : decode cX7_does 150 = .ok (.invokevirtual 119, 3) := by decide +kernel
theorem dX7_does_153 : decode cX7_does 153 = .ok (.ireturn, 1) := by decide +kernel
theorem dX7_put_0 : decode cX7_put 0 = .ok (.iconst 0, 1) := by decide +kernel
theorem dX7_put_1 : decode cX7_put 1 = .ok (.istore_n 3, 1) := by decide +kernel
theorem dX7_put_2 : decode cX7_put 2 = .ok (.lload_n 1, 1) := by decide +kernel
theorem dX7_put_3 : decode cX7_put 3 = .ok (.lstore 4, 2) := by decide +kernel
theorem dX7_put_5 : decode cX7_put 5 = .ok (.iload_n 3, 1) := by decide +kernel
theorem dX7_put_6 : decode cX7_put 6 = .ok (.bipush 8, 2) := by decide +kernel
theorem dX7_put_8 : decode cX7_put 8 = .ok (.if_icmp .ge 52, 3) := by decide +kernel
theorem dX7_put_11 : decode cX7_put 11 = .ok (.lload 4, 2) := by decide +kernel
theorem dX7_put_13 : decode cX7_put 13 = .ok (.lconst 0, 1) := by decide +kernel
theorem dX7_put_14 : decode cX7_put 14 = .ok (.lcmp, 1) := by decide +kernel
theorem dX7_put_15 : decode cX7_put 15 = .ok (.ifCond .eq 45, 3) := by decide +kernel
theorem dX7_put_18 : decode cX7_put 18 = .ok (.lload 4, 2) := by decide +kernel
theorem dX7_put_20 : decode cX7_put 20 = .ok (.ldc2_w 185, 3) := by decide +kernel
theorem dX7_put_23 : decode cX7_put 23 = .ok (.land, 1) := by decide +kernel
theorem dX7_put_24 : decode cX7_put 24 = .ok (.lstore 6, 2) := by decide +kernel
theorem dX7_put_26 : decode cX7_put 26 = .ok (.lload 6, 2) := by decide +kernel
theorem dX7_put_28 : decode cX7_put 28 = .ok (.ldc2_w 187, 3) := by decide +kernel
theorem dX7_put_31 : decode cX7_put 31 = .ok (.lcmp, 1) := by decide +kernel
theorem dX7_put_32 : decode cX7_put 32 = .ok (.ifCond .lt 12, 3) := by decide +kernel
theorem dX7_put_35 : decode cX7_put 35 = .ok (.lload 6, 2) := by decide +kernel
theorem dX7_put_37 : decode cX7_put 37 = .ok (.ldc2_w 189, 3) := by decide +kernel
theorem dX7_put_40 : decode cX7_put 40 = .ok (.lcmp, 1) := by decide +kernel
theorem dX7_put_41 : decode cX7_put 41 = .ok (.ifCond .le 6, 3) := by decide +kernel
theorem dX7_put_44 : decode cX7_put 44 = .ok (.bipush (-2), 2) := by decide +kernel
theorem dX7_put_46 : decode cX7_put 46 = .ok (.ireturn, 1) := by decide +kernel
theorem dX7_put_47 : decode cX7_put 47 = .ok (.lload 4, 2) := by decide +kernel
theorem dX7_put_49 : decode cX7_put 49 = .ok (.bipush 8, 2) := by decide +kernel
theorem dX7_put_51 : decode cX7_put 51 = .ok (.lushr, 1) := by decide +kernel
theorem dX7_put_52 : decode cX7_put 52 = .ok (.lstore 4, 2) := by decide +kernel
theorem dX7_put_54 : decode cX7_put 54 = .ok (.iinc 3 1, 3) := by decide +kernel
theorem dX7_put_57 : decode cX7_put 57 = .ok (.goto (-52), 3) := by decide +kernel
theorem dX7_put_60 : decode cX7_put 60 = .ok (.iload_n 3, 1) := by decide +kernel
theorem dX7_put_61 : decode cX7_put 61 = .ok (.ifCond .ne 6, 3) := by decide +kernel
theorem dX7_put_64 : decode cX7_put 64 = .ok (.bipush (-2), 2) := by decide +kernel
theorem dX7_put_66 : decode cX7_put 66 = .ok (.ireturn, 1) := by decide +kernel
theorem dX7_put_67 : decode cX7_put 67 = .ok (.aload_n 0, 1) := by decide +kernel
theorem dX7_put_68 : decode cX7_put 68 = .ok (.getfield 140, 3) := by decide +kernel
theorem dX7_put_71 : decode cX7_put 71 = .ok (.iload_n 3, 1) := by decide +kernel
theorem dX7_put_72 : decode cX7_put 72 = .ok (.iadd, 1) := by decide +kernel
theorem dX7_put_73 : decode cX7_put 73 = .ok (.bipush 80, 2) := by decide +kernel
theorem dX7_put_75 : decode cX7_put 75 = .ok (.if_icmp .le 6, 3) := by decide +kernel
theorem dX7_put_78 : decode cX7_put 78 = .ok (.bipush (-4), 2) := by decide +kernel
theorem dX7_put_80 : decode cX7_put 80 = .ok (.ireturn, 1) := by decide +kernel
theorem dX7_put_81 : decode cX7_put 81 = .ok (.iload_n 3, 1) := by decide +kernel
theorem dX7_put_82 : decode cX7_put 82 = .ok (.iconst 1, 1) := by decide +kernel
theorem dX7_put_83 : decode cX7_put 83 = .ok (.isub, 1) := by decide +kernel
theorem dX7_put_84 : decode cX7_put 84 = .ok (.istore 6, 2) := by decide +kernel
theorem dX7_put_86 : decode cX7_put 86 = .ok (.iload 6, 2) := by decide +kernel
theorem dX7_put_88 : decode cX7_put 88 = .ok (.ifCond .lt 41, 3) := by decide +kernel
theorem dX7_put_91 : decode cX7_put 91 = .ok (.aload_n 0, 1) := by decide +kernel
theorem dX7_put_92 : decode cX7_put 92 = .ok (.getfield 35, 3) := by decide +kernel
theorem dX7_put_95 : decode cX7_put 95 = .ok (.aload_n 0, 1) := by decide +kernel
theorem dX7_put_96 : decode cX7_put 96 = .ok (.getfield 140, 3) := by decide +kernel
theorem dX7_put_99 : decode cX7_put 99 = .ok (.lload_n 1, 1) := by decide +kernel
theorem dX7_put_100 : decode cX7_put 100 = .ok (.bipush 8, 2) := by decide +kernel
theorem dX7_put_102 : decode cX7_put 102 = .ok (.iload 6, 2) := by decide +kernel
theorem dX7_put_104 : decode cX7_put 104 = .ok (.imul, 1) := by decide +kernel
theorem dX7_put_105 : decode cX7_put 105 = .ok (.lushr, 1) := by decide +kernel
theorem dX7_put_106 : decode cX7_put 106 = .ok (.ldc2_w 185, 3) := by decide +kernel
theorem dX7_put_109 : decode cX7_put 109 = .ok (.land, 1) := by decide +kernel
theorem dX7_put_110 : decode cX7_put 110 = .ok (.l2i, 1) := by decide +kernel
theorem dX7_put_111 : decode cX7_put 111 = .ok (.i2c, 1) := by decide +kernel
theorem dX7_put_112 : decode cX7_put 112 = .ok (.castore, 1) := by decide +kernel
theorem dX7_put_113 : decode cX7_put 113 = .ok (.aload_n 0, 1) := by decide +kernel
theorem dX7_put_114 : decode cX7_put 114 = .ok (.dup, 1) := by decide +kernel
theorem dX7_put_115 : decode cX7_put 115 = .ok (.getfield 140, 3) := by decide +kernel
theorem dX7_put_118 : decode cX7_put 118 = .ok (.iconst 1, 1) := by decide +kernel
theorem dX7_put_119 : decode cX7_put 119 = .ok (.iadd, 1) := by decide +kernel
theorem dX7_put_120 : decode cX7_put 120 = .ok (.putfield 140, 3) := by decide +kernel
theorem dX7_put_123 : decode cX7_put 123 = .ok (.iinc 6 (-1), 3) := by decide +kernel
theorem dX7_put_126 : decode cX7_put 126 = .ok (.goto (-40), 3) := by decide +kernel
theorem dX7_put_129 : decode cX7_put 129 = .ok (.aload_n 0, 1) := by decide +kernel
theorem dX7_put_130 : decode cX7_put 130 = .ok (.getfield 140, 3) := by decide +kernel
theorem dX7_put_133 : decode cX7_put 133 = .ok (.ireturn, 1) := by decide +kernel
theorem dX7_wipe_0 : decode cX7_wipe 0 = .ok (.aload_n 0, 1) := by decide +kernel
theorem dX7_wipe_1 : decode cX7_wipe 1 = .ok (.getfield 140, 3) := by decide +kernel
theorem dX7_wipe_4 : decode cX7_wipe 4 = .ok (.istore_n 1, 1) := by decide +kernel
theorem dX7_wipe_5 : decode cX7_wipe 5 = .ok (.aload_n 0, 1) := by decide +kernel
theorem dX7_wipe_6 : decode cX7_wipe 6 = .ok (.iconst 0, 1) := by decide +kernel
theorem dX7_wipe_7 : decode cX7_wipe 7 = .ok (.putfield 140, 3) := by decide +kernel
theorem dX7_wipe_10 : decode cX7_wipe 10 = .ok (.iload_n 1, 1) := by decide +kernel
theorem dX7_wipe_11 : decode cX7_wipe 11 = .ok (.ireturn, 1) := by decide +kernel
theorem dX7_fault_0 : decode cX7_fault 0 = .ok (.aload_n 0, 1) := by decide +kernel
theorem dX7_fault_1 : decode cX7_fault 1 = .ok (.invokevirtual 191, 3) := by decide +kernel
theorem dX7_fault_4 : decode cX7_fault 4 = .ok (.istore_n 1, 1) := by decide +kernel
theorem dX7_fault_5 : decode cX7_fault 5 = .ok (.iload_n 1, 1) := by decide +kernel
theorem dX7_fault_6 : decode cX7_fault 6 = .ok (.ifCond .ge 8, 3) := by decide +kernel
theorem dX7_fault_9 : decode cX7_fault 9 = .ok (.bipush (-6), 2) := by decide +kernel
theorem dX7_fault_11 : decode cX7_fault 11 = .ok (.goto 4, 3) := by decide +kernel
theorem dX7_fault_14 : decode cX7_fault 14 = .ok (.iload_n 1, 1) := by decide +kernel
theorem dX7_fault_15 : decode cX7_fault 15 = .ok (.ireturn, 1) := by decide +kernel
theorem dX7_carryOut_0 : decode cX7_carryOut 0 = .ok (.aload_n 0, 1) := by decide +kernel
theorem dX7_carryOut_1 : decode cX7_carryOut 1 = .ok (.invokevirtual 191, 3) := by decide +kernel
theorem dX7_carryOut_4 : decode cX7_carryOut 4 = .ok (.ifCond .lt 6, 3) := by decide +kernel
theorem dX7_carryOut_7 : decode cX7_carryOut 7 = .ok (.bipush (-3), 2) := by decide +kernel
theorem dX7_carryOut_9 : decode cX7_carryOut 9 = .ok (.ireturn, 1) := by decide +kernel
theorem dX7_carryOut_10 : decode cX7_carryOut 10 = .ok (.aload_n 0, 1) := by decide +kernel
theorem dX7_carryOut_11 : decode cX7_carryOut 11 = .ok (.invokevirtual 100, 3) := by decide +kernel
theorem dX7_carryOut_14 : decode cX7_carryOut 14 = .ok (.iconst 0, 1) := by decide +kernel
theorem dX7_carryOut_15 : decode cX7_carryOut 15 = .ok (.istore_n 1, 1) := by decide +kernel
theorem dX7_carryOut_16 : decode cX7_carryOut 16 = .ok (.iconst 1, 1) := by decide +kernel
theorem dX7_carryOut_17 : decode cX7_carryOut 17 = .ok (.istore_n 2, 1) := by decide +kernel
theorem dX7_carryOut_18 : decode cX7_carryOut 18 = .ok (.iload_n 2, 1) := by decide +kernel
theorem dX7_carryOut_19 : decode cX7_carryOut 19 = .ok (.ifCond .eq 48, 3) := by decide +kernel
theorem dX7_carryOut_22 : decode cX7_carryOut 22 = .ok (.iload_n 1, 1) := by decide +kernel
theorem dX7_carryOut_23 : decode cX7_carryOut 23 = .ok (.aload_n 0, 1) := by decide +kernel
theorem dX7_carryOut_24 : decode cX7_carryOut 24 = .ok (.getfield 162, 3) := by decide +kernel
theorem dX7_carryOut_27 : decode cX7_carryOut 27 = .ok (.if_icmp .ge 40, 3) := by decide +kernel
theorem dX7_carryOut_30 : decode cX7_carryOut 30 = .ok (.aload_n 0, 1) := by decide +kernel
theorem dX7_carryOut_31 : decode cX7_carryOut 31 = .ok (.iload_n 1, 1) := by decide +kernel
theorem dX7_carryOut_32 : decode cX7_carryOut 32 = .ok (.invokevirtual 194, 3) := by decide +kernel
theorem dX7_carryOut_35 : decode cX7_carryOut 35 = .ok (.istore_n 3, 1) := by decide +kernel
theorem dX7_carryOut_36 : decode cX7_carryOut 36 = .ok (.iload_n 3, 1) := by decide +kernel
theorem dX7_carryOut_37 : decode cX7_carryOut 37 = .ok (.ifCond .ge 9, 3) := by decide +kernel
theorem dX7_carryOut_40 : decode cX7_carryOut 40 = .ok (.iload_n 3, 1) := by decide +kernel
theorem dX7_carryOut_41 : decode cX7_carryOut 41 = .ok (.bipush (-6), 2) := by decide +kernel
theorem dX7_carryOut_43 : decode cX7_carryOut 43 = .ok (.if_icmp .ne 7, 3) := by decide +kernel
theorem dX7_carryOut_46 : decode cX7_carryOut 46 = .ok (.iconst 1, 1) := by decide +kernel
theorem dX7_carryOut_47 : decode cX7_carryOut 47 = .ok (.goto 4, 3) := by decide +kernel
theorem dX7_carryOut_50 : decode cX7_carryOut 50 = .ok (.iconst 0, 1) := by decide +kernel
theorem dX7_carryOut_51 : decode cX7_carryOut 51 = .ok (.istore_n 2, 1) := by decide +kernel
theorem dX7_carryOut_52 : decode cX7_carryOut 52 = .ok (.iload_n 1, 1) := by decide +kernel
theorem dX7_carryOut_53 : decode cX7_carryOut 53 = .ok (.iload_n 2, 1) := by decide +kernel
theorem dX7_carryOut_54 : decode cX7_carryOut 54 = .ok (.ifCond .eq 7, 3) := by decide +kernel
theorem dX7_carryOut_57 : decode cX7_carryOut 57 = .ok (.iconst 1, 1) := by decide +kernel
theorem dX7_carryOut_58 : decode cX7_carryOut 58 = .ok (.goto 4, 3) := by decide +kernel
theorem dX7_carryOut_61 : decode cX7_carryOut 61 = .ok (.iconst 0, 1) := by decide +kernel
theorem dX7_carryOut_62 : decode cX7_carryOut 62 = .ok (.iadd, 1) := by decide +kernel
theorem dX7_carryOut_63 : decode cX7_carryOut 63 = .ok (.istore_n 1, 1) := by decide +kernel
theorem dX7_carryOut_64 : decode cX7_carryOut 64 = .ok (.goto (-46), 3) := by decide +kernel
theorem dX7_carryOut_67 : decode cX7_carryOut 67 = .ok (.aload_n 0, 1) := by decide +kernel
theorem dX7_carryOut_68 : decode cX7_carryOut 68 = .ok (.iconst 0, 1) := by decide +kernel
theorem dX7_carryOut_69 : decode cX7_carryOut 69 = .ok (.putfield 140, 3) := by decide +kernel
theorem dX7_carryOut_72 : decode cX7_carryOut 72 = .ok (.aload_n 0, 1) := by decide +kernel
theorem dX7_carryOut_73 : decode cX7_carryOut 73 = .ok (.iload_n 1, 1) := by decide +kernel
theorem dX7_carryOut_74 : decode cX7_carryOut 74 = .ok (.invokevirtual 103, 3) := by decide +kernel
theorem dX7_carryOut_77 : decode cX7_carryOut 77 = .ok (.ireturn, 1) := by decide +kernel
theorem dX7_undo_0 : decode cX7_undo 0 = .ok (.aload_n 0, 1) := by decide +kernel
theorem dX7_undo_1 : decode cX7_undo 1 = .ok (.getfield 43, 3) := by decide +kernel
theorem dX7_undo_4 : decode cX7_undo 4 = .ok (.ifCond .ne 6, 3) := by decide +kernel
theorem dX7_undo_7 : decode cX7_undo 7 = .ok (.bipush (-5), 2) := by decide +kernel
theorem dX7_undo_9 : decode cX7_undo 9 = .ok (.ireturn, 1) := by decide +kernel
theorem dX7_undo_10 : decode cX7_undo 10 = .ok (.aload_n 0, 1) := by decide +kernel
theorem dX7_undo_11 : decode cX7_undo 11 = .ok (.dup, 1) := by decide +kernel
theorem dX7_undo_12 : decode cX7_undo 12 = .ok (.getfield 43, 3) := by decide +kernel
theorem dX7_undo_15 : decode cX7_undo 15 = .ok (.iconst 1, 1) := by decide +kernel
theorem dX7_undo_16 : decode cX7_undo 16 = .ok (.isub, 1) := by decide +kernel
theorem dX7_undo_17 : decode cX7_undo 17 = .ok (.putfield 43, 3) := by decide +kernel
theorem dX7_undo_20 : decode cX7_undo 20 = .ok (.iconst 0, 1) := by decide +kernel
theorem dX7_undo_21 : decode cX7_undo 21 = .ok (.istore_n 1, 1) := by decide +kernel
theorem dX7_undo_22 : decode cX7_undo 22 = .ok (.iload_n 1, 1) := by decide +kernel
theorem dX7_undo_23 : decode cX7_undo 23 = .ok (.sipush 937, 3) := by decide +kernel
theorem dX7_undo_26 : decode cX7_undo 26 = .ok (.if_icmp .ge 30, 3) := by decide +kernel
theorem dX7_undo_29 : decode cX7_undo 29 = .ok (.aload_n 0, 1) := by decide +kernel
theorem dX7_undo_30 : decode cX7_undo 30 = .ok (.getfield 7, 3) := by decide +kernel
theorem dX7_undo_33 : decode cX7_undo 33 = .ok (.iload_n 1, 1) := by decide +kernel
theorem dX7_undo_34 : decode cX7_undo 34 = .ok (.aload_n 0, 1) := by decide +kernel
theorem dX7_undo_35 : decode cX7_undo 35 = .ok (.getfield 19, 3) := by decide +kernel
theorem dX7_undo_38 : decode cX7_undo 38 = .ok (.sipush 937, 3) := by decide +kernel
theorem dX7_undo_41 : decode cX7_undo 41 = .ok (.aload_n 0, 1) := by decide +kernel
theorem dX7_undo_42 : decode cX7_undo 42 = .ok (.getfield 43, 3) := by decide +kernel
theorem dX7_undo_45 : decode cX7_undo 45 = .ok (.imul, 1) := by decide +kernel
theorem dX7_undo_46 : decode cX7_undo 46 = .ok (.iload_n 1, 1) := by decide +kernel
theorem dX7_undo_47 : decode cX7_undo 47 = .ok (.iadd, 1) := by decide +kernel
theorem dX7_undo_48 : decode cX7_undo 48 = .ok (.iaload, 1) := by decide +kernel
theorem dX7_undo_49 : decode cX7_undo 49 = .ok (.iastore, 1) := by decide +kernel
theorem dX7_undo_50 : decode cX7_undo 50 = .ok (.iinc 1 1, 3) := by decide +kernel
theorem dX7_undo_53 : decode cX7_undo 53 = .ok (.goto (-31), 3) := by decide +kernel
theorem dX7_undo_56 : decode cX7_undo 56 = .ok (.aload_n 0, 1) := by decide +kernel
theorem dX7_undo_57 : decode cX7_undo 57 = .ok (.getfield 43, 3) := by decide +kernel
theorem dX7_undo_60 : decode cX7_undo 60 = .ok (.ireturn, 1) := by decide +kernel
theorem dX7_save_0 : decode cX7_save 0 = .ok (.iload_n 1, 1) := by decide +kernel
theorem dX7_save_1 : decode cX7_save 1 = .ok (.iconst 0, 1) := by decide +kernel
theorem dX7_save_2 : decode cX7_save 2 = .ok (.iconst 1, 1) := by decide +kernel
theorem dX7_save_3 : decode cX7_save 3 = .ok (.invokestatic 39, 3) := by decide +kernel
theorem dX7_save_6 : decode cX7_save 6 = .ok (.ifCond .ne 6, 3) := by decide +kernel
theorem dX7_save_9 : decode cX7_save 9 = .ok (.bipush (-2), 2) := by decide +kernel
theorem dX7_save_11 : decode cX7_save 11 = .ok (.ireturn, 1) := by decide +kernel
theorem dX7_save_12 : decode cX7_save 12 = .ok (.iconst 0, 1) := by decide +kernel
theorem dX7_save_13 : decode cX7_save 13 = .ok (.istore_n 2, 1) := by decide +kernel
theorem dX7_save_14 : decode cX7_save 14 = .ok (.iload_n 2, 1) := by decide +kernel
theorem dX7_save_15 : decode cX7_save 15 = .ok (.sipush 937, 3) := by decide +kernel
theorem dX7_save_18 : decode cX7_save 18 = .ok (.if_icmp .ge 27, 3) := by decide +kernel
theorem dX7_save_21 : decode cX7_save 21 = .ok (.aload_n 0, 1) := by decide +kernel
theorem dX7_save_22 : decode cX7_save 22 = .ok (.getfield 22, 3) := by decide +kernel
theorem dX7_save_25 : decode cX7_save 25 = .ok (.sipush 937, 3) := by decide +kernel
theorem dX7_save_28 : decode cX7_save 28 = .ok (.iload_n 1, 1) := by decide +kernel
theorem dX7_save_29 : decode cX7_save 29 = .ok (.imul, 1) := by decide +kernel
theorem dX7_save_30 : decode cX7_save 30 = .ok (.iload_n 2, 1) := by decide +kernel
theorem dX7_save_31 : decode cX7_save 31 = .ok (.iadd, 1) := by decide +kernel
theorem dX7_save_32 : decode cX7_save 32 = .ok (.aload_n 0, 1) := by decide +kernel
theorem dX7_save_33 : decode cX7_save 33 = .ok (.getfield 7, 3) := by decide +kernel
theorem dX7_save_36 : decode cX7_save 36 = .ok (.iload_n 2, 1) := by decide +kernel
theorem dX7_save_37 : decode cX7_save 37 = .ok (.iaload, 1) := by decide +kernel
theorem dX7_save_38 : decode cX7_save 38 = .ok (.iastore, 1) := by decide +kernel
theorem dX7_save_39 : decode cX7_save 39 = .ok (.iinc 2 1, 3) := by decide +kernel
theorem dX7_save_42 : decode cX7_save 42 = .ok (.goto (-28), 3) := by decide +kernel
theorem dX7_save_45 : decode cX7_save 45 = .ok (.aload_n 0, 1) := by decide +kernel
theorem dX7_save_46 : decode cX7_save 46 = .ok (.getfield 25, 3) := by decide +kernel
theorem dX7_save_49 : decode cX7_save 49 = .ok (.iload_n 1, 1) := by decide +kernel
theorem dX7_save_50 : decode cX7_save 50 = .ok (.iconst 1, 1) := by decide +kernel
theorem dX7_save_51 : decode cX7_save 51 = .ok (.bastore, 1) := by decide +kernel
theorem dX7_save_52 : decode cX7_save 52 = .ok (.aload_n 0, 1) := by decide +kernel
theorem dX7_save_53 : decode cX7_save 53 = .ok (.getfield 7, 3) := by decide +kernel
theorem dX7_save_56 : decode cX7_save 56 = .ok (.iconst 5, 1) := by decide +kernel
theorem dX7_save_57 : decode cX7_save 57 = .ok (.iaload, 1) := by decide +kernel
theorem dX7_save_58 : decode cX7_save 58 = .ok (.ireturn, 1) := by decide +kernel
theorem dX7_restore_0 : decode cX7_restore 0 = .ok (.iload_n 1, 1) := by decide +kernel
theorem dX7_restore_1 : decode cX7_restore 1 = .ok (.iconst 0, 1) := by decide +kernel
theorem dX7_restore_2 : decode cX7_restore 2 = .ok (.iconst 1, 1) := by decide +kernel
theorem dX7_restore_3 : decode cX7_restore 3 = .ok (.invokestatic 39, 3) := by decide +kernel
theorem dX7_restore_6 : decode cX7_restore 6 = .ok (.ifCond .ne 6, 3) := by decide +kernel
theorem dX7_restore_9 : decode cX7_restore 9 = .ok (.bipush (-2), 2) := by decide +kernel
theorem dX7_restore_11 : decode cX7_restore 11 = .ok (.ireturn, 1) := by decide +kernel
theorem dX7_restore_12 : decode cX7_restore 12 = .ok (.aload_n 0, 1) := by decide +kernel
theorem dX7_restore_13 : decode cX7_restore 13 = .ok (.getfield 25, 3) := by decide +kernel
theorem dX7_restore_16 : decode cX7_restore 16 = .ok (.iload_n 1, 1) := by decide +kernel
theorem dX7_restore_17 : decode cX7_restore 17 = .ok (.baload, 1) := by decide +kernel
theorem dX7_restore_18 : decode cX7_restore 18 = .ok (.ifCond .ne 6, 3) := by decide +kernel
theorem dX7_restore_21 : decode cX7_restore 21 = .ok (.bipush (-5), 2) := by decide +kernel
theorem dX7_restore_23 : decode cX7_restore 23 = .ok (.ireturn, 1) := by decide +kernel
theorem dX7_restore_24 : decode cX7_restore 24 = .ok (.aload_n 0, 1) := by decide +kernel
theorem dX7_restore_25 : decode cX7_restore 25 = .ok (.invokevirtual 100, 3) := by decide +kernel
theorem dX7_restore_28 : decode cX7_restore 28 = .ok (.iconst 0, 1) := by decide +kernel
theorem dX7_restore_29 : decode cX7_restore 29 = .ok (.istore_n 2, 1) := by decide +kernel
theorem dX7_restore_30 : decode cX7_restore 30 = .ok (.iload_n 2, 1) := by decide +kernel
theorem dX7_restore_31 : decode cX7_restore 31 = .ok (.sipush 937, 3) := by decide +kernel
theorem dX7_restore_34 : decode cX7_restore 34 = .ok (.if_icmp .ge 27, 3) := by decide +kernel
theorem dX7_restore_37 : decode cX7_restore 37 = .ok (.aload_n 0, 1) := by decide +kernel
theorem dX7_restore_38 : decode cX7_restore 38 = .ok (.getfield 7, 3) := by decide +kernel
theorem dX7_restore_41 : decode cX7_restore 41 = .ok (.iload_n 2, 1) := by decide +kernel
theorem dX7_restore_42 : decode cX7_restore 42 = .ok (.aload_n 0, 1) := by decide +kernel
theorem dX7_restore_43 : decode cX7_restore 43 = .ok (.getfield 22, 3) := by decide +kernel
theorem dX7_restore_46 : decode cX7_restore 46 = .ok (.sipush 937, 3) := by decide +kernel
theorem dX7_restore_49 : decode cX7_restore 49 = .ok (.iload_n 1, 1) := by decide +kernel
theorem dX7_restore_50 : decode cX7_restore 50 = .ok (.imul, 1) := by decide +kernel
theorem dX7_restore_51 : decode cX7_restore 51 = .ok (.iload_n 2, 1) := by decide +kernel
theorem dX7_restore_52 : decode cX7_restore 52 = .ok (.iadd, 1) := by decide +kernel
theorem dX7_restore_53 : decode cX7_restore 53 = .ok (.iaload, 1) := by decide +kernel
theorem dX7_restore_54 : decode cX7_restore 54 = .ok (.iastore, 1) := by decide +kernel
theorem dX7_restore_55 : decode cX7_restore 55 = .ok (.iinc 2 1, 3) := by decide +kernel
theorem dX7_restore_58 : decode cX7_restore 58 = .ok (.goto (-28), 3) := by decide +kernel
theorem dX7_restore_61 : decode cX7_restore 61 = .ok (.aload_n 0, 1) := by decide +kernel
theorem dX7_restore_62 : decode cX7_restore 62 = .ok (.aload_n 0, 1) := by decide +kernel
theorem dX7_restore_63 : decode cX7_restore 63 = .ok (.getfield 7, 3) := by decide +kernel
theorem dX7_restore_66 : decode cX7_restore 66 = .ok (.iconst 5, 1) := by decide +kernel
theorem dX7_restore_67 : decode cX7_restore 67 = .ok (.iaload, 1) := by decide +kernel
theorem dX7_restore_68 : decode cX7_restore 68 = .ok (.invokevirtual 103, 3) := by decide +kernel
theorem dX7_restore_71 : decode cX7_restore 71 = .ok (.ireturn, 1) := by decide +kernel
theorem dJ6_bitCount_0f7a4_0 : decode cJ6_bitCount_0f7a4 0 = .ok (.iload_n 0, 1) := by decide +kernel
theorem dJ6_bitCount_0f7a4_1 : decode cJ6_bitCount_0f7a4 1 = .ok (.iload_n 0, 1) := by decide +kernel
theorem dJ6_bitCount_0f7a4_2 : decode cJ6_bitCount_0f7a4 2 = .ok (.iconst 1, 1) := by decide +kernel
theorem dJ6_bitCount_0f7a4_3 : decode cJ6_bitCount_0f7a4 3 = .ok (.iushr, 1) := by decide +kernel
theorem dJ6_bitCount_0f7a4_4 : decode cJ6_bitCount_0f7a4 4 = .ok (.ldc_w 265, 3) := by decide +kernel
theorem dJ6_bitCount_0f7a4_7 : decode cJ6_bitCount_0f7a4 7 = .ok (.iand, 1) := by decide +kernel
theorem dJ6_bitCount_0f7a4_8 : decode cJ6_bitCount_0f7a4 8 = .ok (.isub, 1) := by decide +kernel
theorem dJ6_bitCount_0f7a4_9 : decode cJ6_bitCount_0f7a4 9 = .ok (.istore_n 0, 1) := by decide +kernel
theorem dJ6_bitCount_0f7a4_10 : decode cJ6_bitCount_0f7a4 10 = .ok (.iload_n 0, 1) := by decide +kernel
theorem dJ6_bitCount_0f7a4_11 : decode cJ6_bitCount_0f7a4 11 = .ok (.ldc_w 266, 3) := by decide +kernel
theorem dJ6_bitCount_0f7a4_14 : decode cJ6_bitCount_0f7a4 14 = .ok (.iand, 1) := by decide +kernel
theorem dJ6_bitCount_0f7a4_15 : decode cJ6_bitCount_0f7a4 15 = .ok (.iload_n 0, 1) := by decide +kernel
theorem dJ6_bitCount_0f7a4_16 : decode cJ6_bitCount_0f7a4 16 = .ok (.iconst 2, 1) := by decide +kernel
theorem dJ6_bitCount_0f7a4_17 : decode cJ6_bitCount_0f7a4 17 = .ok (.iushr, 1) := by decide +kernel
theorem dJ6_bitCount_0f7a4_18 : decode cJ6_bitCount_0f7a4 18 = .ok (.ldc_w 266, 3) := by decide +kernel
theorem dJ6_bitCount_0f7a4_21 : decode cJ6_bitCount_0f7a4 21 = .ok (.iand, 1) := by decide +kernel
theorem dJ6_bitCount_0f7a4_22 : decode cJ6_bitCount_0f7a4 22 = .ok (.iadd, 1) := by decide +kernel
theorem dJ6_bitCount_0f7a4_23 : decode cJ6_bitCount_0f7a4 23 = .ok (.istore_n 0, 1) := by decide +kernel
theorem dJ6_bitCount_0f7a4_24 : decode cJ6_bitCount_0f7a4 24 = .ok (.iload_n 0, 1) := by decide +kernel
theorem dJ6_bitCount_0f7a4_25 : decode cJ6_bitCount_0f7a4 25 = .ok (.iload_n 0, 1) := by decide +kernel
theorem dJ6_bitCount_0f7a4_26 : decode cJ6_bitCount_0f7a4 26 = .ok (.iconst 4, 1) := by decide +kernel
theorem dJ6_bitCount_0f7a4_27 : decode cJ6_bitCount_0f7a4 27 = .ok (.iushr, 1) := by decide +kernel
theorem dJ6_bitCount_0f7a4_28 : decode cJ6_bitCount_0f7a4 28 = .ok (.iadd, 1) := by decide +kernel
theorem dJ6_bitCount_0f7a4_29 : decode cJ6_bitCount_0f7a4 29 = .ok (.ldc_w 267, 3) := by decide +kernel
theorem dJ6_bitCount_0f7a4_32 : decode cJ6_bitCount_0f7a4 32 = .ok (.iand, 1) := by decide +kernel
theorem dJ6_bitCount_0f7a4_33 : decode cJ6_bitCount_0f7a4 33 = .ok (.istore_n 0, 1) := by decide +kernel
theorem dJ6_bitCount_0f7a4_34 : decode cJ6_bitCount_0f7a4 34 = .ok (.iload_n 0, 1) := by decide +kernel
theorem dJ6_bitCount_0f7a4_35 : decode cJ6_bitCount_0f7a4 35 = .ok (.iload_n 0, 1) := by decide +kernel
theorem dJ6_bitCount_0f7a4_36 : decode cJ6_bitCount_0f7a4 36 = .ok (.bipush 8, 2) := by decide +kernel
theorem dJ6_bitCount_0f7a4_38 : decode cJ6_bitCount_0f7a4 38 = .ok (.iushr, 1) := by decide +kernel
theorem dJ6_bitCount_0f7a4_39 : decode cJ6_bitCount_0f7a4 39 = .ok (.iadd, 1) := by decide +kernel
theorem dJ6_bitCount_0f7a4_40 : decode cJ6_bitCount_0f7a4 40 = .ok (.istore_n 0, 1) := by decide +kernel
theorem dJ6_bitCount_0f7a4_41 : decode cJ6_bitCount_0f7a4 41 = .ok (.iload_n 0, 1) := by decide +kernel
theorem dJ6_bitCount_0f7a4_42 : decode cJ6_bitCount_0f7a4 42 = .ok (.iload_n 0, 1) := by decide +kernel
theorem dJ6_bitCount_0f7a4_43 : decode cJ6_bitCount_0f7a4 43 = .ok (.bipush 16, 2) := by decide +kernel
theorem dJ6_bitCount_0f7a4_45 : decode cJ6_bitCount_0f7a4 45 = .ok (.iushr, 1) := by decide +kernel
theorem dJ6_bitCount_0f7a4_46 : decode cJ6_bitCount_0f7a4 46 = .ok (.iadd, 1) := by decide +kernel
theorem dJ6_bitCount_0f7a4_47 : decode cJ6_bitCount_0f7a4 47 = .ok (.istore_n 0, 1) := by decide +kernel
theorem dJ6_bitCount_0f7a4_48 : decode cJ6_bitCount_0f7a4 48 = .ok (.iload_n 0, 1) := by decide +kernel
theorem dJ6_bitCount_0f7a4_49 : decode cJ6_bitCount_0f7a4 49 = .ok (.bipush 63, 2) := by decide +kernel
theorem dJ6_bitCount_0f7a4_51 : decode cJ6_bitCount_0f7a4 51 = .ok (.iand, 1) := by decide +kernel
theorem dJ6_bitCount_0f7a4_52 : decode cJ6_bitCount_0f7a4 52 = .ok (.ireturn, 1) := by decide +kernel
theorem dJ9_max_7cf53_0 : decode cJ9_max_7cf53 0 = .ok (.iload_n 0, 1) := by decide +kernel
theorem dJ9_max_7cf53_1 : decode cJ9_max_7cf53 1 = .ok (.iload_n 1, 1) := by decide +kernel
theorem dJ9_max_7cf53_2 : decode cJ9_max_7cf53 2 = .ok (.if_icmp .lt 7, 3) := by decide +kernel
theorem dJ9_max_7cf53_5 : decode cJ9_max_7cf53 5 = .ok (.iload_n 0, 1) := by decide +kernel
theorem dJ9_max_7cf53_6 : decode cJ9_max_7cf53 6 = .ok (.goto 4, 3) := by decide +kernel
theorem dJ9_max_7cf53_9 : decode cJ9_max_7cf53 9 = .ok (.iload_n 1, 1) := by decide +kernel
theorem dJ9_max_7cf53_10 : decode cJ9_max_7cf53 10 = .ok (.ireturn, 1) := by decide +kernel
theorem dJ9_min_7cf53_0 : decode cJ9_min_7cf53 0 = .ok (.iload_n 0, 1) := by decide +kernel
theorem dJ9_min_7cf53_1 : decode cJ9_min_7cf53 1 = .ok (.iload_n 1, 1) := by decide +kernel
theorem dJ9_min_7cf53_2 : decode cJ9_min_7cf53 2 = .ok (.if_icmp .gt 7, 3) := by decide +kernel
theorem dJ9_min_7cf53_5 : decode cJ9_min_7cf53 5 = .ok (.iload_n 0, 1) := by decide +kernel
theorem dJ9_min_7cf53_6 : decode cJ9_min_7cf53 6 = .ok (.goto 4, 3) := by decide +kernel
theorem dJ9_min_7cf53_9 : decode cJ9_min_7cf53 9 = .ok (.iload_n 1, 1) := by decide +kernel
theorem dJ9_min_7cf53_10 : decode cJ9_min_7cf53 10 = .ok (.ireturn, 1) := by decide +kernel
theorem dL_law_0 : decode cL_law 0 = .ok (.new 7, 3) := by decide +kernel
theorem dL_law_3 : decode cL_law 3 = .ok (.dup, 1) := by decide +kernel
theorem dL_law_4 : decode cL_law 4 = .ok (.invokespecial 9, 3) := by decide +kernel
theorem dL_law_7 : decode cL_law 7 = .ok (.astore_n 1, 1) := by decide +kernel
theorem dL_law_8 : decode cL_law 8 = .ok (.new 10, 3) := by decide +kernel
theorem dL_law_11 : decode cL_law 11 = .ok (.dup, 1) := by decide +kernel
theorem dL_law_12 : decode cL_law 12 = .ok (.invokespecial 12, 3) := by decide +kernel
theorem dL_law_15 : decode cL_law 15 = .ok (.astore_n 2, 1) := by decide +kernel
theorem dL_law_16 : decode cL_law 16 = .ok (.iconst 0, 1) := by decide +kernel
theorem dL_law_17 : decode cL_law 17 = .ok (.istore_n 3, 1) := by decide +kernel
theorem dL_law_18 : decode cL_law 18 = .ok (.iload_n 3, 1) := by decide +kernel
theorem dL_law_19 : decode cL_law 19 = .ok (.aload_n 0, 1) := by decide +kernel
theorem dL_law_20 : decode cL_law 20 = .ok (.arraylength, 1) := by decide +kernel
theorem dL_law_21 : decode cL_law 21 = .ok (.iconst 4, 1) := by decide +kernel
theorem dL_law_22 : decode cL_law 22 = .ok (.isub, 1) := by decide +kernel
theorem dL_law_23 : decode cL_law 23 = .ok (.if_icmp .gt 893, 3) := by decide +kernel
theorem dL_law_26 : decode cL_law 26 = .ok (.aload_n 0, 1) := by decide +kernel
theorem dL_law_27 : decode cL_law 27 = .ok (.iload_n 3, 1) := by decide +kernel
theorem dL_law_28 : decode cL_law 28 = .ok (.iaload, 1) := by decide +kernel
theorem dL_law_29 : decode cL_law 29 = .ok (.bipush 31, 2) := by decide +kernel
theorem dL_law_31 : decode cL_law 31 = .ok (.iand, 1) := by decide +kernel
theorem dL_law_32 : decode cL_law 32 = .ok (.tableswitch 878 0 25 #[120, 153, 166, 209, 232, 265, 278, 311, 344, 377, 420, 463, 496, 539, 572, 605, 628, 661, 694, 727, 780, 793, 806, 819, 832, 855], 120) := by decide +kernel
theorem dL_law_152 : decode cL_law 152 = .ok (.aload_n 1, 1) := by decide +kernel
theorem dL_law_153 : decode cL_law 153 = .ok (.aload_n 0, 1) := by decide +kernel
theorem dL_law_154 : decode cL_law 154 = .ok (.iload_n 3, 1) := by decide +kernel
theorem dL_law_155 : decode cL_law 155 = .ok (.iconst 1, 1) := by decide +kernel
theorem dL_law_156 : decode cL_law 156 = .ok (.iadd, 1) := by decide +kernel
theorem dL_law_157 : decode cL_law 157 = .ok (.iaload, 1) := by decide +kernel
theorem dL_law_158 : decode cL_law 158 = .ok (.aload_n 0, 1) := by decide +kernel
theorem dL_law_159 : decode cL_law 159 = .ok (.iload_n 3, 1) := by decide +kernel
theorem dL_law_160 : decode cL_law 160 = .ok (.iconst 2, 1) := by decide +kernel
theorem dL_law_161 : decode cL_law 161 = .ok (.iadd, 1) := by decide +kernel
theorem dL_law_162 : decode cL_law 162 = .ok (.iaload, 1) := by decide +kernel
theorem dL_law_163 : decode cL_law 163 = .ok (.invokevirtual 13, 3) := by decide +kernel
theorem dL_law_166 : decode cL_law 166 = .ok (.aload_n 2, 1) := by decide +kernel
theorem dL_law_167 : decode cL_law 167 = .ok (.aload_n 0, 1) := by decide +kernel
theorem dL_law_168 : decode cL_law 168 = .ok (.iload_n 3, 1) := by decide +kernel
theorem dL_law_169 : decode cL_law 169 = .ok (.iconst 1, 1) := by decide +kernel
theorem dL_law_170 : decode cL_law 170 = .ok (.iadd, 1) := by decide +kernel
theorem dL_law_171 : decode cL_law 171 = .ok (.iaload, 1) := by decide +kernel
theorem dL_law_172 : decode cL_law 172 = .ok (.aload_n 0, 1) := by decide +kernel
theorem dL_law_173 : decode cL_law 173 = .ok (.iload_n 3, 1) := by decide +kernel
theorem dL_law_174 : decode cL_law 174 = .ok (.iconst 2, 1) := by decide +kernel
theorem dL_law_175 : decode cL_law 175 = .ok (.iadd, 1) := by decide +kernel
theorem dL_law_176 : decode cL_law 176 = .ok (.iaload, 1) := by decide +kernel
theorem dL_law_177 : decode cL_law 177 = .ok (.invokevirtual 17, 3) := by decide +kernel
theorem dL_law_180 : decode cL_law 180 = .ok (.if_icmp .eq 730, 3) := by decide +kernel
theorem dL_law_183 : decode cL_law 183 = .ok (.iconst 0, 1) := by decide +kernel
theorem dL_law_184 : decode cL_law 184 = .ok (.ireturn, 1) := by decide +kernel
theorem dL_law_185 : decode cL_law 185 = .ok (.aload_n 1, 1) := by decide +kernel
theorem dL_law_186 : decode cL_law 186 = .ok (.invokevirtual 18, 3) := by decide +kernel
theorem dL_law_189 : decode cL_law 189 = .ok (.aload_n 2, 1) := by decide +kernel
theorem dL_law_190 : decode cL_law 190 = .ok (.invokevirtual 22, 3) := by decide +kernel
theorem dL_law_193 : decode cL_law 193 = .ok (.if_icmp .eq 717, 3) := by decide +kernel
theorem dL_law_196 : decode cL_law 196 = .ok (.iconst 0, 1) := by decide +kernel
theorem dL_law_197 : decode cL_law 197 = .ok (.ireturn, 1) := by decide +kernel
theorem dL_law_198 : decode cL_law 198 = .ok (.aload_n 1, 1) := by decide +kernel
theorem dL_law_199 : decode cL_law 199 = .ok (.aload_n 0, 1) := by decide +kernel
theorem dL_law_200 : decode cL_law 200 = .ok (.iload_n 3, 1) := by decide +kernel
theorem dL_law_201 : decode cL_law 201 = .ok (.iconst 1, 1) := by decide +kernel
theorem dL_law_202 : decode cL_law 202 = .ok (.iadd, 1) := by decide +kernel
theorem dL_law_203 : decode cL_law 203 = .ok (.iaload, 1) := by decide +kernel
theorem dL_law_204 : decode cL_law 204 = .ok (.aload_n 0, 1) := by decide +kernel
theorem dL_law_205 : decode cL_law 205 = .ok (.iload_n 3, 1) := by decide +kernel
theorem dL_law_206 : decode cL_law 206 = .ok (.iconst 2, 1) := by decide +kernel
theorem dL_law_207 : decode cL_law 207 = .ok (.iadd, 1) := by decide +kernel
theorem dL_law_208 : decode cL_law 208 = .ok (.iaload, 1) := by decide +kernel
theorem dL_law_209 : decode cL_law 209 = .ok (.aload_n 0, 1) := by decide +kernel
theorem dL_law_210 : decode cL_law 210 = .ok (.iload_n 3, 1) := by decide +kernel
theorem dL_law_211 : decode cL_law 211 = .ok (.iconst 3, 1) := by decide +kernel
theorem dL_law_212 : decode cL_law 212 = .ok (.iadd, 1) := by decide +kernel
theorem dL_law_213 : decode cL_law 213 = .ok (.iaload, 1) := by decide +kernel
theorem dL_law_214 : decode cL_law 214 = .ok (.invokevirtual 23, 3) := by decide +kernel
theorem dL_law_217 : decode cL_law 217 = .ok (.aload_n 2, 1) := by decide +kernel
theorem dL_law_218 : decode cL_law 218 = .ok (.aload_n 0, 1) := by decide +kernel
theorem dL_law_219 : decode cL_law 219 = .ok (.iload_n 3, 1) := by decide +kernel
theorem dL_law_220 : decode cL_law 220 = .ok (.iconst 1, 1) := by decide +kernel
theorem dL_law_221 : decode cL_law 221 = .ok (.iadd, 1) := by decide +kernel
theorem dL_law_222 : decode cL_law 222 = .ok (.iaload, 1) := by decide +kernel
theorem dL_law_223 : decode cL_law 223 = .ok (.aload_n 0, 1) := by decide +kernel
theorem dL_law_224 : decode cL_law 224 = .ok (.iload_n 3, 1) := by decide +kernel
theorem dL_law_225 : decode cL_law 225 = .ok (.iconst 2, 1) := by decide +kernel
theorem dL_law_226 : decode cL_law 226 = .ok (.iadd, 1) := by decide +kernel
theorem dL_law_227 : decode cL_law 227 = .ok (.iaload, 1) := by decide +kernel
theorem dL_law_228 : decode cL_law 228 = .ok (.aload_n 0, 1) := by decide +kernel
theorem dL_law_229 : decode cL_law 229 = .ok (.iload_n 3, 1) := by decide +kernel
theorem dL_law_230 : decode cL_law 230 = .ok (.iconst 3, 1) := by decide +kernel
theorem dL_law_231 : decode cL_law 231 = .ok (.iadd, 1) := by decide +kernel
theorem dL_law_232 : decode cL_law 232 = .ok (.iaload, 1) := by decide +kernel
theorem dL_law_233 : decode cL_law 233 = .ok (.invokevirtual 27, 3) := by decide +kernel
theorem dL_law_236 : decode cL_law 236 = .ok (.if_icmp .eq 674, 3) := by decide +kernel
theorem dL_law_239 : decode cL_law 239 = .ok (.iconst 0, 1) := by decide +kernel
theorem dL_law_240 : decode cL_law 240 = .ok (.ireturn, 1) := by decide +kernel
theorem dL_law_241 : decode cL_law 241 = .ok (.aload_n 1, 1) := by decide +kernel
theorem dL_law_242 : decode cL_law 242 = .ok (.aload_n 0, 1) := by decide +kernel
theorem dL_law_243 : decode cL_law 243 = .ok (.iload_n 3, 1) := by decide +kernel
theorem dL_law_244 : decode cL_law 244 = .ok (.iconst 1, 1) := by decide +kernel
theorem dL_law_245 : decode cL_law 245 = .ok (.iadd, 1) := by decide +kernel
theorem dL_law_246 : decode cL_law 246 = .ok (.iaload, 1) := by decide +kernel
theorem dL_law_247 : decode cL_law 247 = .ok (.invokevirtual 28, 3) := by decide +kernel
theorem dL_law_250 : decode cL_law 250 = .ok (.aload_n 2, 1) := by decide +kernel
theorem dL_law_251 : decode cL_law 251 = .ok (.aload_n 0, 1) := by decide +kernel
theorem dL_law_252 : decode cL_law 252 = .ok (.iload_n 3, 1) := by decide +kernel
theorem dL_law_253 : decode cL_law 253 = .ok (.iconst 1, 1) := by decide +kernel
theorem dL_law_254 : decode cL_law 254 = .ok (.iadd, 1) := by decide +kernel
theorem dL_law_255 : decode cL_law 255 = .ok (.iaload, 1) := by decide +kernel
theorem dL_law_256 : decode cL_law 256 = .ok (.invokevirtual 32, 3) := by decide +kernel
theorem dL_law_259 : decode cL_law 259 = .ok (.if_icmp .eq 651, 3) := by decide +kernel
theorem dL_law_262 : decode cL_law 262 = .ok (.iconst 0, 1) := by decide +kernel
theorem dL_law_263 : decode cL_law 263 = .ok (.ireturn, 1) := by decide +kernel
theorem dL_law_264 : decode cL_law 264 = .ok (.aload_n 1, 1) := by decide +kernel
theorem dL_law_265 : decode cL_law 265 = .ok (.aload_n 0, 1) := by decide +kernel
theorem dL_law_266 : decode cL_law 266 = .ok (.iload_n 3, 1) := by decide +kernel
theorem dL_law_267 : decode cL_law 267 = .ok (.iconst 1, 1) := by decide +kernel
theorem dL_law_268 : decode cL_law 268 = .ok (.iadd, 1) := by decide +kernel
theorem dL_law_269 : decode cL_law 269 = .ok (.iaload, 1) := by decide +kernel
theorem dL_law_270 : decode cL_law 270 = .ok (.aload_n 0, 1) := by decide +kernel
theorem dL_law_271 : decode cL_law 271 = .ok (.iload_n 3, 1) := by decide +kernel
theorem dL_law_272 : decode cL_law 272 = .ok (.iconst 2, 1) := by decide +kernel
theorem dL_law_273 : decode cL_law 273 = .ok (.iadd, 1) := by decide +kernel
theorem dL_law_274 : decode cL_law 274 = .ok (.iaload, 1) := by decide +kernel
theorem dL_law_275 : decode cL_law 275 = .ok (.invokevirtual 33, 3) := by decide +kernel
theorem dL_law_278 : decode cL_law 278 = .ok (.aload_n 2, 1) := by decide +kernel
theorem dL_law_279 : decode cL_law 279 = .ok (.aload_n 0, 1) := by decide +kernel
theorem dL_law_280 : decode cL_law 280 = .ok (.iload_n 3, 1) := by decide +kernel
theorem dL_law_281 : decode cL_law 281 = .ok (.iconst 1, 1) := by decide +kernel
theorem dL_law_282 : decode cL_law 282 = .ok (.iadd, 1) := by decide +kernel
theorem dL_law_283 : decode cL_law 283 = .ok (.iaload, 1) := by decide +kernel
theorem dL_law_284 : decode cL_law 284 = .ok (.aload_n 0, 1) := by decide +kernel
theorem dL_law_285 : decode cL_law 285 = .ok (.iload_n 3, 1) := by decide +kernel
theorem dL_law_286 : decode cL_law 286 = .ok (.iconst 2, 1) := by decide +kernel
theorem dL_law_287 : decode cL_law 287 = .ok (.iadd, 1) := by decide +kernel
theorem dL_law_288 : decode cL_law 288 = .ok (.iaload, 1) := by decide +kernel
theorem dL_law_289 : decode cL_law 289 = .ok (.invokevirtual 36, 3) := by decide +kernel
theorem dL_law_292 : decode cL_law 292 = .ok (.if_icmp .eq 618, 3) := by decide +kernel
theorem dL_law_295 : decode cL_law 295 = .ok (.iconst 0, 1) := by decide +kernel
theorem dL_law_296 : decode cL_law 296 = .ok (.ireturn, 1) := by decide +kernel
theorem dL_law_297 : decode cL_law 297 = .ok (.aload_n 1, 1) := by decide +kernel
theorem dL_law_298 : decode cL_law 298 = .ok (.invokevirtual 37, 3) := by decide +kernel
theorem dL_law_301 : decode cL_law 301 = .ok (.aload_n 2, 1) := by decide +kernel
theorem dL_law_302 : decode cL_law 302 = .ok (.invokevirtual 40, 3) := by decide +kernel
theorem dL_law_305 : decode cL_law 305 = .ok (.if_icmp .eq 605, 3) := by decide +kernel
theorem dL_law_308 : decode cL_law 308 = .ok (.iconst 0, 1) := by decide +kernel
theorem dL_law_309 : decode cL_law 309 = .ok (.ireturn, 1) := by decide +kernel
theorem dL_law_310 : decode cL_law 310 = .ok (.aload_n 1, 1) := by decide +kernel
theorem dL_law_311 : decode cL_law 311 = .ok (.aload_n 0, 1) := by decide +kernel
theorem dL_law_312 : decode cL_law 312 = .ok (.iload_n 3, 1) := by decide +kernel
theorem dL_law_313 : decode cL_law 313 = .ok (.iconst 1, 1) := by decide +kernel
theorem dL_law_314 : decode cL_law 314 = .ok (.iadd, 1) := by decide +kernel
theorem dL_law_315 : decode cL_law 315 = .ok (.iaload, 1) := by decide +kernel
theorem dL_law_316 : decode cL_law 316 = .ok (.aload_n 0, 1) := by decide +kernel
theorem dL_law_317 : decode cL_law 317 = .ok (.iload_n 3, 1) := by decide +kernel
theorem dL_law_318 : decode cL_law 318 = .ok (.iconst 2, 1) := by decide +kernel
theorem dL_law_319 : decode cL_law 319 = .ok (.iadd, 1) := by decide +kernel
theorem dL_law_320 : decode cL_law 320 = .ok (.iaload, 1) := by decide +kernel
theorem dL_law_321 : decode cL_law 321 = .ok (.invokevirtual 41, 3) := by decide +kernel
theorem dL_law_324 : decode cL_law 324 = .ok (.aload_n 2, 1) := by decide +kernel
theorem dL_law_325 : decode cL_law 325 = .ok (.aload_n 0, 1) := by decide +kernel
theorem dL_law_326 : decode cL_law 326 = .ok (.iload_n 3, 1) := by decide +kernel
theorem dL_law_327 : decode cL_law 327 = .ok (.iconst 1, 1) := by decide +kernel
theorem dL_law_328 : decode cL_law 328 = .ok (.iadd, 1) := by decide +kernel
theorem dL_law_329 : decode cL_law 329 = .ok (.iaload, 1) := by decide +kernel
theorem dL_law_330 : decode cL_law 330 = .ok (.aload_n 0, 1) := by decide +kernel
theorem dL_law_331 : decode cL_law 331 = .ok (.iload_n 3, 1) := by decide +kernel
theorem dL_law_332 : decode cL_law 332 = .ok (.iconst 2, 1) := by decide +kernel
theorem dL_law_333 : decode cL_law 333 = .ok (.iadd, 1) := by decide +kernel
theorem dL_law_334 : decode cL_law 334 = .ok (.iaload, 1) := by decide +kernel
theorem dL_law_335 : decode cL_law 335 = .ok (.invokevirtual 44, 3) := by decide +kernel
theorem dL_law_338 : decode cL_law 338 = .ok (.if_icmp .eq 572, 3) := by decide +kernel
theorem dL_law_341 : decode cL_law 341 = .ok (.iconst 0, 1) := by decide +kernel
theorem dL_law_342 : decode cL_law 342 = .ok (.ireturn, 1) := by decide +kernel
theorem dL_law_343 : decode cL_law 343 = .ok (.aload_n 1, 1) := by decide +kernel
theorem dL_law_344 : decode cL_law 344 = .ok (.aload_n 0, 1) := by decide +kernel
theorem dL_law_345 : decode cL_law 345 = .ok (.iload_n 3, 1) := by decide +kernel
theorem dL_law_346 : decode cL_law 346 = .ok (.iconst 1, 1) := by decide +kernel
theorem dL_law_347 : decode cL_law 347 = .ok (.iadd, 1) := by decide +kernel
theorem dL_law_348 : decode cL_law 348 = .ok (.iaload, 1) := by decide +kernel
theorem dL_law_349 : decode cL_law 349 = .ok (.aload_n 0, 1) := by decide +kernel
theorem dL_law_350 : decode cL_law 350 = .ok (.iload_n 3, 1) := by decide +kernel
theorem dL_law_351 : decode cL_law 351 = .ok (.iconst 2, 1) := by decide +kernel
theorem dL_law_352 : decode cL_law 352 = .ok (.iadd, 1) := by decide +kernel
theorem dL_law_353 : decode cL_law 353 = .ok (.iaload, 1) := by decide +kernel
theorem dL_law_354 : decode cL_law 354 = .ok (.invokevirtual 45, 3) := by decide +kernel
theorem dL_law_357 : decode cL_law 357 = .ok (.aload_n 2, 1) := by decide +kernel
theorem dL_law_358 : decode cL_law 358 = .ok (.aload_n 0, 1) := by decide +kernel
theorem dL_law_359 : decode cL_law 359 = .ok (.iload_n 3, 1) := by decide +kernel
theorem dL_law_360 : decode cL_law 360 = .ok (.iconst 1, 1) := by decide +kernel
theorem dL_law_361 : decode cL_law 361 = .ok (.iadd, 1) := by decide +kernel
theorem dL_law_362 : decode cL_law 362 = .ok (.iaload, 1) := by decide +kernel
theorem dL_law_363 : decode cL_law 363 = .ok (.aload_n 0, 1) := by decide +kernel
theorem dL_law_364 : decode cL_law 364 = .ok (.iload_n 3, 1) := by decide +kernel
theorem dL_law_365 : decode cL_law 365 = .ok (.iconst 2, 1) := by decide +kernel
theorem dL_law_366 : decode cL_law 366 = .ok (.iadd, 1) := by decide +kernel
theorem dL_law_367 : decode cL_law 367 = .ok (.iaload, 1) := by decide +kernel
theorem dL_law_368 : decode cL_law 368 = .ok (.invokevirtual 48, 3) := by decide +kernel
theorem dL_law_371 : decode cL_law 371 = .ok (.if_icmp .eq 539, 3) := by decide +kernel
theorem dL_law_374 : decode cL_law 374 = .ok (.iconst 0, 1) := by decide +kernel
theorem dL_law_375 : decode cL_law 375 = .ok (.ireturn, 1) := by decide +kernel
theorem dL_law_376 : decode cL_law 376 = .ok (.aload_n 1, 1) := by decide +kernel
theorem dL_law_377 : decode cL_law 377 = .ok (.aload_n 0, 1) := by decide +kernel
theorem dL_law_378 : decode cL_law 378 = .ok (.iload_n 3, 1) := by decide +kernel
theorem dL_law_379 : decode cL_law 379 = .ok (.iconst 1, 1) := by decide +kernel
theorem dL_law_380 : decode cL_law 380 = .ok (.iadd, 1) := by decide +kernel
theorem dL_law_381 : decode cL_law 381 = .ok (.iaload, 1) := by decide +kernel
theorem dL_law_382 : decode cL_law 382 = .ok (.aload_n 0, 1) := by decide +kernel
theorem dL_law_383 : decode cL_law 383 = .ok (.iload_n 3, 1) := by decide +kernel
theorem dL_law_384 : decode cL_law 384 = .ok (.iconst 2, 1) := by decide +kernel
theorem dL_law_385 : decode cL_law 385 = .ok (.iadd, 1) := by decide +kernel
theorem dL_law_386 : decode cL_law 386 = .ok (.iaload, 1) := by decide +kernel
theorem dL_law_387 : decode cL_law 387 = .ok (.invokevirtual 49, 3) := by decide +kernel
theorem dL_law_390 : decode cL_law 390 = .ok (.aload_n 2, 1) := by decide +kernel
theorem dL_law_391 : decode cL_law 391 = .ok (.aload_n 0, 1) := by decide +kernel
theorem dL_law_392 : decode cL_law 392 = .ok (.iload_n 3, 1) := by decide +kernel
theorem dL_law_393 : decode cL_law 393 = .ok (.iconst 1, 1) := by decide +kernel
theorem dL_law_394 : decode cL_law 394 = .ok (.iadd, 1) := by decide +kernel
theorem dL_law_395 : decode cL_law 395 = .ok (.iaload, 1) := by decide +kernel
theorem dL_law_396 : decode cL_law 396 = .ok (.aload_n 0, 1) := by decide +kernel
theorem dL_law_397 : decode cL_law 397 = .ok (.iload_n 3, 1) := by decide +kernel
theorem dL_law_398 : decode cL_law 398 = .ok (.iconst 2, 1) := by decide +kernel
theorem dL_law_399 : decode cL_law 399 = .ok (.iadd, 1) := by decide +kernel
theorem dL_law_400 : decode cL_law 400 = .ok (.iaload, 1) := by decide +kernel
theorem dL_law_401 : decode cL_law 401 = .ok (.invokevirtual 52, 3) := by decide +kernel
theorem dL_law_404 : decode cL_law 404 = .ok (.if_icmp .eq 506, 3) := by decide +kernel
theorem dL_law_407 : decode cL_law 407 = .ok (.iconst 0, 1) := by decide +kernel
theorem dL_law_408 : decode cL_law 408 = .ok (.ireturn, 1) := by decide +kernel
theorem dL_law_409 : decode cL_law 409 = .ok (.aload_n 1, 1) := by decide +kernel
theorem dL_law_410 : decode cL_law 410 = .ok (.aload_n 0, 1) := by decide +kernel
theorem dL_law_411 : decode cL_law 411 = .ok (.iload_n 3, 1) := by decide +kernel
theorem dL_law_412 : decode cL_law 412 = .ok (.iconst 1, 1) := by decide +kernel
theorem dL_law_413 : decode cL_law 413 = .ok (.iadd, 1) := by decide +kernel
theorem dL_law_414 : decode cL_law 414 = .ok (.iaload, 1) := by decide +kernel
theorem dL_law_415 : decode cL_law 415 = .ok (.aload_n 0, 1) := by decide +kernel
theorem dL_law_416 : decode cL_law 416 = .ok (.iload_n 3, 1) := by decide +kernel
theorem dL_law_417 : decode cL_law 417 = .ok (.iconst 2, 1) := by decide +kernel
theorem dL_law_418 : decode cL_law 418 = .ok (.iadd, 1) := by decide +kernel
theorem dL_law_419 : decode cL_law 419 = .ok (.iaload, 1) := by decide +kernel
theorem dL_law_420 : decode cL_law 420 = .ok (.aload_n 0, 1) := by decide +kernel
theorem dL_law_421 : decode cL_law 421 = .ok (.iload_n 3, 1) := by decide +kernel
theorem dL_law_422 : decode cL_law 422 = .ok (.iconst 3, 1) := by decide +kernel
theorem dL_law_423 : decode cL_law 423 = .ok (.iadd, 1) := by decide +kernel
theorem dL_law_424 : decode cL_law 424 = .ok (.iaload, 1) := by decide +kernel
theorem dL_law_425 : decode cL_law 425 = .ok (.invokevirtual 53, 3) := by decide +kernel
theorem dL_law_428 : decode cL_law 428 = .ok (.aload_n 2, 1) := by decide +kernel
theorem dL_law_429 : decode cL_law 429 = .ok (.aload_n 0, 1) := by decide +kernel
theorem dL_law_430 : decode cL_law 430 = .ok (.iload_n 3, 1) := by decide +kernel
theorem dL_law_431 : decode cL_law 431 = .ok (.iconst 1, 1) := by decide +kernel
theorem dL_law_432 : decode cL_law 432 = .ok (.iadd, 1) := by decide +kernel
theorem dL_law_433 : decode cL_law 433 = .ok (.iaload, 1) := by decide +kernel
theorem dL_law_434 : decode cL_law 434 = .ok (.aload_n 0, 1) := by decide +kernel
theorem dL_law_435 : decode cL_law 435 = .ok (.iload_n 3, 1) := by decide +kernel
theorem dL_law_436 : decode cL_law 436 = .ok (.iconst 2, 1) := by decide +kernel
theorem dL_law_437 : decode cL_law 437 = .ok (.iadd, 1) := by decide +kernel
theorem dL_law_438 : decode cL_law 438 = .ok (.iaload, 1) := by decide +kernel
theorem dL_law_439 : decode cL_law 439 = .ok (.aload_n 0, 1) := by decide +kernel
theorem dL_law_440 : decode cL_law 440 = .ok (.iload_n 3, 1) := by decide +kernel
theorem dL_law_441 : decode cL_law 441 = .ok (.iconst 3, 1) := by decide +kernel
theorem dL_law_442 : decode cL_law 442 = .ok (.iadd, 1) := by decide +kernel
theorem dL_law_443 : decode cL_law 443 = .ok (.iaload, 1) := by decide +kernel
theorem dL_law_444 : decode cL_law 444 = .ok (.invokevirtual 56, 3) := by decide +kernel
theorem dL_law_447 : decode cL_law 447 = .ok (.if_icmp .eq 463, 3) := by decide +kernel
theorem dL_law_450 : decode cL_law 450 = .ok (.iconst 0, 1) := by decide +kernel
theorem dL_law_451 : decode cL_law 451 = .ok (.ireturn, 1) := by decide +kernel
theorem dL_law_452 : decode cL_law 452 = .ok (.aload_n 1, 1) := by decide +kernel
theorem dL_law_453 : decode cL_law 453 = .ok (.aload_n 0, 1) := by decide +kernel
theorem dL_law_454 : decode cL_law 454 = .ok (.iload_n 3, 1) := by decide +kernel
theorem dL_law_455 : decode cL_law 455 = .ok (.iconst 1, 1) := by decide +kernel
theorem dL_law_456 : decode cL_law 456 = .ok (.iadd, 1) := by decide +kernel
theorem dL_law_457 : decode cL_law 457 = .ok (.iaload, 1) := by decide +kernel
theorem dL_law_458 : decode cL_law 458 = .ok (.aload_n 0, 1) := by decide +kernel
theorem dL_law_459 : decode cL_law 459 = .ok (.iload_n 3, 1) := by decide +kernel
theorem dL_law_460 : decode cL_law 460 = .ok (.iconst 2, 1) := by decide +kernel
theorem dL_law_461 : decode cL_law 461 = .ok (.iadd, 1) := by decide +kernel
theorem dL_law_462 : decode cL_law 462 = .ok (.iaload, 1) := by decide +kernel
theorem dL_law_463 : decode cL_law 463 = .ok (.aload_n 0, 1) := by decide +kernel
theorem dL_law_464 : decode cL_law 464 = .ok (.iload_n 3, 1) := by decide +kernel
theorem dL_law_465 : decode cL_law 465 = .ok (.iconst 3, 1) := by decide +kernel
theorem dL_law_466 : decode cL_law 466 = .ok (.iadd, 1) := by decide +kernel
theorem dL_law_467 : decode cL_law 467 = .ok (.iaload, 1) := by decide +kernel
theorem dL_law_468 : decode cL_law 468 = .ok (.invokevirtual 57, 3) := by decide +kernel
theorem dL_law_471 : decode cL_law 471 = .ok (.aload_n 2, 1) := by decide +kernel
theorem dL_law_472 : decode cL_law 472 = .ok (.aload_n 0, 1) := by decide +kernel
theorem dL_law_473 : decode cL_law 473 = .ok (.iload_n 3, 1) := by decide +kernel
theorem dL_law_474 : decode cL_law 474 = .ok (.iconst 1, 1) := by decide +kernel
theorem dL_law_475 : decode cL_law 475 = .ok (.iadd, 1) := by decide +kernel
theorem dL_law_476 : decode cL_law 476 = .ok (.iaload, 1) := by decide +kernel
theorem dL_law_477 : decode cL_law 477 = .ok (.aload_n 0, 1) := by decide +kernel
theorem dL_law_478 : decode cL_law 478 = .ok (.iload_n 3, 1) := by decide +kernel
theorem dL_law_479 : decode cL_law 479 = .ok (.iconst 2, 1) := by decide +kernel
theorem dL_law_480 : decode cL_law 480 = .ok (.iadd, 1) := by decide +kernel
theorem dL_law_481 : decode cL_law 481 = .ok (.iaload, 1) := by decide +kernel
theorem dL_law_482 : decode cL_law 482 = .ok (.aload_n 0, 1) := by decide +kernel
theorem dL_law_483 : decode cL_law 483 = .ok (.iload_n 3, 1) := by decide +kernel
theorem dL_law_484 : decode cL_law 484 = .ok (.iconst 3, 1) := by decide +kernel
theorem dL_law_485 : decode cL_law 485 = .ok (.iadd, 1) := by decide +kernel
theorem dL_law_486 : decode cL_law 486 = .ok (.iaload, 1) := by decide +kernel
theorem dL_law_487 : decode cL_law 487 = .ok (.invokevirtual 60, 3) := by decide +kernel
theorem dL_law_490 : decode cL_law 490 = .ok (.if_icmp .eq 420, 3) := by decide +kernel
theorem dL_law_493 : decode cL_law 493 = .ok (.iconst 0, 1) := by decide +kernel
theorem dL_law_494 : decode cL_law 494 = .ok (.ireturn, 1) := by decide +kernel
theorem dL_law_495 : decode cL_law 495 = .ok (.aload_n 1, 1) := by decide +kernel
theorem dL_law_496 : decode cL_law 496 = .ok (.aload_n 0, 1) := by decide +kernel
theorem dL_law_497 : decode cL_law 497 = .ok (.iload_n 3, 1) := by decide +kernel
theorem dL_law_498 : decode cL_law 498 = .ok (.iconst 1, 1) := by decide +kernel
theorem dL_law_499 : decode cL_law 499 = .ok (.iadd, 1) := by decide +kernel
theorem dL_law_500 : decode cL_law 500 = .ok (.iaload, 1) := by decide +kernel
theorem dL_law_501 : decode cL_law 501 = .ok (.aload_n 0, 1) := by decide +kernel
theorem dL_law_502 : decode cL_law 502 = .ok (.iload_n 3, 1) := by decide +kernel
theorem dL_law_503 : decode cL_law 503 = .ok (.iconst 2, 1) := by decide +kernel
theorem dL_law_504 : decode cL_law 504 = .ok (.iadd, 1) := by decide +kernel
theorem dL_law_505 : decode cL_law 505 = .ok (.iaload, 1) := by decide +kernel
theorem dL_law_506 : decode cL_law 506 = .ok (.invokevirtual 61, 3) := by decide +kernel
theorem dL_law_509 : decode cL_law 509 = .ok (.aload_n 2, 1) := by decide +kernel
theorem dL_law_510 : decode cL_law 510 = .ok (.aload_n 0, 1) := by decide +kernel
theorem dL_law_511 : decode cL_law 511 = .ok (.iload_n 3, 1) := by decide +kernel
theorem dL_law_512 : decode cL_law 512 = .ok (.iconst 1, 1) := by decide +kernel
theorem dL_law_513 : decode cL_law 513 = .ok (.iadd, 1) := by decide +kernel
theorem dL_law_514 : decode cL_law 514 = .ok (.iaload, 1) := by decide +kernel
theorem dL_law_515 : decode cL_law 515 = .ok (.aload_n 0, 1) := by decide +kernel
theorem dL_law_516 : decode cL_law 516 = .ok (.iload_n 3, 1) := by decide +kernel
theorem dL_law_517 : decode cL_law 517 = .ok (.iconst 2, 1) := by decide +kernel
theorem dL_law_518 : decode cL_law 518 = .ok (.iadd, 1) := by decide +kernel
theorem dL_law_519 : decode cL_law 519 = .ok (.iaload, 1) := by decide +kernel
theorem dL_law_520 : decode cL_law 520 = .ok (.invokevirtual 64, 3) := by decide +kernel
theorem dL_law_523 : decode cL_law 523 = .ok (.if_icmp .eq 387, 3) := by decide +kernel
theorem dL_law_526 : decode cL_law 526 = .ok (.iconst 0, 1) := by decide +kernel
theorem dL_law_527 : decode cL_law 527 = .ok (.ireturn, 1) := by decide +kernel
theorem dL_law_528 : decode cL_law 528 = .ok (.aload_n 1, 1) := by decide +kernel
theorem dL_law_529 : decode cL_law 529 = .ok (.aload_n 0, 1) := by decide +kernel
theorem dL_law_530 : decode cL_law 530 = .ok (.iload_n 3, 1) := by decide +kernel
theorem dL_law_531 : decode cL_law 531 = .ok (.iconst 1, 1) := by decide +kernel
theorem dL_law_532 : decode cL_law 532 = .ok (.iadd, 1) := by decide +kernel
theorem dL_law_533 : decode cL_law 533 = .ok (.iaload, 1) := by decide +kernel
theorem dL_law_534 : decode cL_law 534 = .ok (.aload_n 0, 1) := by decide +kernel
theorem dL_law_535 : decode cL_law 535 = .ok (.iload_n 3, 1) := by decide +kernel
theorem dL_law_536 : decode cL_law 536 = .ok (.iconst 2, 1) := by decide +kernel
theorem dL_law_537 : decode cL_law 537 = .ok (.iadd, 1) := by decide +kernel
theorem dL_law_538 : decode cL_law 538 = .ok (.iaload, 1) := by decide +kernel
theorem dL_law_539 : decode cL_law 539 = .ok (.aload_n 0, 1) := by decide +kernel
theorem dL_law_540 : decode cL_law 540 = .ok (.iload_n 3, 1) := by decide +kernel
theorem dL_law_541 : decode cL_law 541 = .ok (.iconst 3, 1) := by decide +kernel
theorem dL_law_542 : decode cL_law 542 = .ok (.iadd, 1) := by decide +kernel
theorem dL_law_543 : decode cL_law 543 = .ok (.iaload, 1) := by decide +kernel
theorem dL_law_544 : decode cL_law 544 = .ok (.invokevirtual 65, 3) := by decide +kernel
theorem dL_law_547 : decode cL_law 547 = .ok (.aload_n 2, 1) := by decide +kernel
theorem dL_law_548 : decode cL_law 548 = .ok (.aload_n 0, 1) := by decide +kernel
theorem dL_law_549 : decode cL_law 549 = .ok (.iload_n 3, 1) := by decide +kernel
theorem dL_law_550 : decode cL_law 550 = .ok (.iconst 1, 1) := by decide +kernel
theorem dL_law_551 : decode cL_law 551 = .ok (.iadd, 1) := by decide +kernel
theorem dL_law_552 : decode cL_law 552 = .ok (.iaload, 1) := by decide +kernel
theorem dL_law_553 : decode cL_law 553 = .ok (.aload_n 0, 1) := by decide +kernel
theorem dL_law_554 : decode cL_law 554 = .ok (.iload_n 3, 1) := by decide +kernel
theorem dL_law_555 : decode cL_law 555 = .ok (.iconst 2, 1) := by decide +kernel
theorem dL_law_556 : decode cL_law 556 = .ok (.iadd, 1) := by decide +kernel
theorem dL_law_557 : decode cL_law 557 = .ok (.iaload, 1) := by decide +kernel
theorem dL_law_558 : decode cL_law 558 = .ok (.aload_n 0, 1) := by decide +kernel
theorem dL_law_559 : decode cL_law 559 = .ok (.iload_n 3, 1) := by decide +kernel
theorem dL_law_560 : decode cL_law 560 = .ok (.iconst 3, 1) := by decide +kernel
theorem dL_law_561 : decode cL_law 561 = .ok (.iadd, 1) := by decide +kernel
theorem dL_law_562 : decode cL_law 562 = .ok (.iaload, 1) := by decide +kernel
theorem dL_law_563 : decode cL_law 563 = .ok (.invokevirtual 68, 3) := by decide +kernel
theorem dL_law_566 : decode cL_law 566 = .ok (.if_icmp .eq 344, 3) := by decide +kernel
theorem dL_law_569 : decode cL_law 569 = .ok (.iconst 0, 1) := by decide +kernel
theorem dL_law_570 : decode cL_law 570 = .ok (.ireturn, 1) := by decide +kernel
theorem dL_law_571 : decode cL_law 571 = .ok (.aload_n 1, 1) := by decide +kernel
theorem dL_law_572 : decode cL_law 572 = .ok (.aload_n 0, 1) := by decide +kernel
theorem dL_law_573 : decode cL_law 573 = .ok (.iload_n 3, 1) := by decide +kernel
theorem dL_law_574 : decode cL_law 574 = .ok (.iconst 1, 1) := by decide +kernel
theorem dL_law_575 : decode cL_law 575 = .ok (.iadd, 1) := by decide +kernel
theorem dL_law_576 : decode cL_law 576 = .ok (.iaload, 1) := by decide +kernel
theorem dL_law_577 : decode cL_law 577 = .ok (.aload_n 0, 1) := by decide +kernel
theorem dL_law_578 : decode cL_law 578 = .ok (.iload_n 3, 1) := by decide +kernel
theorem dL_law_579 : decode cL_law 579 = .ok (.iconst 2, 1) := by decide +kernel
theorem dL_law_580 : decode cL_law 580 = .ok (.iadd, 1) := by decide +kernel
theorem dL_law_581 : decode cL_law 581 = .ok (.iaload, 1) := by decide +kernel
theorem dL_law_582 : decode cL_law 582 = .ok (.invokevirtual 69, 3) := by decide +kernel
theorem dL_law_585 : decode cL_law 585 = .ok (.aload_n 2, 1) := by decide +kernel
theorem dL_law_586 : decode cL_law 586 = .ok (.aload_n 0, 1) := by decide +kernel
theorem dL_law_587 : decode cL_law 587 = .ok (.iload_n 3, 1) := by decide +kernel
theorem dL_law_588 : decode cL_law 588 = .ok (.iconst 1, 1) := by decide +kernel
theorem dL_law_589 : decode cL_law 589 = .ok (.iadd, 1) := by decide +kernel
theorem dL_law_590 : decode cL_law 590 = .ok (.iaload, 1) := by decide +kernel
theorem dL_law_591 : decode cL_law 591 = .ok (.aload_n 0, 1) := by decide +kernel
theorem dL_law_592 : decode cL_law 592 = .ok (.iload_n 3, 1) := by decide +kernel
theorem dL_law_593 : decode cL_law 593 = .ok (.iconst 2, 1) := by decide +kernel
theorem dL_law_594 : decode cL_law 594 = .ok (.iadd, 1) := by decide +kernel
theorem dL_law_595 : decode cL_law 595 = .ok (.iaload, 1) := by decide +kernel
theorem dL_law_596 : decode cL_law 596 = .ok (.invokevirtual 72, 3) := by decide +kernel
theorem dL_law_599 : decode cL_law 599 = .ok (.if_icmp .eq 311, 3) := by decide +kernel
theorem dL_law_602 : decode cL_law 602 = .ok (.iconst 0, 1) := by decide +kernel
theorem dL_law_603 : decode cL_law 603 = .ok (.ireturn, 1) := by decide +kernel
theorem dL_law_604 : decode cL_law 604 = .ok (.aload_n 1, 1) := by decide +kernel
theorem dL_law_605 : decode cL_law 605 = .ok (.aload_n 0, 1) := by decide +kernel
theorem dL_law_606 : decode cL_law 606 = .ok (.iload_n 3, 1) := by decide +kernel
theorem dL_law_607 : decode cL_law 607 = .ok (.iconst 1, 1) := by decide +kernel
theorem dL_law_608 : decode cL_law 608 = .ok (.iadd, 1) := by decide +kernel
theorem dL_law_609 : decode cL_law 609 = .ok (.iaload, 1) := by decide +kernel
theorem dL_law_610 : decode cL_law 610 = .ok (.aload_n 0, 1) := by decide +kernel
theorem dL_law_611 : decode cL_law 611 = .ok (.iload_n 3, 1) := by decide +kernel
theorem dL_law_612 : decode cL_law 612 = .ok (.iconst 2, 1) := by decide +kernel
theorem dL_law_613 : decode cL_law 613 = .ok (.iadd, 1) := by decide +kernel
theorem dL_law_614 : decode cL_law 614 = .ok (.iaload, 1) := by decide +kernel
theorem dL_law_615 : decode cL_law 615 = .ok (.invokevirtual 73, 3) := by decide +kernel
theorem dL_law_618 : decode cL_law 618 = .ok (.aload_n 2, 1) := by decide +kernel
theorem dL_law_619 : decode cL_law 619 = .ok (.aload_n 0, 1) := by decide +kernel
theorem dL_law_620 : decode cL_law 620 = .ok (.iload_n 3, 1) := by decide +kernel
theorem dL_law_621 : decode cL_law 621 = .ok (.iconst 1, 1) := by decide +kernel
theorem dL_law_622 : decode cL_law 622 = .ok (.iadd, 1) := by decide +kernel
theorem dL_law_623 : decode cL_law 623 = .ok (.iaload, 1) := by decide +kernel
theorem dL_law_624 : decode cL_law 624 = .ok (.aload_n 0, 1) := by decide +kernel
theorem dL_law_625 : decode cL_law 625 = .ok (.iload_n 3, 1) := by decide +kernel
theorem dL_law_626 : decode cL_law 626 = .ok (.iconst 2, 1) := by decide +kernel
theorem dL_law_627 : decode cL_law 627 = .ok (.iadd, 1) := by decide +kernel
theorem dL_law_628 : decode cL_law 628 = .ok (.iaload, 1) := by decide +kernel
theorem dL_law_629 : decode cL_law 629 = .ok (.invokevirtual 76, 3) := by decide +kernel
theorem dL_law_632 : decode cL_law 632 = .ok (.if_icmp .eq 278, 3) := by decide +kernel
theorem dL_law_635 : decode cL_law 635 = .ok (.iconst 0, 1) := by decide +kernel
theorem dL_law_636 : decode cL_law 636 = .ok (.ireturn, 1) := by decide +kernel
theorem dL_law_637 : decode cL_law 637 = .ok (.aload_n 1, 1) := by decide +kernel
theorem dL_law_638 : decode cL_law 638 = .ok (.aload_n 0, 1) := by decide +kernel
theorem dL_law_639 : decode cL_law 639 = .ok (.iload_n 3, 1) := by decide +kernel
theorem dL_law_640 : decode cL_law 640 = .ok (.iconst 1, 1) := by decide +kernel
theorem dL_law_641 : decode cL_law 641 = .ok (.iadd, 1) := by decide +kernel
theorem dL_law_642 : decode cL_law 642 = .ok (.iaload, 1) := by decide +kernel
theorem dL_law_643 : decode cL_law 643 = .ok (.invokevirtual 77, 3) := by decide +kernel
theorem dL_law_646 : decode cL_law 646 = .ok (.aload_n 2, 1) := by decide +kernel
theorem dL_law_647 : decode cL_law 647 = .ok (.aload_n 0, 1) := by decide +kernel
theorem dL_law_648 : decode cL_law 648 = .ok (.iload_n 3, 1) := by decide +kernel
theorem dL_law_649 : decode cL_law 649 = .ok (.iconst 1, 1) := by decide +kernel
theorem dL_law_650 : decode cL_law 650 = .ok (.iadd, 1) := by decide +kernel
theorem dL_law_651 : decode cL_law 651 = .ok (.iaload, 1) := by decide +kernel
theorem dL_law_652 : decode cL_law 652 = .ok (.invokevirtual 80, 3) := by decide +kernel
theorem dL_law_655 : decode cL_law 655 = .ok (.if_icmp .eq 255, 3) := by decide +kernel
theorem dL_law_658 : decode cL_law 658 = .ok (.iconst 0, 1) := by decide +kernel
theorem dL_law_659 : decode cL_law 659 = .ok (.ireturn, 1) := by decide +kernel
theorem dL_law_660 : decode cL_law 660 = .ok (.aload_n 1, 1) := by decide +kernel
theorem dL_law_661 : decode cL_law 661 = .ok (.aload_n 0, 1) := by decide +kernel
theorem dL_law_662 : decode cL_law 662 = .ok (.iload_n 3, 1) := by decide +kernel
theorem dL_law_663 : decode cL_law 663 = .ok (.iconst 1, 1) := by decide +kernel
theorem dL_law_664 : decode cL_law 664 = .ok (.iadd, 1) := by decide +kernel
theorem dL_law_665 : decode cL_law 665 = .ok (.iaload, 1) := by decide +kernel
theorem dL_law_666 : decode cL_law 666 = .ok (.aload_n 0, 1) := by decide +kernel
theorem dL_law_667 : decode cL_law 667 = .ok (.iload_n 3, 1) := by decide +kernel
theorem dL_law_668 : decode cL_law 668 = .ok (.iconst 2, 1) := by decide +kernel
theorem dL_law_669 : decode cL_law 669 = .ok (.iadd, 1) := by decide +kernel
theorem dL_law_670 : decode cL_law 670 = .ok (.iaload, 1) := by decide +kernel
theorem dL_law_671 : decode cL_law 671 = .ok (.invokevirtual 81, 3) := by decide +kernel
theorem dL_law_674 : decode cL_law 674 = .ok (.aload_n 2, 1) := by decide +kernel
theorem dL_law_675 : decode cL_law 675 = .ok (.aload_n 0, 1) := by decide +kernel
theorem dL_law_676 : decode cL_law 676 = .ok (.iload_n 3, 1) := by decide +kernel
theorem dL_law_677 : decode cL_law 677 = .ok (.iconst 1, 1) := by decide +kernel
theorem dL_law_678 : decode cL_law 678 = .ok (.iadd, 1) := by decide +kernel
theorem dL_law_679 : decode cL_law 679 = .ok (.iaload, 1) := by decide +kernel
theorem dL_law_680 : decode cL_law 680 = .ok (.aload_n 0, 1) := by decide +kernel
theorem dL_law_681 : decode cL_law 681 = .ok (.iload_n 3, 1) := by decide +kernel
theorem dL_law_682 : decode cL_law 682 = .ok (.iconst 2, 1) := by decide +kernel
theorem dL_law_683 : decode cL_law 683 = .ok (.iadd, 1) := by decide +kernel
theorem dL_law_684 : decode cL_law 684 = .ok (.iaload, 1) := by decide +kernel
theorem dL_law_685 : decode cL_law 685 = .ok (.invokevirtual 84, 3) := by decide +kernel
theorem dL_law_688 : decode cL_law 688 = .ok (.if_icmp .eq 222, 3) := by decide +kernel
theorem dL_law_691 : decode cL_law 691 = .ok (.iconst 0, 1) := by decide +kernel
theorem dL_law_692 : decode cL_law 692 = .ok (.ireturn, 1) := by decide +kernel
theorem dL_law_693 : decode cL_law 693 = .ok (.aload_n 1, 1) := by decide +kernel
theorem dL_law_694 : decode cL_law 694 = .ok (.aload_n 0, 1) := by decide +kernel
theorem dL_law_695 : decode cL_law 695 = .ok (.iload_n 3, 1) := by decide +kernel
theorem dL_law_696 : decode cL_law 696 = .ok (.iconst 1, 1) := by decide +kernel
theorem dL_law_697 : decode cL_law 697 = .ok (.iadd, 1) := by decide +kernel
theorem dL_law_698 : decode cL_law 698 = .ok (.iaload, 1) := by decide +kernel
theorem dL_law_699 : decode cL_law 699 = .ok (.aload_n 0, 1) := by decide +kernel
theorem dL_law_700 : decode cL_law 700 = .ok (.iload_n 3, 1) := by decide +kernel
theorem dL_law_701 : decode cL_law 701 = .ok (.iconst 2, 1) := by decide +kernel
theorem dL_law_702 : decode cL_law 702 = .ok (.iadd, 1) := by decide +kernel
theorem dL_law_703 : decode cL_law 703 = .ok (.iaload, 1) := by decide +kernel
theorem dL_law_704 : decode cL_law 704 = .ok (.invokevirtual 85, 3) := by decide +kernel
theorem dL_law_707 : decode cL_law 707 = .ok (.aload_n 2, 1) := by decide +kernel
theorem dL_law_708 : decode cL_law 708 = .ok (.aload_n 0, 1) := by decide +kernel
theorem dL_law_709 : decode cL_law 709 = .ok (.iload_n 3, 1) := by decide +kernel
theorem dL_law_710 : decode cL_law 710 = .ok (.iconst 1, 1) := by decide +kernel
theorem dL_law_711 : decode cL_law 711 = .ok (.iadd, 1) := by decide +kernel
theorem dL_law_712 : decode cL_law 712 = .ok (.iaload, 1) := by decide +kernel
theorem dL_law_713 : decode cL_law 713 = .ok (.aload_n 0, 1) := by decide +kernel
theorem dL_law_714 : decode cL_law 714 = .ok (.iload_n 3, 1) := by decide +kernel
theorem dL_law_715 : decode cL_law 715 = .ok (.iconst 2, 1) := by decide +kernel
theorem dL_law_716 : decode cL_law 716 = .ok (.iadd, 1) := by decide +kernel
theorem dL_law_717 : decode cL_law 717 = .ok (.iaload, 1) := by decide +kernel
theorem dL_law_718 : decode cL_law 718 = .ok (.invokevirtual 88, 3) := by decide +kernel
theorem dL_law_721 : decode cL_law 721 = .ok (.if_icmp .eq 189, 3) := by decide +kernel
theorem dL_law_724 : decode cL_law 724 = .ok (.iconst 0, 1) := by decide +kernel
theorem dL_law_725 : decode cL_law 725 = .ok (.ireturn, 1) := by decide +kernel
theorem dL_law_726 : decode cL_law 726 = .ok (.aload_n 1, 1) := by decide +kernel
theorem dL_law_727 : decode cL_law 727 = .ok (.aload_n 0, 1) := by decide +kernel
theorem dL_law_728 : decode cL_law 728 = .ok (.iload_n 3, 1) := by decide +kernel
theorem dL_law_729 : decode cL_law 729 = .ok (.iconst 1, 1) := by decide +kernel
theorem dL_law_730 : decode cL_law 730 = .ok (.iadd, 1) := by decide +kernel
theorem dL_law_731 : decode cL_law 731 = .ok (.iaload, 1) := by decide +kernel
theorem dL_law_732 : decode cL_law 732 = .ok (.aload_n 0, 1) := by decide +kernel
theorem dL_law_733 : decode cL_law 733 = .ok (.iload_n 3, 1) := by decide +kernel
theorem dL_law_734 : decode cL_law 734 = .ok (.iconst 2, 1) := by decide +kernel
theorem dL_law_735 : decode cL_law 735 = .ok (.iadd, 1) := by decide +kernel
theorem dL_law_736 : decode cL_law 736 = .ok (.iaload, 1) := by decide +kernel
theorem dL_law_737 : decode cL_law 737 = .ok (.invokevirtual 89, 3) := by decide +kernel
theorem dL_law_740 : decode cL_law 740 = .ok (.aload_n 2, 1) := by decide +kernel
theorem dL_law_741 : decode cL_law 741 = .ok (.aload_n 0, 1) := by decide +kernel
theorem dL_law_742 : decode cL_law 742 = .ok (.iload_n 3, 1) := by decide +kernel
theorem dL_law_743 : decode cL_law 743 = .ok (.iconst 1, 1) := by decide +kernel
theorem dL_law_744 : decode cL_law 744 = .ok (.iadd, 1) := by decide +kernel
theorem dL_law_745 : decode cL_law 745 = .ok (.iaload, 1) := by decide +kernel
theorem dL_law_746 : decode cL_law 746 = .ok (.aload_n 0, 1) := by decide +kernel
theorem dL_law_747 : decode cL_law 747 = .ok (.iload_n 3, 1) := by decide +kernel
theorem dL_law_748 : decode cL_law 748 = .ok (.iconst 2, 1) := by decide +kernel
theorem dL_law_749 : decode cL_law 749 = .ok (.iadd, 1) := by decide +kernel
theorem dL_law_750 : decode cL_law 750 = .ok (.iaload, 1) := by decide +kernel
theorem dL_law_751 : decode cL_law 751 = .ok (.invokevirtual 92, 3) := by decide +kernel
theorem dL_law_754 : decode cL_law 754 = .ok (.if_icmp .eq 156, 3) := by decide +kernel
theorem dL_law_757 : decode cL_law 757 = .ok (.iconst 0, 1) := by decide +kernel
theorem dL_law_758 : decode cL_law 758 = .ok (.ireturn, 1) := by decide +kernel
theorem dL_law_759 : decode cL_law 759 = .ok (.aload_n 1, 1) := by decide +kernel
theorem dL_law_760 : decode cL_law 760 = .ok (.aload_n 0, 1) := by decide +kernel
theorem dL_law_761 : decode cL_law 761 = .ok (.iload_n 3, 1) := by decide +kernel
theorem dL_law_762 : decode cL_law 762 = .ok (.iconst 1, 1) := by decide +kernel
theorem dL_law_763 : decode cL_law 763 = .ok (.iadd, 1) := by decide +kernel
theorem dL_law_764 : decode cL_law 764 = .ok (.iaload, 1) := by decide +kernel
theorem dL_law_765 : decode cL_law 765 = .ok (.i2l, 1) := by decide +kernel
theorem dL_law_766 : decode cL_law 766 = .ok (.bipush 32, 2) := by decide +kernel
theorem dL_law_768 : decode cL_law 768 = .ok (.lshl, 1) := by decide +kernel
theorem dL_law_769 : decode cL_law 769 = .ok (.aload_n 0, 1) := by decide +kernel
theorem dL_law_770 : decode cL_law 770 = .ok (.iload_n 3, 1) := by decide +kernel
theorem dL_law_771 : decode cL_law 771 = .ok (.iconst 2, 1) := by decide +kernel
theorem dL_law_772 : decode cL_law 772 = .ok (.iadd, 1) := by decide +kernel
theorem dL_law_773 : decode cL_law 773 = .ok (.iaload, 1) := by decide +kernel
theorem dL_law_774 : decode cL_law 774 = .ok (.i2l, 1) := by decide +kernel
theorem dL_law_775 : decode cL_law 775 = .ok (.ldc2_w 93, 3) := by decide +kernel
theorem dL_law_778 : decode cL_law 778 = .ok (.land, 1) := by decide +kernel
theorem dL_law_779 : decode cL_law 779 = .ok (.lor, 1) := by decide +kernel
theorem dL_law_780 : decode cL_law 780 = .ok (.invokevirtual 95, 3) := by decide +kernel
theorem dL_law_783 : decode cL_law 783 = .ok (.aload_n 2, 1) := by decide +kernel
theorem dL_law_784 : decode cL_law 784 = .ok (.aload_n 0, 1) := by decide +kernel
theorem dL_law_785 : decode cL_law 785 = .ok (.iload_n 3, 1) := by decide +kernel
theorem dL_law_786 : decode cL_law 786 = .ok (.iconst 1, 1) := by decide +kernel
theorem dL_law_787 : decode cL_law 787 = .ok (.iadd, 1) := by decide +kernel
theorem dL_law_788 : decode cL_law 788 = .ok (.iaload, 1) := by decide +kernel
theorem dL_law_789 : decode cL_law 789 = .ok (.i2l, 1) := by decide +kernel
theorem dL_law_790 : decode cL_law 790 = .ok (.bipush 32, 2) := by decide +kernel
theorem dL_law_792 : decode cL_law 792 = .ok (.lshl, 1) := by decide +kernel
theorem dL_law_793 : decode cL_law 793 = .ok (.aload_n 0, 1) := by decide +kernel
theorem dL_law_794 : decode cL_law 794 = .ok (.iload_n 3, 1) := by decide +kernel
theorem dL_law_795 : decode cL_law 795 = .ok (.iconst 2, 1) := by decide +kernel
theorem dL_law_796 : decode cL_law 796 = .ok (.iadd, 1) := by decide +kernel
theorem dL_law_797 : decode cL_law 797 = .ok (.iaload, 1) := by decide +kernel
theorem dL_law_798 : decode cL_law 798 = .ok (.i2l, 1) := by decide +kernel
theorem dL_law_799 : decode cL_law 799 = .ok (.ldc2_w 93, 3) := by decide +kernel
theorem dL_law_802 : decode cL_law 802 = .ok (.land, 1) := by decide +kernel
theorem dL_law_803 : decode cL_law 803 = .ok (.lor, 1) := by decide +kernel
theorem dL_law_804 : decode cL_law 804 = .ok (.invokevirtual 99, 3) := by decide +kernel
theorem dL_law_807 : decode cL_law 807 = .ok (.if_icmp .eq 103, 3) := by decide +kernel
theorem dL_law_810 : decode cL_law 810 = .ok (.iconst 0, 1) := by decide +kernel
theorem dL_law_811 : decode cL_law 811 = .ok (.ireturn, 1) := by decide +kernel
theorem dL_law_812 : decode cL_law 812 = .ok (.aload_n 1, 1) := by decide +kernel
theorem dL_law_813 : decode cL_law 813 = .ok (.invokevirtual 100, 3) := by decide +kernel
theorem dL_law_816 : decode cL_law 816 = .ok (.aload_n 2, 1) := by decide +kernel
theorem dL_law_817 : decode cL_law 817 = .ok (.invokevirtual 103, 3) := by decide +kernel
theorem dL_law_820 : decode cL_law 820 = .ok (.if_icmp .eq 90, 3) := by decide +kernel
theorem dL_law_823 : decode cL_law 823 = .ok (.iconst 0, 1) := by decide +kernel
theorem dL_law_824 : decode cL_law 824 = .ok (.ireturn, 1) := by decide +kernel
theorem dL_law_825 : decode cL_law 825 = .ok (.aload_n 1, 1) := by decide +kernel
theorem dL_law_826 : decode cL_law 826 = .ok (.invokevirtual 104, 3) := by decide +kernel
theorem dL_law_829 : decode cL_law 829 = .ok (.aload_n 2, 1) := by decide +kernel
theorem dL_law_830 : decode cL_law 830 = .ok (.invokevirtual 107, 3) := by decide +kernel
theorem dL_law_833 : decode cL_law 833 = .ok (.if_icmp .eq 77, 3) := by decide +kernel
theorem dL_law_836 : decode cL_law 836 = .ok (.iconst 0, 1) := by decide +kernel
theorem dL_law_837 : decode cL_law 837 = .ok (.ireturn, 1) := by decide +kernel
theorem dL_law_838 : decode cL_law 838 = .ok (.aload_n 1, 1) := by decide +kernel
theorem dL_law_839 : decode cL_law 839 = .ok (.invokevirtual 108, 3) := by decide +kernel
theorem dL_law_842 : decode cL_law 842 = .ok (.aload_n 2, 1) := by decide +kernel
theorem dL_law_843 : decode cL_law 843 = .ok (.invokevirtual 111, 3) := by decide +kernel
theorem dL_law_846 : decode cL_law 846 = .ok (.if_icmp .eq 64, 3) := by decide +kernel
theorem dL_law_849 : decode cL_law 849 = .ok (.iconst 0, 1) := by decide +kernel
theorem dL_law_850 : decode cL_law 850 = .ok (.ireturn, 1) := by decide +kernel
theorem dL_law_851 : decode cL_law 851 = .ok (.aload_n 1, 1) := by decide +kernel
theorem dL_law_852 : decode cL_law 852 = .ok (.invokevirtual 112, 3) := by decide +kernel
theorem dL_law_855 : decode cL_law 855 = .ok (.aload_n 2, 1) := by decide +kernel
theorem dL_law_856 : decode cL_law 856 = .ok (.invokevirtual 115, 3) := by decide +kernel
theorem dL_law_859 : decode cL_law 859 = .ok (.if_icmp .eq 51, 3) := by decide +kernel
theorem dL_law_862 : decode cL_law 862 = .ok (.iconst 0, 1) := by decide +kernel
theorem dL_law_863 : decode cL_law 863 = .ok (.ireturn, 1) := by decide +kernel
theorem dL_law_864 : decode cL_law 864 = .ok (.aload_n 1, 1) := by decide +kernel
theorem dL_law_865 : decode cL_law 865 = .ok (.aload_n 0, 1) := by decide +kernel
theorem dL_law_866 : decode cL_law 866 = .ok (.iload_n 3, 1) := by decide +kernel
theorem dL_law_867 : decode cL_law 867 = .ok (.iconst 1, 1) := by decide +kernel
theorem dL_law_868 : decode cL_law 868 = .ok (.iadd, 1) := by decide +kernel
theorem dL_law_869 : decode cL_law 869 = .ok (.iaload, 1) := by decide +kernel
theorem dL_law_870 : decode cL_law 870 = .ok (.invokevirtual 116, 3) := by decide +kernel
theorem dL_law_873 : decode cL_law 873 = .ok (.aload_n 2, 1) := by decide +kernel
theorem dL_law_874 : decode cL_law 874 = .ok (.aload_n 0, 1) := by decide +kernel
theorem dL_law_875 : decode cL_law 875 = .ok (.iload_n 3, 1) := by decide +kernel
theorem dL_law_876 : decode cL_law 876 = .ok (.iconst 1, 1) := by decide +kernel
theorem dL_law_877 : decode cL_law 877 = .ok (.iadd, 1) := by decide +kernel
theorem dL_law_878 : decode cL_law 878 = .ok (.iaload, 1) := by decide +kernel
theorem dL_law_879 : decode cL_law 879 = .ok (.invokevirtual 119, 3) := by decide +kernel
theorem dL_law_882 : decode cL_law 882 = .ok (.if_icmp .eq 28, 3) := by decide +kernel
theorem dL_law_885 : decode cL_law 885 = .ok (.iconst 0, 1) := by decide +kernel
theorem dL_law_886 : decode cL_law 886 = .ok (.ireturn, 1) := by decide +kernel
theorem dL_law_887 : decode cL_law 887 = .ok (.aload_n 1, 1) := by decide +kernel
theorem dL_law_888 : decode cL_law 888 = .ok (.aload_n 0, 1) := by decide +kernel
theorem dL_law_889 : decode cL_law 889 = .ok (.iload_n 3, 1) := by decide +kernel
theorem dL_law_890 : decode cL_law 890 = .ok (.iconst 1, 1) := by decide +kernel
theorem dL_law_891 : decode cL_law 891 = .ok (.iadd, 1) := by decide +kernel
theorem dL_law_892 : decode cL_law 892 = .ok (.iaload, 1) := by decide +kernel
theorem dL_law_893 : decode cL_law 893 = .ok (.invokevirtual 120, 3) := by decide +kernel
theorem dL_law_896 : decode cL_law 896 = .ok (.aload_n 2, 1) := by decide +kernel
theorem dL_law_897 : decode cL_law 897 = .ok (.aload_n 0, 1) := by decide +kernel
theorem dL_law_898 : decode cL_law 898 = .ok (.iload_n 3, 1) := by decide +kernel
theorem dL_law_899 : decode cL_law 899 = .ok (.iconst 1, 1) := by decide +kernel
theorem dL_law_900 : decode cL_law 900 = .ok (.iadd, 1) := by decide +kernel
theorem dL_law_901 : decode cL_law 901 = .ok (.iaload, 1) := by decide +kernel
theorem dL_law_902 : decode cL_law 902 = .ok (.invokevirtual 123, 3) := by decide +kernel
theorem dL_law_905 : decode cL_law 905 = .ok (.if_icmp .eq 5, 3) := by decide +kernel
theorem dL_law_908 : decode cL_law 908 = .ok (.iconst 0, 1) := by decide +kernel
theorem dL_law_909 : decode cL_law 909 = .ok (.ireturn, 1) := by decide +kernel
theorem dL_law_910 : decode cL_law 910 = .ok (.iinc 3 4, 3) := by decide +kernel
theorem dL_law_913 : decode cL_law 913 = .ok (.goto (-895), 3) := by decide +kernel
theorem dL_law_916 : decode cL_law 916 = .ok (.iconst 1, 1) := by decide +kernel
theorem dL_law_917 : decode cL_law 917 = .ok (.ireturn, 1) := by decide +kernel
