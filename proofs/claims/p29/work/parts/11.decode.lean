theorem dX5_add_21 : decode cX5_add 21 = .ok (.invokestatic 33, 3) := by decide +kernel
theorem dX5_add_24 : decode cX5_add 24 = .ok (.invokestatic 39, 3) := by decide +kernel
theorem dX5_add_27 : decode cX5_add 27 = .ok (.istore_n 3, 1) := by decide +kernel
theorem dX5_add_28 : decode cX5_add 28 = .ok (.aload_n 1, 1) := by decide +kernel
theorem dX5_add_29 : decode cX5_add 29 = .ok (.iconst 0, 1) := by decide +kernel
theorem dX5_add_30 : decode cX5_add 30 = .ok (.aload_n 0, 1) := by decide +kernel
theorem dX5_add_31 : decode cX5_add 31 = .ok (.getfield 11, 3) := by decide +kernel
theorem dX5_add_34 : decode cX5_add 34 = .ok (.aload_n 0, 1) := by decide +kernel
theorem dX5_add_35 : decode cX5_add 35 = .ok (.getfield 23, 3) := by decide +kernel
theorem dX5_add_38 : decode cX5_add 38 = .ok (.aaload, 1) := by decide +kernel
theorem dX5_add_39 : decode cX5_add 39 = .ok (.iconst 0, 1) := by decide +kernel
theorem dX5_add_40 : decode cX5_add 40 = .ok (.iload_n 3, 1) := by decide +kernel
theorem dX5_add_41 : decode cX5_add 41 = .ok (.invokestatic 27, 3) := by decide +kernel
theorem dX5_add_44 : decode cX5_add 44 = .ok (.aload_n 0, 1) := by decide +kernel
theorem dX5_add_45 : decode cX5_add 45 = .ok (.getfield 16, 3) := by decide +kernel
theorem dX5_add_48 : decode cX5_add 48 = .ok (.aload_n 0, 1) := by decide +kernel
theorem dX5_add_49 : decode cX5_add 49 = .ok (.getfield 23, 3) := by decide +kernel
theorem dX5_add_52 : decode cX5_add 52 = .ok (.iload_n 3, 1) := by decide +kernel
theorem dX5_add_53 : decode cX5_add 53 = .ok (.iastore, 1) := by decide +kernel
theorem dX5_add_54 : decode cX5_add 54 = .ok (.aload_n 0, 1) := by decide +kernel
theorem dX5_add_55 : decode cX5_add 55 = .ok (.getfield 20, 3) := by decide +kernel
theorem dX5_add_58 : decode cX5_add 58 = .ok (.aload_n 0, 1) := by decide +kernel
theorem dX5_add_59 : decode cX5_add 59 = .ok (.getfield 23, 3) := by decide +kernel
theorem dX5_add_62 : decode cX5_add 62 = .ok (.iconst 0, 1) := by decide +kernel
theorem dX5_add_63 : decode cX5_add 63 = .ok (.iastore, 1) := by decide +kernel
theorem dX5_add_64 : decode cX5_add 64 = .ok (.aload_n 0, 1) := by decide +kernel
theorem dX5_add_65 : decode cX5_add 65 = .ok (.dup, 1) := by decide +kernel
theorem dX5_add_66 : decode cX5_add 66 = .ok (.getfield 23, 3) := by decide +kernel
theorem dX5_add_69 : decode cX5_add 69 = .ok (.iconst 1, 1) := by decide +kernel
theorem dX5_add_70 : decode cX5_add 70 = .ok (.iadd, 1) := by decide +kernel
theorem dX5_add_71 : decode cX5_add 71 = .ok (.putfield 23, 3) := by decide +kernel
theorem dX5_add_74 : decode cX5_add 74 = .ok (.aload_n 0, 1) := by decide +kernel
theorem dX5_add_75 : decode cX5_add 75 = .ok (.getfield 23, 3) := by decide +kernel
theorem dX5_add_78 : decode cX5_add 78 = .ok (.iconst 1, 1) := by decide +kernel
theorem dX5_add_79 : decode cX5_add 79 = .ok (.isub, 1) := by decide +kernel
theorem dX5_add_80 : decode cX5_add 80 = .ok (.ireturn, 1) := by decide +kernel
theorem dX5_has_0 : decode cX5_has 0 = .ok (.iload_n 1, 1) := by decide +kernel
theorem dX5_has_1 : decode cX5_has 1 = .ok (.ifCond .lt 15, 3) := by decide +kernel
theorem dX5_has_4 : decode cX5_has 4 = .ok (.iload_n 1, 1) := by decide +kernel
theorem dX5_has_5 : decode cX5_has 5 = .ok (.aload_n 0, 1) := by decide +kernel
theorem dX5_has_6 : decode cX5_has 6 = .ok (.getfield 23, 3) := by decide +kernel
theorem dX5_has_9 : decode cX5_has 9 = .ok (.if_icmp .ge 7, 3) := by decide +kernel
theorem dX5_has_12 : decode cX5_has 12 = .ok (.iconst 1, 1) := by decide +kernel
theorem dX5_has_13 : decode cX5_has 13 = .ok (.goto 4, 3) := by decide +kernel
theorem dX5_has_16 : decode cX5_has 16 = .ok (.iconst 0, 1) := by decide +kernel
theorem dX5_has_17 : decode cX5_has 17 = .ok (.ireturn, 1) := by decide +kernel
theorem dX5_hasBar_0 : decode cX5_hasBar 0 = .ok (.aload_n 0, 1) := by decide +kernel
theorem dX5_hasBar_1 : decode cX5_hasBar 1 = .ok (.iload_n 1, 1) := by decide +kernel
theorem dX5_hasBar_2 : decode cX5_hasBar 2 = .ok (.invokevirtual 42, 3) := by decide +kernel
theorem dX5_hasBar_5 : decode cX5_hasBar 5 = .ok (.ifCond .eq 21, 3) := by decide +kernel
theorem dX5_hasBar_8 : decode cX5_hasBar 8 = .ok (.iload_n 2, 1) := by decide +kernel
theorem dX5_hasBar_9 : decode cX5_hasBar 9 = .ok (.ifCond .lt 17, 3) := by decide +kernel
theorem dX5_hasBar_12 : decode cX5_hasBar 12 = .ok (.iload_n 2, 1) := by decide +kernel
theorem dX5_hasBar_13 : decode cX5_hasBar 13 = .ok (.aload_n 0, 1) := by decide +kernel
theorem dX5_hasBar_14 : decode cX5_hasBar 14 = .ok (.getfield 16, 3) := by decide +kernel
theorem dX5_hasBar_17 : decode cX5_hasBar 17 = .ok (.iload_n 1, 1) := by decide +kernel
theorem dX5_hasBar_18 : decode cX5_hasBar 18 = .ok (.iaload, 1) := by decide +kernel
theorem dX5_hasBar_19 : decode cX5_hasBar 19 = .ok (.if_icmp .ge 7, 3) := by decide +kernel
theorem dX5_hasBar_22 : decode cX5_hasBar 22 = .ok (.iconst 1, 1) := by decide +kernel
theorem dX5_hasBar_23 : decode cX5_hasBar 23 = .ok (.goto 4, 3) := by decide +kernel
theorem dX5_hasBar_26 : decode cX5_hasBar 26 = .ok (.iconst 0, 1) := by decide +kernel
theorem dX5_hasBar_27 : decode cX5_hasBar 27 = .ok (.ireturn, 1) := by decide +kernel
theorem dX5_barAt_0 : decode cX5_barAt 0 = .ok (.aload_n 0, 1) := by decide +kernel
theorem dX5_barAt_1 : decode cX5_barAt 1 = .ok (.iload_n 1, 1) := by decide +kernel
theorem dX5_barAt_2 : decode cX5_barAt 2 = .ok (.iload_n 2, 1) := by decide +kernel
theorem dX5_barAt_3 : decode cX5_barAt 3 = .ok (.invokevirtual 46, 3) := by decide +kernel
theorem dX5_barAt_6 : decode cX5_barAt 6 = .ok (.ifCond .eq 14, 3) := by decide +kernel
theorem dX5_barAt_9 : decode cX5_barAt 9 = .ok (.aload_n 0, 1) := by decide +kernel
theorem dX5_barAt_10 : decode cX5_barAt 10 = .ok (.getfield 11, 3) := by decide +kernel
theorem dX5_barAt_13 : decode cX5_barAt 13 = .ok (.iload_n 1, 1) := by decide +kernel
theorem dX5_barAt_14 : decode cX5_barAt 14 = .ok (.aaload, 1) := by decide +kernel
theorem dX5_barAt_15 : decode cX5_barAt 15 = .ok (.iload_n 2, 1) := by decide +kernel
theorem dX5_barAt_16 : decode cX5_barAt 16 = .ok (.iaload, 1) := by decide +kernel
theorem dX5_barAt_17 : decode cX5_barAt 17 = .ok (.goto 5, 3) := by decide +kernel
theorem dX5_barAt_20 : decode cX5_barAt 20 = .ok (.bipush (-6), 2) := by decide +kernel
theorem dX5_barAt_22 : decode cX5_barAt 22 = .ok (.ireturn, 1) := by decide +kernel
theorem dX5_lengthOf_0 : decode cX5_lengthOf 0 = .ok (.aload_n 0, 1) := by decide +kernel
theorem dX5_lengthOf_1 : decode cX5_lengthOf 1 = .ok (.iload_n 1, 1) := by decide +kernel
theorem dX5_lengthOf_2 : decode cX5_lengthOf 2 = .ok (.invokevirtual 42, 3) := by decide +kernel
theorem dX5_lengthOf_5 : decode cX5_lengthOf 5 = .ok (.ifCond .eq 12, 3) := by decide +kernel
theorem dX5_lengthOf_8 : decode cX5_lengthOf 8 = .ok (.aload_n 0, 1) := by decide +kernel
theorem dX5_lengthOf_9 : decode cX5_lengthOf 9 = .ok (.getfield 16, 3) := by decide +kernel
theorem dX5_lengthOf_12 : decode cX5_lengthOf 12 = .ok (.iload_n 1, 1) := by decide +kernel
theorem dX5_lengthOf_13 : decode cX5_lengthOf 13 = .ok (.iaload, 1) := by decide +kernel
theorem dX5_lengthOf_14 : decode cX5_lengthOf 14 = .ok (.goto 4, 3) := by decide +kernel
theorem dX5_lengthOf_17 : decode cX5_lengthOf 17 = .ok (.iconst 0, 1) := by decide +kernel
theorem dX5_lengthOf_18 : decode cX5_lengthOf 18 = .ok (.ireturn, 1) := by decide +kernel
theorem dX5_lastBar_0 : decode cX5_lastBar 0 = .ok (.aload_n 0, 1) := by decide +kernel
theorem dX5_lastBar_1 : decode cX5_lastBar 1 = .ok (.iload_n 1, 1) := by decide +kernel
theorem dX5_lastBar_2 : decode cX5_lastBar 2 = .ok (.aload_n 0, 1) := by decide +kernel
theorem dX5_lastBar_3 : decode cX5_lastBar 3 = .ok (.iload_n 1, 1) := by decide +kernel
theorem dX5_lastBar_4 : decode cX5_lastBar 4 = .ok (.invokevirtual 50, 3) := by decide +kernel
theorem dX5_lastBar_7 : decode cX5_lastBar 7 = .ok (.iconst 1, 1) := by decide +kernel
theorem dX5_lastBar_8 : decode cX5_lastBar 8 = .ok (.isub, 1) := by decide +kernel
theorem dX5_lastBar_9 : decode cX5_lastBar 9 = .ok (.invokevirtual 54, 3) := by decide +kernel
theorem dX5_lastBar_12 : decode cX5_lastBar 12 = .ok (.ireturn, 1) := by decide +kernel
theorem dX5_unlikeBars_0 : decode cX5_unlikeBars 0 = .ok (.iconst 0, 1) := by decide +kernel
theorem dX5_unlikeBars_1 : decode cX5_unlikeBars 1 = .ok (.istore_n 2, 1) := by decide +kernel
theorem dX5_unlikeBars_2 : decode cX5_unlikeBars 2 = .ok (.iconst 0, 1) := by decide +kernel
theorem dX5_unlikeBars_3 : decode cX5_unlikeBars 3 = .ok (.istore_n 3, 1) := by decide +kernel
theorem dX5_unlikeBars_4 : decode cX5_unlikeBars 4 = .ok (.iload_n 3, 1) := by decide +kernel
theorem dX5_unlikeBars_5 : decode cX5_unlikeBars 5 = .ok (.aload_n 0, 1) := by decide +kernel
theorem dX5_unlikeBars_6 : decode cX5_unlikeBars 6 = .ok (.iload_n 1, 1) := by decide +kernel
theorem dX5_unlikeBars_7 : decode cX5_unlikeBars 7 = .ok (.invokevirtual 50, 3) := by decide +kernel
theorem dX5_unlikeBars_10 : decode cX5_unlikeBars 10 = .ok (.if_icmp .ge 20, 3) := by decide +kernel
theorem dX5_unlikeBars_13 : decode cX5_unlikeBars 13 = .ok (.iload_n 2, 1) := by decide +kernel
theorem dX5_unlikeBars_14 : decode cX5_unlikeBars 14 = .ok (.iconst 1, 1) := by decide +kernel
theorem dX5_unlikeBars_15 : decode cX5_unlikeBars 15 = .ok (.aload_n 0, 1) := by decide +kernel
theorem dX5_unlikeBars_16 : decode cX5_unlikeBars 16 = .ok (.iload_n 1, 1) := by decide +kernel
theorem dX5_unlikeBars_17 : decode cX5_unlikeBars 17 = .ok (.iload_n 3, 1) := by decide +kernel
theorem dX5_unlikeBars_18 : decode cX5_unlikeBars 18 = .ok (.invokevirtual 54, 3) := by decide +kernel
theorem dX5_unlikeBars_21 : decode cX5_unlikeBars 21 = .ok (.ishl, 1) := by decide +kernel
theorem dX5_unlikeBars_22 : decode cX5_unlikeBars 22 = .ok (.ior, 1) := by decide +kernel
theorem dX5_unlikeBars_23 : decode cX5_unlikeBars 23 = .ok (.istore_n 2, 1) := by decide +kernel
theorem dX5_unlikeBars_24 : decode cX5_unlikeBars 24 = .ok (.iinc 3 1, 3) := by decide +kernel
theorem dX5_unlikeBars_27 : decode cX5_unlikeBars 27 = .ok (.goto (-23), 3) := by decide +kernel
theorem dX5_unlikeBars_30 : decode cX5_unlikeBars 30 = .ok (.iload_n 2, 1) := by decide +kernel
theorem dX5_unlikeBars_31 : decode cX5_unlikeBars 31 = .ok (.invokestatic 57, 3) := by decide +kernel
theorem dX5_unlikeBars_34 : decode cX5_unlikeBars 34 = .ok (.ireturn, 1) := by decide +kernel
theorem dX5_countLesson_0 : decode cX5_countLesson 0 = .ok (.aload_n 0, 1) := by decide +kernel
theorem dX5_countLesson_1 : decode cX5_countLesson 1 = .ok (.iload_n 1, 1) := by decide +kernel
theorem dX5_countLesson_2 : decode cX5_countLesson 2 = .ok (.invokevirtual 42, 3) := by decide +kernel
theorem dX5_countLesson_5 : decode cX5_countLesson 5 = .ok (.ifCond .eq 13, 3) := by decide +kernel
theorem dX5_countLesson_8 : decode cX5_countLesson 8 = .ok (.aload_n 0, 1) := by decide +kernel
theorem dX5_countLesson_9 : decode cX5_countLesson 9 = .ok (.getfield 20, 3) := by decide +kernel
theorem dX5_countLesson_12 : decode cX5_countLesson 12 = .ok (.iload_n 1, 1) := by decide +kernel
theorem dX5_countLesson_13 : decode cX5_countLesson 13 = .ok (.dup2, 1) := by decide +kernel
theorem dX5_countLesson_14 : decode cX5_countLesson 14 = .ok (.iaload, 1) := by decide +kernel
theorem dX5_countLesson_15 : decode cX5_countLesson 15 = .ok (.iconst 1, 1) := by decide +kernel
theorem dX5_countLesson_16 : decode cX5_countLesson 16 = .ok (.iadd, 1) := by decide +kernel
theorem dX5_countLesson_17 : decode cX5_countLesson 17 = .ok (.iastore, 1) := by decide +kernel
theorem dX5_countLesson_18 : decode cX5_countLesson 18 = .ok (.return_, 1) := by decide +kernel
theorem dX5_lessonsWith_0 : decode cX5_lessonsWith 0 = .ok (.aload_n 0, 1) := by decide +kernel
theorem dX5_lessonsWith_1 : decode cX5_lessonsWith 1 = .ok (.iload_n 1, 1) := by decide +kernel
theorem dX5_lessonsWith_2 : decode cX5_lessonsWith 2 = .ok (.invokevirtual 42, 3) := by decide +kernel
theorem dX5_lessonsWith_5 : decode cX5_lessonsWith 5 = .ok (.ifCond .eq 12, 3) := by decide +kernel
theorem dX5_lessonsWith_8 : decode cX5_lessonsWith 8 = .ok (.aload_n 0, 1) := by decide +kernel
theorem dX5_lessonsWith_9 : decode cX5_lessonsWith 9 = .ok (.getfield 20, 3) := by decide +kernel
theorem dX5_lessonsWith_12 : decode cX5_lessonsWith 12 = .ok (.iload_n 1, 1) := by decide +kernel
theorem dX5_lessonsWith_13 : decode cX5_lessonsWith 13 = .ok (.iaload, 1) := by decide +kernel
theorem dX5_lessonsWith_14 : decode cX5_lessonsWith 14 = .ok (.goto 4, 3) := by decide +kernel
theorem dX5_lessonsWith_17 : decode cX5_lessonsWith 17 = .ok (.iconst 0, 1) := by decide +kernel
theorem dX5_lessonsWith_18 : decode cX5_lessonsWith 18 = .ok (.ireturn, 1) := by decide +kernel
theorem dX5_lessonsInAll_0 : decode cX5_lessonsInAll 0 = .ok (.iconst 0, 1) := by decide +kernel
theorem dX5_lessonsInAll_1 : decode cX5_lessonsInAll 1 = .ok (.istore_n 1, 1) := by decide +kernel
theorem dX5_lessonsInAll_2 : decode cX5_lessonsInAll 2 = .ok (.iconst 0, 1) := by decide +kernel
theorem dX5_lessonsInAll_3 : decode cX5_lessonsInAll 3 = .ok (.istore_n 2, 1) := by decide +kernel
theorem dX5_lessonsInAll_4 : decode cX5_lessonsInAll 4 = .ok (.iload_n 2, 1) := by decide +kernel
theorem dX5_lessonsInAll_5 : decode cX5_lessonsInAll 5 = .ok (.aload_n 0, 1) := by decide +kernel
theorem dX5_lessonsInAll_6 : decode cX5_lessonsInAll 6 = .ok (.getfield 23, 3) := by decide +kernel
theorem dX5_lessonsInAll_9 : decode cX5_lessonsInAll 9 = .ok (.if_icmp .ge 18, 3) := by decide +kernel
theorem dX5_lessonsInAll_12 : decode cX5_lessonsInAll 12 = .ok (.iload_n 1, 1) := by decide +kernel
theorem dX5_lessonsInAll_13 : decode cX5_lessonsInAll 13 = .ok (.aload_n 0, 1) := by decide +kernel
theorem dX5_lessonsInAll_14 : decode cX5_lessonsInAll 14 = .ok (.getfield 20, 3) := by decide +kernel
theorem dX5_lessonsInAll_17 : decode cX5_lessonsInAll 17 = .ok (.iload_n 2, 1) := by decide +kernel
theorem dX5_lessonsInAll_18 : decode cX5_lessonsInAll 18 = .ok (.iaload, 1) := by decide +kernel
theorem dX5_lessonsInAll_19 : decode cX5_lessonsInAll 19 = .ok (.iadd, 1) := by decide +kernel
theorem dX5_lessonsInAll_20 : decode cX5_lessonsInAll 20 = .ok (.istore_n 1, 1) := by decide +kernel
theorem dX5_lessonsInAll_21 : decode cX5_lessonsInAll 21 = .ok (.iinc 2 1, 3) := by decide +kernel
theorem dX5_lessonsInAll_24 : decode cX5_lessonsInAll 24 = .ok (.goto (-20), 3) := by decide +kernel
theorem dX5_lessonsInAll_27 : decode cX5_lessonsInAll 27 = .ok (.iload_n 1, 1) := by decide +kernel
theorem dX5_lessonsInAll_28 : decode cX5_lessonsInAll 28 = .ok (.ireturn, 1) := by decide +kernel
theorem dX5_firstWrong_0 : decode cX5_firstWrong 0 = .ok (.iconst 1, 1) := by decide +kernel
theorem dX5_firstWrong_1 : decode cX5_firstWrong 1 = .ok (.istore_n 3, 1) := by decide +kernel
theorem dX5_firstWrong_2 : decode cX5_firstWrong 2 = .ok (.iload_n 3, 1) := by decide +kernel
theorem dX5_firstWrong_3 : decode cX5_firstWrong 3 = .ok (.aload_n 0, 1) := by decide +kernel
theorem dX5_firstWrong_4 : decode cX5_firstWrong 4 = .ok (.iload_n 2, 1) := by decide +kernel
theorem dX5_firstWrong_5 : decode cX5_firstWrong 5 = .ok (.invokevirtual 50, 3) := by decide +kernel
theorem dX5_firstWrong_8 : decode cX5_firstWrong 8 = .ok (.if_icmp .ge 30, 3) := by decide +kernel
theorem dX5_firstWrong_11 : decode cX5_firstWrong 11 = .ok (.aload_n 1, 1) := by decide +kernel
theorem dX5_firstWrong_12 : decode cX5_firstWrong 12 = .ok (.aload_n 0, 1) := by decide +kernel
theorem dX5_firstWrong_13 : decode cX5_firstWrong 13 = .ok (.iload_n 2, 1) := by decide +kernel
theorem dX5_firstWrong_14 : decode cX5_firstWrong 14 = .ok (.iload_n 3, 1) := by decide +kernel
theorem dX5_firstWrong_15 : decode cX5_firstWrong 15 = .ok (.iconst 1, 1) := by decide +kernel
theorem dX5_firstWrong_16 : decode cX5_firstWrong 16 = .ok (.isub, 1) := by decide +kernel
theorem dX5_firstWrong_17 : decode cX5_firstWrong 17 = .ok (.invokevirtual 54, 3) := by decide +kernel
theorem dX5_firstWrong_20 : decode cX5_firstWrong 20 = .ok (.invokevirtual 62, 3) := by decide +kernel
theorem dX5_firstWrong_23 : decode cX5_firstWrong 23 = .ok (.aload_n 0, 1) := by decide +kernel
theorem dX5_firstWrong_24 : decode cX5_firstWrong 24 = .ok (.iload_n 2, 1) := by decide +kernel
theorem dX5_firstWrong_25 : decode cX5_firstWrong 25 = .ok (.iload_n 3, 1) := by decide +kernel
theorem dX5_firstWrong_26 : decode cX5_firstWrong 26 = .ok (.invokevirtual 54, 3) := by decide +kernel
theorem dX5_firstWrong_29 : decode cX5_firstWrong 29 = .ok (.if_icmp .ne 9, 3) := by decide +kernel
theorem dX5_firstWrong_32 : decode cX5_firstWrong 32 = .ok (.iinc 3 1, 3) := by decide +kernel
theorem dX5_firstWrong_35 : decode cX5_firstWrong 35 = .ok (.goto (-33), 3) := by decide +kernel
theorem dX5_firstWrong_38 : decode cX5_firstWrong 38 = .ok (.iload_n 3, 1) := by decide +kernel
theorem dX5_firstWrong_39 : decode cX5_firstWrong 39 = .ok (.ireturn, 1) := by decide +kernel
theorem dX5_isKnownBy_0 : decode cX5_isKnownBy 0 = .ok (.aload_n 0, 1) := by decide +kernel
theorem dX5_isKnownBy_1 : decode cX5_isKnownBy 1 = .ok (.aload_n 1, 1) := by decide +kernel
theorem dX5_isKnownBy_2 : decode cX5_isKnownBy 2 = .ok (.iload_n 2, 1) := by decide +kernel
theorem dX5_isKnownBy_3 : decode cX5_isKnownBy 3 = .ok (.invokevirtual 67, 3) := by decide +kernel
theorem dX5_isKnownBy_6 : decode cX5_isKnownBy 6 = .ok (.aload_n 0, 1) := by decide +kernel
theorem dX5_isKnownBy_7 : decode cX5_isKnownBy 7 = .ok (.iload_n 2, 1) := by decide +kernel
theorem dX5_isKnownBy_8 : decode cX5_isKnownBy 8 = .ok (.invokevirtual 50, 3) := by decide +kernel
theorem dX5_isKnownBy_11 : decode cX5_isKnownBy 11 = .ok (.if_icmp .lt 7, 3) := by decide +kernel
theorem dX5_isKnownBy_14 : decode cX5_isKnownBy 14 = .ok (.iconst 1, 1) := by decide +kernel
theorem dX5_isKnownBy_15 : decode cX5_isKnownBy 15 = .ok (.goto 4, 3) := by decide +kernel
theorem dX5_isKnownBy_18 : decode cX5_isKnownBy 18 = .ok (.iconst 0, 1) := by decide +kernel
theorem dX5_isKnownBy_19 : decode cX5_isKnownBy 19 = .ok (.ireturn, 1) := by decide +kernel
theorem dX5_hundredths_0 : decode cX5_hundredths 0 = .ok (.aload_n 0, 1) := by decide +kernel
theorem dX5_hundredths_1 : decode cX5_hundredths 1 = .ok (.iload_n 2, 1) := by decide +kernel
theorem dX5_hundredths_2 : decode cX5_hundredths 2 = .ok (.invokevirtual 50, 3) := by decide +kernel
theorem dX5_hundredths_5 : decode cX5_hundredths 5 = .ok (.iconst 1, 1) := by decide +kernel
theorem dX5_hundredths_6 : decode cX5_hundredths 6 = .ok (.isub, 1) := by decide +kernel
theorem dX5_hundredths_7 : decode cX5_hundredths 7 = .ok (.istore_n 3, 1) := by decide +kernel
theorem dX5_hundredths_8 : decode cX5_hundredths 8 = .ok (.iload_n 3, 1) := by decide +kernel
theorem dX5_hundredths_9 : decode cX5_hundredths 9 = .ok (.iconst 1, 1) := by decide +kernel
theorem dX5_hundredths_10 : decode cX5_hundredths 10 = .ok (.if_icmp .ge 6, 3) := by decide +kernel
theorem dX5_hundredths_13 : decode cX5_hundredths 13 = .ok (.bipush 100, 2) := by decide +kernel
theorem dX5_hundredths_15 : decode cX5_hundredths 15 = .ok (.ireturn, 1) := by decide +kernel
theorem dX5_hundredths_16 : decode cX5_hundredths 16 = .ok (.bipush 100, 2) := by decide +kernel
theorem dX5_hundredths_18 : decode cX5_hundredths 18 = .ok (.aload_n 0, 1) := by decide +kernel
theorem dX5_hundredths_19 : decode cX5_hundredths 19 = .ok (.aload_n 1, 1) := by decide +kernel
theorem dX5_hundredths_20 : decode cX5_hundredths 20 = .ok (.iload_n 2, 1) := by decide +kernel
theorem dX5_hundredths_21 : decode cX5_hundredths 21 = .ok (.invokevirtual 67, 3) := by decide +kernel
theorem dX5_hundredths_24 : decode cX5_hundredths 24 = .ok (.iconst 1, 1) := by decide +kernel
theorem dX5_hundredths_25 : decode cX5_hundredths 25 = .ok (.isub, 1) := by decide +kernel
theorem dX5_hundredths_26 : decode cX5_hundredths 26 = .ok (.imul, 1) := by decide +kernel
theorem dX5_hundredths_27 : decode cX5_hundredths 27 = .ok (.iload_n 3, 1) := by decide +kernel
theorem dX5_hundredths_28 : decode cX5_hundredths 28 = .ok (.idiv, 1) := by decide +kernel
theorem dX5_hundredths_29 : decode cX5_hundredths 29 = .ok (.ireturn, 1) := by decide +kernel
theorem dX5_hundredthsInAll_0 : decode cX5_hundredthsInAll 0 = .ok (.iconst 0, 1) := by decide +kernel
theorem dX5_hundredthsInAll_1 : decode cX5_hundredthsInAll 1 = .ok (.istore_n 2, 1) := by decide +kernel
theorem dX5_hundredthsInAll_2 : decode cX5_hundredthsInAll 2 = .ok (.iconst 0, 1) := by decide +kernel
theorem dX5_hundredthsInAll_3 : decode cX5_hundredthsInAll 3 = .ok (.istore_n 3, 1) := by decide +kernel
theorem dX5_hundredthsInAll_4 : decode cX5_hundredthsInAll 4 = .ok (.iload_n 3, 1) := by decide +kernel
theorem dX5_hundredthsInAll_5 : decode cX5_hundredthsInAll 5 = .ok (.aload_n 0, 1) := by decide +kernel
theorem dX5_hundredthsInAll_6 : decode cX5_hundredthsInAll 6 = .ok (.getfield 23, 3) := by decide +kernel
theorem dX5_hundredthsInAll_9 : decode cX5_hundredthsInAll 9 = .ok (.if_icmp .ge 18, 3) := by decide +kernel
theorem dX5_hundredthsInAll_12 : decode cX5_hundredthsInAll 12 = .ok (.iload_n 2, 1) := by decide +kernel
theorem dX5_hundredthsInAll_13 : decode cX5_hundredthsInAll 13 = .ok (.aload_n 0, 1) := by decide +kernel
theorem dX5_hundredthsInAll_14 : decode cX5_hundredthsInAll 14 = .ok (.aload_n 1, 1) := by decide +kernel
theorem dX5_hundredthsInAll_15 : decode cX5_hundredthsInAll 15 = .ok (.iload_n 3, 1) := by decide +kernel
theorem dX5_hundredthsInAll_16 : decode cX5_hundredthsInAll 16 = .ok (.invokevirtual 71, 3) := by decide +kernel
theorem dX5_hundredthsInAll_19 : decode cX5_hundredthsInAll 19 = .ok (.iadd, 1) := by decide +kernel
theorem dX5_hundredthsInAll_20 : decode cX5_hundredthsInAll 20 = .ok (.istore_n 2, 1) := by decide +kernel
theorem dX5_hundredthsInAll_21 : decode cX5_hundredthsInAll 21 = .ok (.iinc 3 1, 3) := by decide +kernel
theorem dX5_hundredthsInAll_24 : decode cX5_hundredthsInAll 24 = .ok (.goto (-20), 3) := by decide +kernel
theorem dX5_hundredthsInAll_27 : decode cX5_hundredthsInAll 27 = .ok (.iload_n 2, 1) := by decide +kernel
theorem dX5_hundredthsInAll_28 : decode cX5_hundredthsInAll 28 = .ok (.ireturn, 1) := by decide +kernel
theorem dX5_knownBy_0 : decode cX5_knownBy 0 = .ok (.iconst 0, 1) := by decide +kernel
theorem dX5_knownBy_1 : decode cX5_knownBy 1 = .ok (.istore_n 2, 1) := by decide +kernel
theorem dX5_knownBy_2 : decode cX5_knownBy 2 = .ok (.iconst 0, 1) := by decide +kernel
theorem dX5_knownBy_3 : decode cX5_knownBy 3 = .ok (.istore_n 3, 1) := by decide +kernel
theorem dX5_knownBy_4 : decode cX5_knownBy 4 = .ok (.iload_n 3, 1) := by decide +kernel
theorem dX5_knownBy_5 : decode cX5_knownBy 5 = .ok (.aload_n 0, 1) := by decide +kernel
theorem dX5_knownBy_6 : decode cX5_knownBy 6 = .ok (.getfield 23, 3) := by decide +kernel
theorem dX5_knownBy_9 : decode cX5_knownBy 9 = .ok (.if_icmp .ge 24, 3) := by decide +kernel
theorem dX5_knownBy_12 : decode cX5_knownBy 12 = .ok (.aload_n 0, 1) := by decide +kernel
theorem dX5_knownBy_13 : decode cX5_knownBy 13 = .ok (.aload_n 1, 1) := by decide +kernel
theorem dX5_knownBy_14 : decode cX5_knownBy 14 = .ok (.iload_n 3, 1) := by decide +kernel
theorem dX5_knownBy_15 : decode cX5_knownBy 15 = .ok (.invokevirtual 74, 3) := by decide +kernel
theorem dX5_knownBy_18 : decode cX5_knownBy 18 = .ok (.ifCond .eq 9, 3) := by decide +kernel
theorem dX5_knownBy_21 : decode cX5_knownBy 21 = .ok (.iload_n 2, 1) := by decide +kernel
theorem dX5_knownBy_22 : decode cX5_knownBy 22 = .ok (.iconst 1, 1) := by decide +kernel
theorem dX5_knownBy_23 : decode cX5_knownBy 23 = .ok (.iload_n 3, 1) := by decide +kernel
theorem dX5_knownBy_24 : decode cX5_knownBy 24 = .ok (.ishl, 1) := by decide +kernel
theorem dX5_knownBy_25 : decode cX5_knownBy 25 = .ok (.ior, 1) := by decide +kernel
theorem dX5_knownBy_26 : decode cX5_knownBy 26 = .ok (.istore_n 2, 1) := by decide +kernel
theorem dX5_knownBy_27 : decode cX5_knownBy 27 = .ok (.iinc 3 1, 3) := by decide +kernel
theorem dX5_knownBy_30 : decode cX5_knownBy 30 = .ok (.goto (-26), 3) := by decide +kernel
theorem dX5_knownBy_33 : decode cX5_knownBy 33 = .ok (.iload_n 2, 1) := by decide +kernel
theorem dX5_knownBy_34 : decode cX5_knownBy 34 = .ok (.ireturn, 1) := by decide +kernel
theorem dX5_songsFrom_0 : decode cX5_songsFrom 0 = .ok (.iconst 0, 1) := by decide +kernel
theorem dX5_songsFrom_1 : decode cX5_songsFrom 1 = .ok (.istore_n 2, 1) := by decide +kernel
theorem dX5_songsFrom_2 : decode cX5_songsFrom 2 = .ok (.iconst 0, 1) := by decide +kernel
theorem dX5_songsFrom_3 : decode cX5_songsFrom 3 = .ok (.istore_n 3, 1) := by decide +kernel
theorem dX5_songsFrom_4 : decode cX5_songsFrom 4 = .ok (.iload_n 3, 1) := by decide +kernel
theorem dX5_songsFrom_5 : decode cX5_songsFrom 5 = .ok (.aload_n 0, 1) := by decide +kernel
theorem dX5_songsFrom_6 : decode cX5_songsFrom 6 = .ok (.getfield 23, 3) := by decide +kernel
theorem dX5_songsFrom_9 : decode cX5_songsFrom 9 = .ok (.if_icmp .ge 25, 3) := by decide +kernel
theorem dX5_songsFrom_12 : decode cX5_songsFrom 12 = .ok (.aload_n 0, 1) := by decide +kernel
theorem dX5_songsFrom_13 : decode cX5_songsFrom 13 = .ok (.iload_n 3, 1) := by decide +kernel
theorem dX5_songsFrom_14 : decode cX5_songsFrom 14 = .ok (.iconst 0, 1) := by decide +kernel
theorem dX5_songsFrom_15 : decode cX5_songsFrom 15 = .ok (.invokevirtual 54, 3) := by decide +kernel
theorem dX5_songsFrom_18 : decode cX5_songsFrom 18 = .ok (.iload_n 1, 1) := by decide +kernel
theorem dX5_songsFrom_19 : decode cX5_songsFrom 19 = .ok (.if_icmp .ne 9, 3) := by decide +kernel
theorem dX5_songsFrom_22 : decode cX5_songsFrom 22 = .ok (.iload_n 2, 1) := by decide +kernel
theorem dX5_songsFrom_23 : decode cX5_songsFrom 23 = .ok (.iconst 1, 1) := by decide +kernel
theorem dX5_songsFrom_24 : decode cX5_songsFrom 24 = .ok (.iload_n 3, 1) := by decide +kernel
theorem dX5_songsFrom_25 : decode cX5_songsFrom 25 = .ok (.ishl, 1) := by decide +kernel
theorem dX5_songsFrom_26 : decode cX5_songsFrom 26 = .ok (.ior, 1) := by decide +kernel
theorem dX5_songsFrom_27 : decode cX5_songsFrom 27 = .ok (.istore_n 2, 1) := by decide +kernel
theorem dX5_songsFrom_28 : decode cX5_songsFrom 28 = .ok (.iinc 3 1, 3) := by decide +kernel
theorem dX5_songsFrom_31 : decode cX5_songsFrom 31 = .ok (.goto (-27), 3) := by decide +kernel
theorem dX5_songsFrom_34 : decode cX5_songsFrom 34 = .ok (.iload_n 2, 1) := by decide +kernel
theorem dX5_songsFrom_35 : decode cX5_songsFrom 35 = .ok (.ireturn, 1) := by decide +kernel
theorem dX5_songsWithPair_0 : decode cX5_songsWithPair 0 = .ok (.iconst 0, 1) := by decide +kernel
theorem dX5_songsWithPair_1 : decode cX5_songsWithPair 1 = .ok (.istore_n 3, 1) := by decide +kernel
theorem dX5_songsWithPair_2 : decode cX5_songsWithPair 2 = .ok (.iconst 0, 1) := by decide +kernel
theorem dX5_songsWithPair_3 : decode cX5_songsWithPair 3 = .ok (.istore 4, 2) := by decide +kernel
theorem dX5_songsWithPair_5 : decode cX5_songsWithPair 5 = .ok (.iload 4, 2) := by decide +kernel
theorem dX5_songsWithPair_7 : decode cX5_songsWithPair 7 = .ok (.aload_n 0, 1) := by decide +kernel
theorem dX5_songsWithPair_8 : decode cX5_songsWithPair 8 = .ok (.getfield 23, 3) := by decide +kernel
theorem dX5_songsWithPair_11 : decode cX5_songsWithPair 11 = .ok (.if_icmp .ge 27, 3) := by decide +kernel
theorem dX5_songsWithPair_14 : decode cX5_songsWithPair 14 = .ok (.aload_n 0, 1) := by decide +kernel
theorem dX5_songsWithPair_15 : decode cX5_songsWithPair 15 = .ok (.iload 4, 2) := by decide +kernel
theorem dX5_songsWithPair_17 : decode cX5_songsWithPair 17 = .ok (.iload_n 1, 1) := by decide +kernel
theorem dX5_songsWithPair_18 : decode cX5_songsWithPair 18 = .ok (.iload_n 2, 1) := by decide +kernel
theorem dX5_songsWithPair_19 : decode cX5_songsWithPair 19 = .ok (.invokevirtual 78, 3) := by decide +kernel
theorem dX5_songsWithPair_22 : decode cX5_songsWithPair 22 = .ok (.ifCond .eq 10, 3) := by decide +kernel
theorem dX5_songsWithPair_25 : decode cX5_songsWithPair 25 = .ok (.iload_n 3, 1) := by decide +kernel
theorem dX5_songsWithPair_26 : decode cX5_songsWithPair 26 = .ok (.iconst 1, 1) := by decide +kernel
theorem dX5_songsWithPair_27 : decode cX5_songsWithPair 27 = .ok (.iload 4, 2) := by decide +kernel
theorem dX5_songsWithPair_29 : decode cX5_songsWithPair 29 = .ok (.ishl, 1) := by decide +kernel
theorem dX5_songsWithPair_30 : decode cX5_songsWithPair 30 = .ok (.ior, 1) := by decide +kernel
theorem dX5_songsWithPair_31 : decode cX5_songsWithPair 31 = .ok (.istore_n 3, 1) := by decide +kernel
theorem dX5_songsWithPair_32 : decode cX5_songsWithPair 32 = .ok (.iinc 4 1, 3) := by decide +kernel
theorem dX5_songsWithPair_35 : decode cX5_songsWithPair 35 = .ok (.goto (-30), 3) := by decide +kernel
theorem dX5_songsWithPair_38 : decode cX5_songsWithPair 38 = .ok (.iload_n 3, 1) := by decide +kernel
theorem dX5_songsWithPair_39 : decode cX5_songsWithPair 39 = .ok (.ireturn, 1) := by decide +kernel
theorem dX5_hasPair_0 : decode cX5_hasPair 0 = .ok (.iconst 1, 1) := by decide +kernel
theorem dX5_hasPair_1 : decode cX5_hasPair 1 = .ok (.istore 4, 2) := by decide +kernel
theorem dX5_hasPair_3 : decode cX5_hasPair 3 = .ok (.iload 4, 2) := by decide +kernel
theorem dX5_hasPair_5 : decode cX5_hasPair 5 = .ok (.aload_n 0, 1) := by decide +kernel
theorem dX5_hasPair_6 : decode cX5_hasPair 6 = .ok (.iload_n 1, 1) := by decide +kernel
theorem dX5_hasPair_7 : decode cX5_hasPair 7 = .ok (.invokevirtual 50, 3) := by decide +kernel
theorem dX5_hasPair_10 : decode cX5_hasPair 10 = .ok (.if_icmp .ge 35, 3) := by decide +kernel
theorem dX5_hasPair_13 : decode cX5_hasPair 13 = .ok (.aload_n 0, 1) := by decide +kernel
theorem dX5_hasPair_14 : decode cX5_hasPair 14 = .ok (.iload_n 1, 1) := by decide +kernel
theorem dX5_hasPair_15 : decode cX5_hasPair 15 = .ok (.iload 4, 2) := by decide +kernel
theorem dX5_hasPair_17 : decode cX5_hasPair 17 = .ok (.iconst 1, 1) := by decide +kernel
theorem dX5_hasPair_18 : decode cX5_hasPair 18 = .ok (.isub, 1) := by decide +kernel
theorem dX5_hasPair_19 : decode cX5_hasPair 19 = .ok (.invokevirtual 54, 3) := by decide +kernel
theorem dX5_hasPair_22 : decode cX5_hasPair 22 = .ok (.iload_n 2, 1) := by decide +kernel
theorem dX5_hasPair_23 : decode cX5_hasPair 23 = .ok (.if_icmp .ne 16, 3) := by decide +kernel
theorem dX5_hasPair_26 : decode cX5_hasPair 26 = .ok (.aload_n 0, 1) := by decide +kernel
theorem dX5_hasPair_27 : decode cX5_hasPair 27 = .ok (.iload_n 1, 1) := by decide +kernel
theorem dX5_hasPair_28 : decode cX5_hasPair 28 = .ok (.iload 4, 2) := by decide +kernel
theorem dX5_hasPair_30 : decode cX5_hasPair 30 = .ok (.invokevirtual 54, 3) := by decide +kernel
theorem dX5_hasPair_33 : decode cX5_hasPair 33 = .ok (.iload_n 3, 1) := by decide +kernel
theorem dX5_hasPair_34 : decode cX5_hasPair 34 = .ok (.if_icmp .ne 5, 3) := by decide +kernel
theorem dX5_hasPair_37 : decode cX5_hasPair 37 = .ok (.iconst 1, 1) := by decide +kernel
theorem dX5_hasPair_38 : decode cX5_hasPair 38 = .ok (.ireturn, 1) := by decide +kernel
theorem dX5_hasPair_39 : decode cX5_hasPair 39 = .ok (.iinc 4 1, 3) := by decide +kernel
theorem dX5_hasPair_42 : decode cX5_hasPair 42 = .ok (.goto (-39), 3) := by decide +kernel
theorem dX5_hasPair_45 : decode cX5_hasPair 45 = .ok (.iconst 0, 1) := by decide +kernel
theorem dX5_hasPair_46 : decode cX5_hasPair 46 = .ok (.ireturn, 1) := by decide +kernel
theorem dX5_sameAtEnd_0 : decode cX5_sameAtEnd 0 = .ok (.aload_n 0, 1) := by decide +kernel
theorem dX5_sameAtEnd_1 : decode cX5_sameAtEnd 1 = .ok (.iload_n 1, 1) := by decide +kernel
theorem dX5_sameAtEnd_2 : decode cX5_sameAtEnd 2 = .ok (.invokevirtual 50, 3) := by decide +kernel
theorem dX5_sameAtEnd_5 : decode cX5_sameAtEnd 5 = .ok (.aload_n 0, 1) := by decide +kernel
theorem dX5_sameAtEnd_6 : decode cX5_sameAtEnd 6 = .ok (.iload_n 2, 1) := by decide +kernel
theorem dX5_sameAtEnd_7 : decode cX5_sameAtEnd 7 = .ok (.invokevirtual 50, 3) := by decide +kernel
theorem dX5_sameAtEnd_10 : decode cX5_sameAtEnd 10 = .ok (.invokestatic 33, 3) := by decide +kernel
theorem dX5_sameAtEnd_13 : decode cX5_sameAtEnd 13 = .ok (.istore_n 3, 1) := by decide +kernel
theorem dX5_sameAtEnd_14 : decode cX5_sameAtEnd 14 = .ok (.iconst 0, 1) := by decide +kernel
theorem dX5_sameAtEnd_15 : decode cX5_sameAtEnd 15 = .ok (.istore 4, 2) := by decide +kernel
theorem dX5_sameAtEnd_17 : decode cX5_sameAtEnd 17 = .ok (.iload 4, 2) := by decide +kernel
theorem dX5_sameAtEnd_19 : decode cX5_sameAtEnd 19 = .ok (.iload_n 3, 1) := by decide +kernel
theorem dX5_sameAtEnd_20 : decode cX5_sameAtEnd 20 = .ok (.if_icmp .ge 42, 3) := by decide +kernel
theorem dX5_sameAtEnd_23 : decode cX5_sameAtEnd 23 = .ok (.aload_n 0, 1) := by decide +kernel
theorem dX5_sameAtEnd_24 : decode cX5_sameAtEnd 24 = .ok (.iload_n 1, 1) := by decide +kernel
theorem dX5_sameAtEnd_25 : decode cX5_sameAtEnd 25 = .ok (.aload_n 0, 1) := by decide +kernel
theorem dX5_sameAtEnd_26 : decode cX5_sameAtEnd 26 = .ok (.iload_n 1, 1) := by decide +kernel
theorem dX5_sameAtEnd_27 : decode cX5_sameAtEnd 27 = .ok (.invokevirtual 50, 3) := by decide +kernel
theorem dX5_sameAtEnd_30 : decode cX5_sameAtEnd 30 = .ok (.iconst 1, 1) := by decide +kernel
theorem dX5_sameAtEnd_31 : decode cX5_sameAtEnd 31 = .ok (.isub, 1) := by decide +kernel
theorem dX5_sameAtEnd_32 : decode cX5_sameAtEnd 32 = .ok (.iload 4, 2) := by decide +kernel
theorem dX5_sameAtEnd_34 : decode cX5_sameAtEnd 34 = .ok (.isub, 1) := by decide +kernel
theorem dX5_sameAtEnd_35 : decode cX5_sameAtEnd 35 = .ok (.invokevirtual 54, 3) := by decide +kernel
theorem dX5_sameAtEnd_38 : decode cX5_sameAtEnd 38 = .ok (.aload_n 0, 1) := by decide +kernel
theorem dX5_sameAtEnd_39 : decode cX5_sameAtEnd 39 = .ok (.iload_n 2, 1) := by decide +kernel
theorem dX5_sameAtEnd_40 : decode cX5_sameAtEnd 40 = .ok (.aload_n 0, 1) := by decide +kernel
theorem dX5_sameAtEnd_41 : decode cX5_sameAtEnd 41 = .ok (.iload_n 2, 1) := by decide +kernel
theorem dX5_sameAtEnd_42 : decode cX5_sameAtEnd 42 = .ok (.invokevirtual 50, 3) := by decide +kernel
theorem dX5_sameAtEnd_45 : decode cX5_sameAtEnd 45 = .ok (.iconst 1, 1) := by decide +kernel
theorem dX5_sameAtEnd_46 : decode cX5_sameAtEnd 46 = .ok (.isub, 1) := by decide +kernel
theorem dX5_sameAtEnd_47 : decode cX5_sameAtEnd 47 = .ok (.iload 4, 2) := by decide +kernel
theorem dX5_sameAtEnd_49 : decode cX5_sameAtEnd 49 = .ok (.isub, 1) := by decide +kernel
theorem dX5_sameAtEnd_50 : decode cX5_sameAtEnd 50 = .ok (.invokevirtual 54, 3) := by decide +kernel
theorem dX5_sameAtEnd_53 : decode cX5_sameAtEnd 53 = .ok (.if_icmp .ne 9, 3) := by decide +kernel
theorem dX5_sameAtEnd_56 : decode cX5_sameAtEnd 56 = .ok (.iinc 4 1, 3) := by decide +kernel
theorem dX5_sameAtEnd_59 : decode cX5_sameAtEnd 59 = .ok (.goto (-42), 3) := by decide +kernel
theorem dX5_sameAtEnd_62 : decode cX5_sameAtEnd 62 = .ok (.iload 4, 2) := by decide +kernel
theorem dX5_sameAtEnd_64 : decode cX5_sameAtEnd 64 = .ok (.ireturn, 1) := by decide +kernel
theorem dX6_init_0 : decode cX6_init 0 = .ok (.aload_n 0, 1) := by decide +kernel
theorem dX6_init_1 : decode cX6_init 1 = .ok (.invokespecial 1, 3) := by decide +kernel
theorem dX6_init_4 : decode cX6_init 4 = .ok (.aload_n 0, 1) := by decide +kernel
theorem dX6_init_5 : decode cX6_init 5 = .ok (.new 7, 3) := by decide +kernel
theorem dX6_init_8 : decode cX6_init 8 = .ok (.dup, 1) := by decide +kernel
theorem dX6_init_9 : decode cX6_init 9 = .ok (.invokespecial 9, 3) := by decide +kernel
theorem dX6_init_12 : decode cX6_init 12 = .ok (.putfield 10, 3) := by decide +kernel
theorem dX6_init_15 : decode cX6_init 15 = .ok (.aload_n 0, 1) := by decide +kernel
theorem dX6_init_16 : decode cX6_init 16 = .ok (.new 16, 3) := by decide +kernel
theorem dX6_init_19 : decode cX6_init 19 = .ok (.dup, 1) := by decide +kernel
theorem dX6_init_20 : decode cX6_init 20 = .ok (.invokespecial 18, 3) := by decide +kernel
theorem dX6_init_23 : decode cX6_init 23 = .ok (.putfield 19, 3) := by decide +kernel
theorem dX6_init_26 : decode cX6_init 26 = .ok (.aload_n 0, 1) := by decide +kernel
theorem dX6_init_27 : decode cX6_init 27 = .ok (.new 23, 3) := by decide +kernel
theorem dX6_init_30 : decode cX6_init 30 = .ok (.dup, 1) := by decide +kernel
theorem dX6_init_31 : decode cX6_init 31 = .ok (.invokespecial 25, 3) := by decide +kernel
theorem dX6_init_34 : decode cX6_init 34 = .ok (.putfield 26, 3) := by decide +kernel
theorem dX6_init_37 : decode cX6_init 37 = .ok (.aload_n 0, 1) := by decide +kernel
theorem dX6_init_38 : decode cX6_init 38 = .ok (.iconst 2, 1) := by decide +kernel
theorem dX6_init_39 : decode cX6_init 39 = .ok (.anewarray 7, 3) := by decide +kernel
theorem dX6_init_42 : decode cX6_init 42 = .ok (.putfield 30, 3) := by decide +kernel
theorem dX6_init_45 : decode cX6_init 45 = .ok (.aload_n 0, 1) := by decide +kernel
theorem dX6_init_46 : decode cX6_init 46 = .ok (.iconst 2, 1) := by decide +kernel
theorem dX6_init_47 : decode cX6_init 47 = .ok (.newarray .boolean, 2) := by decide +kernel
theorem dX6_init_49 : decode cX6_init 49 = .ok (.putfield 34, 3) := by decide +kernel
theorem dX6_init_52 : decode cX6_init 52 = .ok (.aload_n 0, 1) := by decide +kernel
theorem dX6_init_53 : decode cX6_init 53 = .ok (.new 38, 3) := by decide +kernel
theorem dX6_init_56 : decode cX6_init 56 = .ok (.dup, 1) := by decide +kernel
theorem dX6_init_57 : decode cX6_init 57 = .ok (.invokespecial 40, 3) := by decide +kernel
theorem dX6_init_60 : decode cX6_init 60 = .ok (.putfield 41, 3) := by decide +kernel
theorem dX6_init_63 : decode cX6_init 63 = .ok (.iconst 0, 1) := by decide +kernel
theorem dX6_init_64 : decode cX6_init 64 = .ok (.istore_n 1, 1) := by decide +kernel
theorem dX6_init_65 : decode cX6_init 65 = .ok (.iload_n 1, 1) := by decide +kernel
theorem dX6_init_66 : decode cX6_init 66 = .ok (.iconst 2, 1) := by decide +kernel
theorem dX6_init_67 : decode cX6_init 67 = .ok (.if_icmp .ge 22, 3) := by decide +kernel
theorem dX6_init_70 : decode cX6_init 70 = .ok (.aload_n 0, 1) := by decide +kernel
theorem dX6_init_71 : decode cX6_init 71 = .ok (.getfield 30, 3) := by decide +kernel
theorem dX6_init_74 : decode cX6_init 74 = .ok (.iload_n 1, 1) := by decide +kernel
theorem dX6_init_75 : decode cX6_init 75 = .ok (.new 7, 3) := by decide +kernel
theorem dX6_init_78 : decode cX6_init 78 = .ok (.dup, 1) := by decide +kernel
theorem dX6_init_79 : decode cX6_init 79 = .ok (.invokespecial 9, 3) := by decide +kernel
theorem dX6_init_82 : decode cX6_init 82 = .ok (.aastore, 1) := by decide +kernel
theorem dX6_init_83 : decode cX6_init 83 = .ok (.iinc 1 1, 3) := by decide +kernel
theorem dX6_init_86 : decode cX6_init 86 = .ok (.goto (-21), 3) := by decide +kernel
theorem dX6_init_89 : decode cX6_init 89 = .ok (.return_, 1) := by decide +kernel
theorem dX6_set_0 : decode cX6_set 0 = .ok (.aload_n 0, 1) := by decide +kernel
theorem dX6_set_1 : decode cX6_set 1 = .ok (.getfield 19, 3) := by decide +kernel
theorem dX6_set_4 : decode cX6_set 4 = .ok (.aload_n 0, 1) := by decide +kernel
theorem dX6_set_5 : decode cX6_set 5 = .ok (.getfield 10, 3) := by decide +kernel
theorem dX6_set_8 : decode cX6_set 8 = .ok (.invokevirtual 45, 3) := by decide +kernel
theorem dX6_set_11 : decode cX6_set 11 = .ok (.aload_n 0, 1) := by decide +kernel
theorem dX6_set_12 : decode cX6_set 12 = .ok (.getfield 19, 3) := by decide +kernel
theorem dX6_set_15 : decode cX6_set 15 = .ok (.aload_n 0, 1) := by decide +kernel
theorem dX6_set_16 : decode cX6_set 16 = .ok (.getfield 10, 3) := by decide +kernel
theorem dX6_set_19 : decode cX6_set 19 = .ok (.iload_n 1, 1) := by decide +kernel
theorem dX6_set_20 : decode cX6_set 20 = .ok (.iload_n 2, 1) := by decide +kernel
theorem dX6_set_21 : decode cX6_set 21 = .ok (.invokevirtual 49, 3) := by decide +kernel
theorem dX6_set_24 : decode cX6_set 24 = .ok (.invokevirtual 53, 3) := by decide +kernel
theorem dX6_set_27 : decode cX6_set 27 = .ok (.ireturn, 1) := by decide +kernel
theorem dX6_parrot_0 : decode cX6_parrot 0 = .ok (.aload_n 0, 1) := by decide +kernel
theorem dX6_parrot_1 : decode cX6_parrot 1 = .ok (.getfield 19, 3) := by decide +kernel
theorem dX6_parrot_4 : decode cX6_parrot 4 = .ok (.aload_n 0, 1) := by decide +kernel
theorem dX6_parrot_5 : decode cX6_parrot 5 = .ok (.getfield 10, 3) := by decide +kernel
theorem dX6_parrot_8 : decode cX6_parrot 8 = .ok (.invokevirtual 45, 3) := by decide +kernel
theorem dX6_parrot_11 : decode cX6_parrot 11 = .ok (.aload_n 0, 1) := by decide +kernel
theorem dX6_parrot_12 : decode cX6_parrot 12 = .ok (.getfield 19, 3) := by decide +kernel
theorem dX6_parrot_15 : decode cX6_parrot 15 = .ok (.aload_n 0, 1) := by decide +kernel
theorem dX6_parrot_16 : decode cX6_parrot 16 = .ok (.getfield 10, 3) := by decide +kernel
theorem dX6_parrot_19 : decode cX6_parrot 19 = .ok (.invokevirtual 57, 3) := by decide +kernel
theorem dX6_parrot_22 : decode cX6_parrot 22 = .ok (.invokevirtual 53, 3) := by decide +kernel
theorem dX6_parrot_25 : decode cX6_parrot 25 = .ok (.ireturn, 1) := by decide +kernel
theorem dX6_lesson_0 : decode cX6_lesson 0 = .ok (.aload_n 0, 1) := by decide +kernel
theorem dX6_lesson_1 : decode cX6_lesson 1 = .ok (.getfield 19, 3) := by decide +kernel
theorem dX6_lesson_4 : decode cX6_lesson 4 = .ok (.aload_n 0, 1) := by decide +kernel
theorem dX6_lesson_5 : decode cX6_lesson 5 = .ok (.getfield 10, 3) := by decide +kernel
theorem dX6_lesson_8 : decode cX6_lesson 8 = .ok (.invokevirtual 45, 3) := by decide +kernel
theorem dX6_lesson_11 : decode cX6_lesson 11 = .ok (.aload_n 0, 1) := by decide +kernel
theorem dX6_lesson_12 : decode cX6_lesson 12 = .ok (.getfield 19, 3) := by decide +kernel
theorem dX6_lesson_15 : decode cX6_lesson 15 = .ok (.aload_n 0, 1) := by decide +kernel
theorem dX6_lesson_16 : decode cX6_lesson 16 = .ok (.getfield 10, 3) := by decide +kernel
theorem dX6_lesson_19 : decode cX6_lesson 19 = .ok (.iload_n 1, 1) := by decide +kernel
theorem dX6_lesson_20 : decode cX6_lesson 20 = .ok (.iload_n 2, 1) := by decide +kernel
theorem dX6_lesson_21 : decode cX6_lesson 21 = .ok (.iload_n 3, 1) := by decide +kernel
theorem dX6_lesson_22 : decode cX6_lesson 22 = .ok (.invokevirtual 61, 3) := by decide +kernel
theorem dX6_lesson_25 : decode cX6_lesson 25 = .ok (.invokevirtual 53, 3) := by decide +kernel
theorem dX6_lesson_28 : decode cX6_lesson 28 = .ok (.ireturn, 1) := by decide +kernel
theorem dX6_hush_0 : decode cX6_hush 0 = .ok (.aload_n 0, 1) := by decide +kernel
theorem dX6_hush_1 : decode cX6_hush 1 = .ok (.getfield 19, 3) := by decide +kernel
theorem dX6_hush_4 : decode cX6_hush 4 = .ok (.aload_n 0, 1) := by decide +kernel
theorem dX6_hush_5 : decode cX6_hush 5 = .ok (.getfield 10, 3) := by decide +kernel
theorem dX6_hush_8 : decode cX6_hush 8 = .ok (.invokevirtual 45, 3) := by decide +kernel
theorem dX6_hush_11 : decode cX6_hush 11 = .ok (.aload_n 0, 1) := by decide +kernel
theorem dX6_hush_12 : decode cX6_hush 12 = .ok (.getfield 19, 3) := by decide +kernel
theorem dX6_hush_15 : decode cX6_hush 15 = .ok (.aload_n 0, 1) := by decide +kernel
theorem dX6_hush_16 : decode cX6_hush 16 = .ok (.getfield 10, 3) := by decide +kernel
theorem dX6_hush_19 : decode cX6_hush 19 = .ok (.iload_n 1, 1) := by decide +kernel
theorem dX6_hush_20 : decode cX6_hush 20 = .ok (.invokevirtual 65, 3) := by decide +kernel
theorem dX6_hush_23 : decode cX6_hush 23 = .ok (.invokevirtual 53, 3) := by decide +kernel
theorem dX6_hush_26 : decode cX6_hush 26 = .ok (.ireturn, 1) := by decide +kernel
theorem dX6_practise_0 : decode cX6_practise 0 = .ok (.aload_n 0, 1) := by decide +kernel
theorem dX6_practise_1 : decode cX6_practise 1 = .ok (.getfield 19, 3) := by decide +kernel
theorem dX6_practise_4 : decode cX6_practise 4 = .ok (.aload_n 0, 1) := by decide +kernel
theorem dX6_practise_5 : decode cX6_practise 5 = .ok (.getfield 10, 3) := by decide +kernel
theorem dX6_practise_8 : decode cX6_practise 8 = .ok (.invokevirtual 45, 3) := by decide +kernel
theorem dX6_practise_11 : decode cX6_practise 11 = .ok (.aload_n 0, 1) := by decide +kernel
theorem dX6_practise_12 : decode cX6_practise 12 = .ok (.getfield 19, 3) := by decide +kernel
theorem dX6_practise_15 : decode cX6_practise 15 = .ok (.aload_n 0, 1) := by decide +kernel
theorem dX6_practise_16 : decode cX6_practise 16 = .ok (.getfield 10, 3) := by decide +kernel
theorem dX6_practise_19 : decode cX6_practise 19 = .ok (.iload_n 1, 1) := by decide +kernel
theorem dX6_practise_20 : decode cX6_practise 20 = .ok (.iload_n 2, 1) := by decide +kernel
theorem dX6_practise_21 : decode cX6_practise 21 = .ok (.invokevirtual 68, 3) := by decide +kernel
theorem dX6_practise_24 : decode cX6_practise 24 = .ok (.invokevirtual 53, 3) := by decide +kernel
theorem dX6_practise_27 : decode cX6_practise 27 = .ok (.ireturn, 1) := by decide +kernel
theorem dX6_night_0 : decode cX6_night 0 = .ok (.aload_n 0, 1) := by decide +kernel
theorem dX6_night_1 : decode cX6_night 1 = .ok (.getfield 19, 3) := by decide +kernel
theorem dX6_night_4 : decode cX6_night 4 = .ok (.aload_n 0, 1) := by decide +kernel
theorem dX6_night_5 : decode cX6_night 5 = .ok (.getfield 10, 3) := by decide +kernel
theorem dX6_night_8 : decode cX6_night 8 = .ok (.invokevirtual 45, 3) := by decide +kernel
theorem dX6_night_11 : decode cX6_night 11 = .ok (.aload_n 0, 1) := by decide +kernel
theorem dX6_night_12 : decode cX6_night 12 = .ok (.getfield 19, 3) := by decide +kernel
theorem dX6_night_15 : decode cX6_night 15 = .ok (.aload_n 0, 1) := by decide +kernel
theorem dX6_night_16 : decode cX6_night 16 = .ok (.getfield 10, 3) := by decide +kernel
theorem dX6_night_19 : decode cX6_night 19 = .ok (.invokevirtual 71, 3) := by decide +kernel
theorem dX6_night_22 : decode cX6_night 22 = .ok (.invokevirtual 53, 3) := by decide +kernel
theorem dX6_night_25 : decode cX6_night 25 = .ok (.ireturn, 1) := by decide +kernel
theorem dX6_ofSong_0 : decode cX6_ofSong 0 = .ok (.aload_n 0, 1) := by decide +kernel
theorem dX6_ofSong_1 : decode cX6_ofSong 1 = .ok (.getfield 10, 3) := by decide +kernel
theorem dX6_ofSong_4 : decode cX6_ofSong 4 = .ok (.getfield 74, 3) := by decide +kernel
theorem dX6_ofSong_7 : decode cX6_ofSong 7 = .ok (.astore_n 3, 1) := by decide +kernel
theorem dX6_ofSong_8 : decode cX6_ofSong 8 = .ok (.aload_n 3, 1) := by decide +kernel
theorem dX6_ofSong_9 : decode cX6_ofSong 9 = .ok (.iload_n 1, 1) := by decide +kernel
theorem dX6_ofSong_10 : decode cX6_ofSong 10 = .ok (.invokevirtual 78, 3) := by decide +kernel
theorem dX6_ofSong_13 : decode cX6_ofSong 13 = .ok (.ifCond .ne 5, 3) := by decide +kernel
theorem dX6_ofSong_16 : decode cX6_ofSong 16 = .ok (.iconst (-1), 1) := by decide +kernel
theorem dX6_ofSong_17 : decode cX6_ofSong 17 = .ok (.ireturn, 1) := by decide +kernel
theorem dX6_ofSong_18 : decode cX6_ofSong 18 = .ok (.iload_n 2, 1) := by decide +kernel
theorem dX6_ofSong_19 : decode cX6_ofSong 19 = .ok (.tableswitch 77 0 5 #[37, 43, 49, 56, 62, 68], 37) := by decide +kernel
theorem dX6_ofSong_56 : decode cX6_ofSong 56 = .ok (.aload_n 3, 1) := by decide +kernel
theorem dX6_ofSong_57 : decode cX6_ofSong 57 = .ok (.iload_n 1, 1) := by decide +kernel
theorem dX6_ofSong_58 : decode cX6_ofSong 58 = .ok (.invokevirtual 84, 3) := by decide +kernel
theorem dX6_ofSong_61 : decode cX6_ofSong 61 = .ok (.ireturn, 1) := by decide +kernel
theorem dX6_ofSong_62 : decode cX6_ofSong 62 = .ok (.aload_n 3, 1) := by decide +kernel
theorem dX6_ofSong_63 : decode cX6_ofSong 63 = .ok (.iload_n 1, 1) := by decide +kernel
theorem dX6_ofSong_64 : decode cX6_ofSong 64 = .ok (.invokevirtual 87, 3) := by decide +kernel
theorem dX6_ofSong_67 : decode cX6_ofSong 67 = .ok (.ireturn, 1) := by decide +kernel
theorem dX6_ofSong_68 : decode cX6_ofSong 68 = .ok (.aload_n 3, 1) := by decide +kernel
theorem dX6_ofSong_69 : decode cX6_ofSong 69 = .ok (.iload_n 1, 1) := by decide +kernel
theorem dX6_ofSong_70 : decode cX6_ofSong 70 = .ok (.iconst 0, 1) := by decide +kernel
theorem dX6_ofSong_71 : decode cX6_ofSong 71 = .ok (.invokevirtual 90, 3) := by decide +kernel
theorem dX6_ofSong_74 : decode cX6_ofSong 74 = .ok (.ireturn, 1) := by decide +kernel
theorem dX6_ofSong_75 : decode cX6_ofSong 75 = .ok (.aload_n 3, 1) := by decide +kernel
theorem dX6_ofSong_76 : decode cX6_ofSong 76 = .ok (.iload_n 1, 1) := by decide +kernel
theorem dX6_ofSong_77 : decode cX6_ofSong 77 = .ok (.invokevirtual 93, 3) := by decide +kernel
theorem dX6_ofSong_80 : decode cX6_ofSong 80 = .ok (.ireturn, 1) := by decide +kernel
theorem dX6_ofSong_81 : decode cX6_ofSong 81 = .ok (.aload_n 3, 1) := by decide +kernel
theorem dX6_ofSong_82 : decode cX6_ofSong 82 = .ok (.iload_n 1, 1) := by decide +kernel
theorem dX6_ofSong_83 : decode cX6_ofSong 83 = .ok (.invokevirtual 96, 3) := by decide +kernel
theorem dX6_ofSong_86 : decode cX6_ofSong 86 = .ok (.ireturn, 1) := by decide +kernel
theorem dX6_ofSong_87 : decode cX6_ofSong 87 = .ok (.aload_n 0, 1) := by decide +kernel
theorem dX6_ofSong_88 : decode cX6_ofSong 88 = .ok (.getfield 10, 3) := by decide +kernel
theorem dX6_ofSong_91 : decode cX6_ofSong 91 = .ok (.iload_n 1, 1) := by decide +kernel
theorem dX6_ofSong_92 : decode cX6_ofSong 92 = .ok (.invokevirtual 99, 3) := by decide +kernel
theorem dX6_ofSong_95 : decode cX6_ofSong 95 = .ok (.ireturn, 1) := by decide +kernel
theorem dX6_ofSong_96 : decode cX6_ofSong 96 = .ok (.bipush (-2), 2) := by decide +kernel
theorem dX6_ofSong_98 : decode cX6_ofSong 98 = .ok (.ireturn, 1) := by decide +kernel
theorem dX6_bar_0 : decode cX6_bar 0 = .ok (.aload_n 0, 1) := by decide +kernel
theorem dX6_bar_1 : decode cX6_bar 1 = .ok (.getfield 10, 3) := by decide +kernel
theorem dX6_bar_4 : decode cX6_bar 4 = .ok (.getfield 74, 3) := by decide +kernel
theorem dX6_bar_7 : decode cX6_bar 7 = .ok (.iload_n 1, 1) := by decide +kernel
theorem dX6_bar_8 : decode cX6_bar 8 = .ok (.iload_n 2, 1) := by decide +kernel
theorem dX6_bar_9 : decode cX6_bar 9 = .ok (.invokevirtual 102, 3) := by decide +kernel
theorem dX6_bar_12 : decode cX6_bar 12 = .ok (.ifCond .ne 5, 3) := by decide +kernel
theorem dX6_bar_15 : decode cX6_bar 15 = .ok (.iconst (-1), 1) := by decide +kernel
theorem dX6_bar_16 : decode cX6_bar 16 = .ok (.ireturn, 1) := by decide +kernel
theorem dX6_bar_17 : decode cX6_bar 17 = .ok (.aload_n 0, 1) := by decide +kernel
theorem dX6_bar_18 : decode cX6_bar 18 = .ok (.getfield 10, 3) := by decide +kernel
theorem dX6_bar_21 : decode cX6_bar 21 = .ok (.getfield 74, 3) := by decide +kernel
theorem dX6_bar_24 : decode cX6_bar 24 = .ok (.iload_n 1, 1) := by decide +kernel
theorem dX6_bar_25 : decode cX6_bar 25 = .ok (.iload_n 2, 1) := by decide +kernel
theorem dX6_bar_26 : decode cX6_bar 26 = .ok (.invokevirtual 90, 3) := by decide +kernel
theorem dX6_bar_29 : decode cX6_bar 29 = .ok (.ireturn, 1) := by decide +kernel
theorem dX6_of_0 : decode cX6_of 0 = .ok (.aload_n 0, 1) := by decide +kernel
theorem dX6_of_1 : decode cX6_of 1 = .ok (.getfield 10, 3) := by decide +kernel
theorem dX6_of_4 : decode cX6_of 4 = .ok (.iload_n 1, 1) := by decide +kernel
theorem dX6_of_5 : decode cX6_of 5 = .ok (.invokevirtual 106, 3) := by decide +kernel
theorem dX6_of_8 : decode cX6_of 8 = .ok (.ifCond .ne 5, 3) := by decide +kernel
theorem dX6_of_11 : decode cX6_of 11 = .ok (.iconst (-1), 1) := by decide +kernel
theorem dX6_of_12 : decode cX6_of 12 = .ok (.ireturn, 1) := by decide +kernel
theorem dX6_of_13 : decode cX6_of 13 = .ok (.aload_n 0, 1) := by decide +kernel
theorem dX6_of_14 : decode cX6_of 14 = .ok (.getfield 10, 3) := by decide +kernel
theorem dX6_of_17 : decode cX6_of 17 = .ok (.getfield 109, 3) := by decide +kernel
theorem dX6_of_20 : decode cX6_of 20 = .ok (.iload_n 1, 1) := by decide +kernel
theorem dX6_of_21 : decode cX6_of 21 = .ok (.aaload, 1) := by decide +kernel
theorem dX6_of_22 : decode cX6_of 22 = .ok (.astore_n 3, 1) := by decide +kernel
theorem dX6_of_23 : decode cX6_of 23 = .ok (.iload_n 2, 1) := by decide +kernel
theorem dX6_of_24 : decode cX6_of 24 = .ok (.tableswitch 86 0 6 #[44, 49, 54, 59, 64, 69, 74], 44) := by decide +kernel
theorem dX6_of_68 : decode cX6_of 68 = .ok (.aload_n 3, 1) := by decide +kernel
theorem dX6_of_69 : decode cX6_of 69 = .ok (.getfield 113, 3) := by decide +kernel
theorem dX6_of_72 : decode cX6_of 72 = .ok (.ireturn, 1) := by decide +kernel
theorem dX6_of_73 : decode cX6_of 73 = .ok (.aload_n 3, 1) := by decide +kernel
theorem dX6_of_74 : decode cX6_of 74 = .ok (.invokevirtual 117, 3) := by decide +kernel
theorem dX6_of_77 : decode cX6_of 77 = .ok (.ireturn, 1) := by decide +kernel
theorem dX6_of_78 : decode cX6_of 78 = .ok (.aload_n 3, 1) := by decide +kernel
theorem dX6_of_79 : decode cX6_of 79 = .ok (.getfield 120, 3) := by decide +kernel
theorem dX6_of_82 : decode cX6_of 82 = .ok (.ireturn, 1) := by decide +kernel
theorem dX6_of_83 : decode cX6_of 83 = .ok (.aload_n 3, 1) := by decide +kernel
theorem dX6_of_84 : decode cX6_of 84 = .ok (.getfield 123, 3) := by decide +kernel
theorem dX6_of_87 : decode cX6_of 87 = .ok (.ireturn, 1) := by decide +kernel
theorem dX6_of_88 : decode cX6_of 88 = .ok (.aload_n 3, 1) := by decide +kernel
theorem dX6_of_89 : decode cX6_of 89 = .ok (.getfield 126, 3) := by decide +kernel
theorem dX6_of_92 : decode cX6_of 92 = .ok (.ireturn, 1) := by decide +kernel
theorem dX6_of_93 : decode cX6_of 93 = .ok (.aload_n 3, 1) := by decide +kernel
theorem dX6_of_94 : decode cX6_of 94 = .ok (.getfield 129, 3) := by decide +kernel
theorem dX6_of_97 : decode cX6_of 97 = .ok (.ireturn, 1) := by decide +kernel
theorem dX6_of_98 : decode cX6_of 98 = .ok (.aload_n 0, 1) := by decide +kernel
theorem dX6_of_99 : decode cX6_of 99 = .ok (.getfield 10, 3) := by decide +kernel
theorem dX6_of_102 : decode cX6_of 102 = .ok (.getfield 74, 3) := by decide +kernel
theorem dX6_of_105 : decode cX6_of 105 = .ok (.aload_n 3, 1) := by decide +kernel
theorem dX6_of_106 : decode cX6_of 106 = .ok (.invokevirtual 132, 3) := by decide +kernel
theorem dX6_of_109 : decode cX6_of 109 = .ok (.ireturn, 1) := by decide +kernel
theorem dX6_of_110 : decode cX6_of 110 = .ok (.bipush (-2), 2) := by decide +kernel
theorem dX6_of_112 : decode cX6_of 112 = .ok (.ireturn, 1) := by decide +kernel
theorem dX6_link_0 : decode cX6_link 0 = .ok (.aload_n 0, 1) := by decide +kernel
theorem dX6_link_1 : decode cX6_link 1 = .ok (.getfield 10, 3) := by decide +kernel
theorem dX6_link_4 : decode cX6_link 4 = .ok (.iload_n 1, 1) := by decide +kernel
theorem dX6_link_5 : decode cX6_link 5 = .ok (.invokevirtual 106, 3) := by decide +kernel
theorem dX6_link_8 : decode cX6_link 8 = .ok (.ifCond .eq 23, 3) := by decide +kernel
theorem dX6_link_11 : decode cX6_link 11 = .ok (.iload_n 2, 1) := by decide +kernel
theorem dX6_link_12 : decode cX6_link 12 = .ok (.ifCond .lt 19, 3) := by decide +kernel
theorem dX6_link_15 : decode cX6_link 15 = .ok (.iload_n 2, 1) := by decide +kernel
theorem dX6_link_16 : decode cX6_link 16 = .ok (.aload_n 0, 1) := by decide +kernel
theorem dX6_link_17 : decode cX6_link 17 = .ok (.getfield 10, 3) := by decide +kernel
theorem dX6_link_20 : decode cX6_link 20 = .ok (.getfield 109, 3) := by decide +kernel
theorem dX6_link_23 : decode cX6_link 23 = .ok (.iload_n 1, 1) := by decide +kernel
theorem dX6_link_24 : decode cX6_link 24 = .ok (.aaload, 1) := by decide +kernel
theorem dX6_link_25 : decode cX6_link 25 = .ok (.getfield 113, 3) := by decide +kernel
theorem dX6_link_28 : decode cX6_link 28 = .ok (.if_icmp .lt 5, 3) := by decide +kernel
theorem dX6_link_31 : decode cX6_link 31 = .ok (.iconst (-1), 1) := by decide +kernel
theorem dX6_link_32 : decode cX6_link 32 = .ok (.ireturn, 1) := by decide +kernel
theorem dX6_link_33 : decode cX6_link 33 = .ok (.iload_n 3, 1) := by decide +kernel
theorem dX6_link_34 : decode cX6_link 34 = .ok (.ifCond .lt 8, 3) := by decide +kernel
theorem dX6_link_37 : decode cX6_link 37 = .ok (.iload_n 3, 1) := by decide +kernel
theorem dX6_link_38 : decode cX6_link 38 = .ok (.iconst 4, 1) := by decide +kernel
theorem dX6_link_39 : decode cX6_link 39 = .ok (.if_icmp .lt 6, 3) := by decide +kernel
theorem dX6_link_42 : decode cX6_link 42 = .ok (.bipush (-2), 2) := by decide +kernel
theorem dX6_link_44 : decode cX6_link 44 = .ok (.ireturn, 1) := by decide +kernel
theorem dX6_link_45 : decode cX6_link 45 = .ok (.aload_n 0, 1) := by decide +kernel
theorem dX6_link_46 : decode cX6_link 46 = .ok (.getfield 10, 3) := by decide +kernel
theorem dX6_link_49 : decode cX6_link 49 = .ok (.getfield 109, 3) := by decide +kernel
theorem dX6_link_52 : decode cX6_link 52 = .ok (.iload_n 1, 1) := by decide +kernel
theorem dX6_link_53 : decode cX6_link 53 = .ok (.aaload, 1) := by decide +kernel
theorem dX6_link_54 : decode cX6_link 54 = .ok (.iload_n 2, 1) := by decide +kernel
theorem dX6_link_55 : decode cX6_link 55 = .ok (.iload_n 3, 1) := by decide +kernel
theorem dX6_link_56 : decode cX6_link 56 = .ok (.invokevirtual 136, 3) := by decide +kernel
theorem dX6_link_59 : decode cX6_link 59 = .ok (.ireturn, 1) := by decide +kernel
theorem dX6_sings_0 : decode cX6_sings 0 = .ok (.aload_n 0, 1) := by decide +kernel
theorem dX6_sings_1 : decode cX6_sings 1 = .ok (.getfield 10, 3) := by decide +kernel
theorem dX6_sings_4 : decode cX6_sings 4 = .ok (.iload_n 1, 1) := by decide +kernel
theorem dX6_sings_5 : decode cX6_sings 5 = .ok (.invokevirtual 106, 3) := by decide +kernel
theorem dX6_sings_8 : decode cX6_sings 8 = .ok (.ifCond .ne 5, 3) := by decide +kernel
theorem dX6_sings_11 : decode cX6_sings 11 = .ok (.iconst (-1), 1) := by decide +kernel
theorem dX6_sings_12 : decode cX6_sings 12 = .ok (.ireturn, 1) := by decide +kernel
theorem dX6_sings_13 : decode cX6_sings 13 = .ok (.iload_n 2, 1) := by decide +kernel
theorem dX6_sings_14 : decode cX6_sings 14 = .ok (.ifCond .lt 19, 3) := by decide +kernel
theorem dX6_sings_17 : decode cX6_sings 17 = .ok (.iload_n 2, 1) := by decide +kernel
theorem dX6_sings_18 : decode cX6_sings 18 = .ok (.bipush 26, 2) := by decide +kernel
theorem dX6_sings_20 : decode cX6_sings 20 = .ok (.if_icmp .ge 13, 3) := by decide +kernel
theorem dX6_sings_23 : decode cX6_sings 23 = .ok (.iload_n 3, 1) := by decide +kernel
theorem dX6_sings_24 : decode cX6_sings 24 = .ok (.ifCond .lt 9, 3) := by decide +kernel
theorem dX6_sings_27 : decode cX6_sings 27 = .ok (.iload_n 3, 1) := by decide +kernel
theorem dX6_sings_28 : decode cX6_sings 28 = .ok (.bipush 99, 2) := by decide +kernel
theorem dX6_sings_30 : decode cX6_sings 30 = .ok (.if_icmp .le 6, 3) := by decide +kernel
theorem dX6_sings_33 : decode cX6_sings 33 = .ok (.bipush (-2), 2) := by decide +kernel
theorem dX6_sings_35 : decode cX6_sings 35 = .ok (.ireturn, 1) := by decide +kernel
theorem dX6_sings_36 : decode cX6_sings 36 = .ok (.iload_n 2, 1) := by decide +kernel
theorem dX6_sings_37 : decode cX6_sings 37 = .ok (.istore 4, 2) := by decide +kernel
theorem dX6_sings_39 : decode cX6_sings 39 = .ok (.iconst 0, 1) := by decide +kernel
theorem dX6_sings_40 : decode cX6_sings 40 = .ok (.istore 5, 2) := by decide +kernel
theorem dX6_sings_42 : decode cX6_sings 42 = .ok (.iload 5, 2) := by decide +kernel
theorem dX6_sings_44 : decode cX6_sings 44 = .ok (.iload_n 3, 1) := by decide +kernel
theorem dX6_sings_45 : decode cX6_sings 45 = .ok (.if_icmp .ge 32, 3) := by decide +kernel
theorem dX6_sings_48 : decode cX6_sings 48 = .ok (.iload 4, 2) := by decide +kernel
theorem dX6_sings_50 : decode cX6_sings 50 = .ok (.bipush (-6), 2) := by decide +kernel
theorem dX6_sings_52 : decode cX6_sings 52 = .ok (.if_icmp .eq 25, 3) := by decide +kernel
theorem dX6_sings_55 : decode cX6_sings 55 = .ok (.aload_n 0, 1) := by decide +kernel
theorem dX6_sings_56 : decode cX6_sings 56 = .ok (.getfield 10, 3) := by decide +kernel
theorem dX6_sings_59 : decode cX6_sings 59 = .ok (.getfield 109, 3) := by decide +kernel
theorem dX6_sings_62 : decode cX6_sings 62 = .ok (.iload_n 1, 1) := by decide +kernel
theorem dX6_sings_63 : decode cX6_sings 63 = .ok (.aaload, 1) := by decide +kernel
theorem dX6_sings_64 : decode cX6_sings 64 = .ok (.iload 4, 2) := by decide +kernel
theorem dX6_sings_66 : decode cX6_sings 66 = .ok (.invokevirtual 139, 3) := by decide +kernel
theorem dX6_sings_69 : decode cX6_sings 69 = .ok (.istore 4, 2) := by decide +kernel
theorem dX6_sings_71 : decode cX6_sings 71 = .ok (.iinc 5 1, 3) := by decide +kernel
theorem dX6_sings_74 : decode cX6_sings 74 = .ok (.goto (-32), 3) := by decide +kernel
theorem dX6_sings_77 : decode cX6_sings 77 = .ok (.iload 4, 2) := by decide +kernel
theorem dX6_sings_79 : decode cX6_sings 79 = .ok (.ireturn, 1) := by decide +kernel
theorem dX6_knows_0 : decode cX6_knows 0 = .ok (.aload_n 0, 1) := by decide +kernel
theorem dX6_knows_1 : decode cX6_knows 1 = .ok (.getfield 10, 3) := by decide +kernel
theorem dX6_knows_4 : decode cX6_knows 4 = .ok (.iload_n 1, 1) := by decide +kernel
theorem dX6_knows_5 : decode cX6_knows 5 = .ok (.invokevirtual 106, 3) := by decide +kernel
theorem dX6_knows_8 : decode cX6_knows 8 = .ok (.ifCond .eq 17, 3) := by decide +kernel
theorem dX6_knows_11 : decode cX6_knows 11 = .ok (.aload_n 0, 1) := by decide +kernel
theorem dX6_knows_12 : decode cX6_knows 12 = .ok (.getfield 10, 3) := by decide +kernel
theorem dX6_knows_15 : decode cX6_knows 15 = .ok (.getfield 74, 3) := by decide +kernel
theorem dX6_knows_18 : decode cX6_knows 18 = .ok (.iload_n 2, 1) := by decide +kernel
theorem dX6_knows_19 : decode cX6_knows 19 = .ok (.invokevirtual 78, 3) := by decide +kernel
theorem dX6_knows_22 : decode cX6_knows 22 = .ok (.ifCond .ne 5, 3) := by decide +kernel
theorem dX6_knows_25 : decode cX6_knows 25 = .ok (.iconst (-1), 1) := by decide +kernel
theorem dX6_knows_26 : decode cX6_knows 26 = .ok (.ireturn, 1) := by decide +kernel
theorem dX6_knows_27 : decode cX6_knows 27 = .ok (.aload_n 0, 1) := by decide +kernel
theorem dX6_knows_28 : decode cX6_knows 28 = .ok (.getfield 10, 3) := by decide +kernel
theorem dX6_knows_31 : decode cX6_knows 31 = .ok (.getfield 74, 3) := by decide +kernel
theorem dX6_knows_34 : decode cX6_knows 34 = .ok (.aload_n 0, 1) := by decide +kernel
theorem dX6_knows_35 : decode cX6_knows 35 = .ok (.getfield 10, 3) := by decide +kernel
theorem dX6_knows_38 : decode cX6_knows 38 = .ok (.getfield 109, 3) := by decide +kernel
theorem dX6_knows_41 : decode cX6_knows 41 = .ok (.iload_n 1, 1) := by decide +kernel
theorem dX6_knows_42 : decode cX6_knows 42 = .ok (.aaload, 1) := by decide +kernel
theorem dX6_knows_43 : decode cX6_knows 43 = .ok (.iload_n 2, 1) := by decide +kernel
theorem dX6_knows_44 : decode cX6_knows 44 = .ok (.invokevirtual 142, 3) := by decide +kernel
theorem dX6_knows_47 : decode cX6_knows 47 = .ok (.ireturn, 1) := by decide +kernel
theorem dX6_mistake_0 : decode cX6_mistake 0 = .ok (.aload_n 0, 1) := by decide +kernel
theorem dX6_mistake_1 : decode cX6_mistake 1 = .ok (.getfield 10, 3) := by decide +kernel
theorem dX6_mistake_4 : decode cX6_mistake 4 = .ok (.getfield 74, 3) := by decide +kernel
theorem dX6_mistake_7 : decode cX6_mistake 7 = .ok (.astore 4, 2) := by decide +kernel
theorem dX6_mistake_9 : decode cX6_mistake 9 = .ok (.aload_n 0, 1) := by decide +kernel
theorem dX6_mistake_10 : decode cX6_mistake 10 = .ok (.getfield 10, 3) := by decide +kernel
theorem dX6_mistake_13 : decode cX6_mistake 13 = .ok (.iload_n 1, 1) := by decide +kernel
theorem dX6_mistake_14 : decode cX6_mistake 14 = .ok (.invokevirtual 106, 3) := by decide +kernel
theorem dX6_mistake_17 : decode cX6_mistake 17 = .ok (.ifCond .eq 12, 3) := by decide +kernel
theorem dX6_mistake_20 : decode cX6_mistake 20 = .ok (.aload 4, 2) := by decide +kernel
theorem dX6_mistake_22 : decode cX6_mistake 22 = .ok (.iload_n 2, 1) := by decide +kernel
theorem dX6_mistake_23 : decode cX6_mistake 23 = .ok (.invokevirtual 78, 3) := by decide +kernel
theorem dX6_mistake_26 : decode cX6_mistake 26 = .ok (.ifCond .ne 5, 3) := by decide +kernel
theorem dX6_mistake_29 : decode cX6_mistake 29 = .ok (.iconst (-1), 1) := by decide +kernel
theorem dX6_mistake_30 : decode cX6_mistake 30 = .ok (.ireturn, 1) := by decide +kernel
theorem dX6_mistake_31 : decode cX6_mistake 31 = .ok (.iload_n 3, 1) := by decide +kernel
theorem dX6_mistake_32 : decode cX6_mistake 32 = .ok (.ifCond .lt 8, 3) := by decide +kernel
theorem dX6_mistake_35 : decode cX6_mistake 35 = .ok (.iload_n 3, 1) := by decide +kernel
theorem dX6_mistake_36 : decode cX6_mistake 36 = .ok (.iconst 2, 1) := by decide +kernel
theorem dX6_mistake_37 : decode cX6_mistake 37 = .ok (.if_icmp .le 6, 3) := by decide +kernel
theorem dX6_mistake_40 : decode cX6_mistake 40 = .ok (.bipush (-2), 2) := by decide +kernel
theorem dX6_mistake_42 : decode cX6_mistake 42 = .ok (.ireturn, 1) := by decide +kernel
theorem dX6_mistake_43 : decode cX6_mistake 43 = .ok (.aload_n 0, 1) := by decide +kernel
theorem dX6_mistake_44 : decode cX6_mistake 44 = .ok (.getfield 10, 3) := by decide +kernel
theorem dX6_mistake_47 : decode cX6_mistake 47 = .ok (.getfield 109, 3) := by decide +kernel
theorem dX6_mistake_50 : decode cX6_mistake 50 = .ok (.iload_n 1, 1) := by decide +kernel
theorem dX6_mistake_51 : decode cX6_mistake 51 = .ok (.aaload, 1) := by decide +kernel
theorem dX6_mistake_52 : decode cX6_mistake 52 = .ok (.astore 5, 2) := by decide +kernel
theorem dX6_mistake_54 : decode cX6_mistake 54 = .ok (.aload 4, 2) := by decide +kernel
theorem dX6_mistake_56 : decode cX6_mistake 56 = .ok (.aload 5, 2) := by decide +kernel
theorem dX6_mistake_58 : decode cX6_mistake 58 = .ok (.iload_n 2, 1) := by decide +kernel
theorem dX6_mistake_59 : decode cX6_mistake 59 = .ok (.invokevirtual 146, 3) := by decide +kernel
theorem dX6_mistake_62 : decode cX6_mistake 62 = .ok (.istore 6, 2) := by decide +kernel
theorem dX6_mistake_64 : decode cX6_mistake 64 = .ok (.iload 6, 2) := by decide +kernel
theorem dX6_mistake_66 : decode cX6_mistake 66 = .ok (.aload 4, 2) := by decide +kernel
theorem dX6_mistake_68 : decode cX6_mistake 68 = .ok (.iload_n 2, 1) := by decide +kernel
theorem dX6_mistake_69 : decode cX6_mistake 69 = .ok (.invokevirtual 84, 3) := by decide +kernel
theorem dX6_mistake_72 : decode cX6_mistake 72 = .ok (.if_icmp .lt 6, 3) := by decide +kernel
theorem dX6_mistake_75 : decode cX6_mistake 75 = .ok (.bipush (-5), 2) := by decide +kernel
theorem dX6_mistake_77 : decode cX6_mistake 77 = .ok (.ireturn, 1) := by decide +kernel
theorem dX6_mistake_78 : decode cX6_mistake 78 = .ok (.iload_n 3, 1) := by decide +kernel
theorem dX6_mistake_79 : decode cX6_mistake 79 = .ok (.ifCond .ne 6, 3) := by decide +kernel
theorem dX6_mistake_82 : decode cX6_mistake 82 = .ok (.iload 6, 2) := by decide +kernel
theorem dX6_mistake_84 : decode cX6_mistake 84 = .ok (.ireturn, 1) := by decide +kernel
theorem dX6_mistake_85 : decode cX6_mistake 85 = .ok (.aload 4, 2) := by decide +kernel
theorem dX6_mistake_87 : decode cX6_mistake 87 = .ok (.iload_n 2, 1) := by decide +kernel
theorem dX6_mistake_88 : decode cX6_mistake 88 = .ok (.iload 6, 2) := by decide +kernel
theorem dX6_mistake_90 : decode cX6_mistake 90 = .ok (.iconst 1, 1) := by decide +kernel
theorem dX6_mistake_91 : decode cX6_mistake 91 = .ok (.isub, 1) := by decide +kernel
theorem dX6_mistake_92 : decode cX6_mistake 92 = .ok (.invokevirtual 90, 3) := by decide +kernel
theorem dX6_mistake_95 : decode cX6_mistake 95 = .ok (.istore 7, 2) := by decide +kernel
theorem dX6_mistake_97 : decode cX6_mistake 97 = .ok (.aload 5, 2) := by decide +kernel
theorem dX6_mistake_99 : decode cX6_mistake 99 = .ok (.iload 7, 2) := by decide +kernel
theorem dX6_mistake_101 : decode cX6_mistake 101 = .ok (.invokevirtual 139, 3) := by decide +kernel
theorem dX6_mistake_104 : decode cX6_mistake 104 = .ok (.istore 8, 2) := by decide +kernel
theorem dX6_mistake_106 : decode cX6_mistake 106 = .ok (.iload_n 3, 1) := by decide +kernel
theorem dX6_mistake_107 : decode cX6_mistake 107 = .ok (.iconst 1, 1) := by decide +kernel
theorem dX6_mistake_108 : decode cX6_mistake 108 = .ok (.if_icmp .ne 8, 3) := by decide +kernel
theorem dX6_mistake_111 : decode cX6_mistake 111 = .ok (.iload 8, 2) := by decide +kernel
theorem dX6_mistake_113 : decode cX6_mistake 113 = .ok (.goto 12, 3) := by decide +kernel
theorem dX6_mistake_116 : decode cX6_mistake 116 = .ok (.aload 4, 2) := by decide +kernel
theorem dX6_mistake_118 : decode cX6_mistake 118 = .ok (.iload 7, 2) := by decide +kernel
theorem dX6_mistake_120 : decode cX6_mistake 120 = .ok (.iload 8, 2) := by decide +kernel
theorem dX6_mistake_122 : decode cX6_mistake 122 = .ok (.invokevirtual 149, 3) := by decide +kernel
theorem dX6_mistake_125 : decode cX6_mistake 125 = .ok (.ireturn, 1) := by decide +kernel
theorem dX6_rhymes_0 : decode cX6_rhymes 0 = .ok (.aload_n 0, 1) := by decide +kernel
theorem dX6_rhymes_1 : decode cX6_rhymes 1 = .ok (.getfield 10, 3) := by decide +kernel
theorem dX6_rhymes_4 : decode cX6_rhymes 4 = .ok (.getfield 74, 3) := by decide +kernel
theorem dX6_rhymes_7 : decode cX6_rhymes 7 = .ok (.iload_n 1, 1) := by decide +kernel
theorem dX6_rhymes_8 : decode cX6_rhymes 8 = .ok (.invokevirtual 78, 3) := by decide +kernel
theorem dX6_rhymes_11 : decode cX6_rhymes 11 = .ok (.ifCond .eq 17, 3) := by decide +kernel
theorem dX6_rhymes_14 : decode cX6_rhymes 14 = .ok (.aload_n 0, 1) := by decide +kernel
theorem dX6_rhymes_15 : decode cX6_rhymes 15 = .ok (.getfield 10, 3) := by decide +kernel
theorem dX6_rhymes_18 : decode cX6_rhymes 18 = .ok (.getfield 74, 3) := by decide +kernel
theorem dX6_rhymes_21 : decode cX6_rhymes 21 = .ok (.iload_n 2, 1) := by decide +kernel
theorem dX6_rhymes_22 : decode cX6_rhymes 22 = .ok (.invokevirtual 78, 3) := by decide +kernel
theorem dX6_rhymes_25 : decode cX6_rhymes 25 = .ok (.ifCond .ne 5, 3) := by decide +kernel
theorem dX6_rhymes_28 : decode cX6_rhymes 28 = .ok (.iconst (-1), 1) := by decide +kernel
theorem dX6_rhymes_29 : decode cX6_rhymes 29 = .ok (.ireturn, 1) := by decide +kernel
theorem dX6_rhymes_30 : decode cX6_rhymes 30 = .ok (.aload_n 0, 1) := by decide +kernel
theorem dX6_rhymes_31 : decode cX6_rhymes 31 = .ok (.getfield 10, 3) := by decide +kernel
theorem dX6_rhymes_34 : decode cX6_rhymes 34 = .ok (.getfield 74, 3) := by decide +kernel
theorem dX6_rhymes_37 : decode cX6_rhymes 37 = .ok (.iload_n 1, 1) := by decide +kernel
theorem dX6_rhymes_38 : decode cX6_rhymes 38 = .ok (.iload_n 2, 1) := by decide +kernel
theorem dX6_rhymes_39 : decode cX6_rhymes 39 = .ok (.invokevirtual 152, 3) := by decide +kernel
theorem dX6_rhymes_42 : decode cX6_rhymes 42 = .ok (.ireturn, 1) := by decide +kernel
theorem dX6_follows_0 : decode cX6_follows 0 = .ok (.aload_n 0, 1) := by decide +kernel
theorem dX6_follows_1 : decode cX6_follows 1 = .ok (.getfield 10, 3) := by decide +kernel
theorem dX6_follows_4 : decode cX6_follows 4 = .ok (.iload_n 1, 1) := by decide +kernel
theorem dX6_follows_5 : decode cX6_follows 5 = .ok (.invokevirtual 106, 3) := by decide +kernel
theorem dX6_follows_8 : decode cX6_follows 8 = .ok (.ifCond .eq 17, 3) := by decide +kernel
theorem dX6_follows_11 : decode cX6_follows 11 = .ok (.aload_n 0, 1) := by decide +kernel
theorem dX6_follows_12 : decode cX6_follows 12 = .ok (.getfield 10, 3) := by decide +kernel
theorem dX6_follows_15 : decode cX6_follows 15 = .ok (.getfield 74, 3) := by decide +kernel
theorem dX6_follows_18 : decode cX6_follows 18 = .ok (.iload_n 2, 1) := by decide +kernel
theorem dX6_follows_19 : decode cX6_follows 19 = .ok (.invokevirtual 78, 3) := by decide +kernel
theorem dX6_follows_22 : decode cX6_follows 22 = .ok (.ifCond .ne 5, 3) := by decide +kernel
theorem dX6_follows_25 : decode cX6_follows 25 = .ok (.iconst (-1), 1) := by decide +kernel
theorem dX6_follows_26 : decode cX6_follows 26 = .ok (.ireturn, 1) := by decide +kernel
theorem dX6_follows_27 : decode cX6_follows 27 = .ok (.aload_n 0, 1) := by decide +kernel
theorem dX6_follows_28 : decode cX6_follows 28 = .ok (.getfield 10, 3) := by decide +kernel
theorem dX6_follows_31 : decode cX6_follows 31 = .ok (.getfield 109, 3) := by decide +kernel
theorem dX6_follows_34 : decode cX6_follows 34 = .ok (.iload_n 1, 1) := by decide +kernel
theorem dX6_follows_35 : decode cX6_follows 35 = .ok (.aaload, 1) := by decide +kernel
theorem dX6_follows_36 : decode cX6_follows 36 = .ok (.aload_n 0, 1) := by decide +kernel
theorem dX6_follows_37 : decode cX6_follows 37 = .ok (.getfield 10, 3) := by decide +kernel
theorem dX6_follows_40 : decode cX6_follows 40 = .ok (.getfield 74, 3) := by decide +kernel
theorem dX6_follows_43 : decode cX6_follows 43 = .ok (.iload_n 2, 1) := by decide +kernel
theorem dX6_follows_44 : decode cX6_follows 44 = .ok (.invokevirtual 93, 3) := by decide +kernel
theorem dX6_follows_47 : decode cX6_follows 47 = .ok (.invokevirtual 139, 3) := by decide +kernel
theorem dX6_follows_50 : decode cX6_follows 50 = .ok (.istore_n 3, 1) := by decide +kernel
theorem dX6_follows_51 : decode cX6_follows 51 = .ok (.aload_n 0, 1) := by decide +kernel
theorem dX6_follows_52 : decode cX6_follows 52 = .ok (.getfield 10, 3) := by decide +kernel
theorem dX6_follows_55 : decode cX6_follows 55 = .ok (.getfield 74, 3) := by decide +kernel
theorem dX6_follows_58 : decode cX6_follows 58 = .ok (.iload_n 3, 1) := by decide +kernel
theorem dX6_follows_59 : decode cX6_follows 59 = .ok (.invokevirtual 155, 3) := by decide +kernel
theorem dX6_follows_62 : decode cX6_follows 62 = .ok (.ireturn, 1) := by decide +kernel
theorem dX6_count_0 : decode cX6_count 0 = .ok (.iload_n 1, 1) := by decide +kernel
theorem dX6_count_1 : decode cX6_count 1 = .ok (.tableswitch 200 0 13 #[71, 79, 90, 98, 109, 117, 125, 133, 141, 151, 161, 171, 181, 192], 71) := by decide +kernel
theorem dX6_count_72 : decode cX6_count 72 = .ok (.aload_n 0, 1) := by decide +kernel
theorem dX6_count_73 : decode cX6_count 73 = .ok (.getfield 10, 3) := by decide +kernel
theorem dX6_count_76 : decode cX6_count 76 = .ok (.getfield 158, 3) := by decide +kernel
theorem dX6_count_79 : decode cX6_count 79 = .ok (.ireturn, 1) := by decide +kernel
theorem dX6_count_80 : decode cX6_count 80 = .ok (.aload_n 0, 1) := by decide +kernel
theorem dX6_count_81 : decode cX6_count 81 = .ok (.getfield 10, 3) := by decide +kernel
theorem dX6_count_84 : decode cX6_count 84 = .ok (.getfield 74, 3) := by decide +kernel
theorem dX6_count_87 : decode cX6_count 87 = .ok (.getfield 161, 3) := by decide +kernel
theorem dX6_count_90 : decode cX6_count 90 = .ok (.ireturn, 1) := by decide +kernel
theorem dX6_count_91 : decode cX6_count 91 = .ok (.aload_n 0, 1) := by decide +kernel
theorem dX6_count_92 : decode cX6_count 92 = .ok (.getfield 10, 3) := by decide +kernel
theorem dX6_count_95 : decode cX6_count 95 = .ok (.getfield 162, 3) := by decide +kernel
theorem dX6_count_98 : decode cX6_count 98 = .ok (.ireturn, 1) := by decide +kernel
theorem dX6_count_99 : decode cX6_count 99 = .ok (.aload_n 0, 1) := by decide +kernel
theorem dX6_count_100 : decode cX6_count 100 = .ok (.getfield 10, 3) := by decide +kernel
theorem dX6_count_103 : decode cX6_count 103 = .ok (.getfield 74, 3) := by decide +kernel
theorem dX6_count_106 : decode cX6_count 106 = .ok (.invokevirtual 165, 3) := by decide +kernel
theorem dX6_count_109 : decode cX6_count 109 = .ok (.ireturn, 1) := by decide +kernel
theorem dX6_count_110 : decode cX6_count 110 = .ok (.aload_n 0, 1) := by decide +kernel
theorem dX6_count_111 : decode cX6_count 111 = .ok (.getfield 10, 3) := by decide +kernel
theorem dX6_count_114 : decode cX6_count 114 = .ok (.invokevirtual 168, 3) := by decide +kernel
theorem dX6_count_117 : decode cX6_count 117 = .ok (.ireturn, 1) := by decide +kernel
theorem dX6_count_118 : decode cX6_count 118 = .ok (.aload_n 0, 1) := by decide +kernel
theorem dX6_count_119 : decode cX6_count 119 = .ok (.getfield 10, 3) := by decide +kernel
theorem dX6_count_122 : decode cX6_count 122 = .ok (.invokevirtual 171, 3) := by decide +kernel
theorem dX6_count_125 : decode cX6_count 125 = .ok (.ireturn, 1) := by decide +kernel
theorem dX6_count_126 : decode cX6_count 126 = .ok (.aload_n 0, 1) := by decide +kernel
theorem dX6_count_127 : decode cX6_count 127 = .ok (.getfield 10, 3) := by decide +kernel
theorem dX6_count_130 : decode cX6_count 130 = .ok (.invokevirtual 174, 3) := by decide +kernel
theorem dX6_count_133 : decode cX6_count 133 = .ok (.ireturn, 1) := by decide +kernel
theorem dX6_count_134 : decode cX6_count 134 = .ok (.aload_n 0, 1) := by decide +kernel
theorem dX6_count_135 : decode cX6_count 135 = .ok (.getfield 10, 3) := by decide +kernel
theorem dX6_count_138 : decode cX6_count 138 = .ok (.invokevirtual 177, 3) := by decide +kernel
theorem dX6_count_141 : decode cX6_count 141 = .ok (.ireturn, 1) := by decide +kernel
theorem dX6_count_142 : decode cX6_count 142 = .ok (.aload_n 0, 1) := by decide +kernel
theorem dX6_count_143 : decode cX6_count 143 = .ok (.getfield 10, 3) := by decide +kernel
theorem dX6_count_146 : decode cX6_count 146 = .ok (.getfield 180, 3) := by decide +kernel
theorem dX6_count_149 : decode cX6_count 149 = .ok (.iconst 0, 1) := by decide +kernel
theorem dX6_count_150 : decode cX6_count 150 = .ok (.iaload, 1) := by decide +kernel
theorem dX6_count_151 : decode cX6_count 151 = .ok (.ireturn, 1) := by decide +kernel
theorem dX6_count_152 : decode cX6_count 152 = .ok (.aload_n 0, 1) := by decide +kernel
theorem dX6_count_153 : decode cX6_count 153 = .ok (.getfield 10, 3) := by decide +kernel
theorem dX6_count_156 : decode cX6_count 156 = .ok (.getfield 180, 3) := by decide +kernel
theorem dX6_count_159 : decode cX6_count 159 = .ok (.iconst 1, 1) := by decide +kernel
theorem dX6_count_160 : decode cX6_count 160 = .ok (.iaload, 1) := by decide +kernel
theorem dX6_count_161 : decode cX6_count 161 = .ok (.ireturn, 1) := by decide +kernel
theorem dX6_count_162 : decode cX6_count 162 = .ok (.aload_n 0, 1) := by decide +kernel
theorem dX6_count_163 : decode cX6_count 163 = .ok (.getfield 10, 3) := by decide +kernel
theorem dX6_count_166 : decode cX6_count 166 = .ok (.getfield 180, 3) := by decide +kernel
theorem dX6_count_169 : decode cX6_count 169 = .ok (.iconst 2, 1) := by decide +kernel
theorem dX6_count_170 : decode cX6_count 170 = .ok (.iaload, 1) := by decide +kernel
theorem dX6_count_171 : decode cX6_count 171 = .ok (.ireturn, 1) := by decide +kernel
theorem dX6_count_172 : decode cX6_count 172 = .ok (.aload_n 0, 1) := by decide +kernel
theorem dX6_count_173 : decode cX6_count 173 = .ok (.getfield 10, 3) := by decide +kernel
theorem dX6_count_176 : decode cX6_count 176 = .ok (.getfield 180, 3) := by decide +kernel
theorem dX6_count_179 : decode cX6_count 179 = .ok (.iconst 3, 1) := by decide +kernel
theorem dX6_count_180 : decode cX6_count 180 = .ok (.iaload, 1) := by decide +kernel
theorem dX6_count_181 : decode cX6_count 181 = .ok (.ireturn, 1) := by decide +kernel
theorem dX6_count_182 : decode cX6_count 182 = .ok (.aload_n 0, 1) := by decide +kernel
theorem dX6_count_183 : decode cX6_count 183 = .ok (.getfield 26, 3) := by decide +kernel
theorem dX6_count_186 : decode cX6_count 186 = .ok (.getfield 184, 3) := by decide +kernel
theorem dX6_count_189 : decode cX6_count 189 = .ok (.getfield 188, 3) := by decide +kernel
theorem dX6_count_192 : decode cX6_count 192 = .ok (.ireturn, 1) := by decide +kernel
theorem dX6_count_193 : decode cX6_count 193 = .ok (.aload_n 0, 1) := by decide +kernel
theorem dX6_count_194 : decode cX6_count 194 = .ok (.getfield 19, 3) := by decide +kernel
theorem dX6_count_197 : decode cX6_count 197 = .ok (.getfield 193, 3) := by decide +kernel
theorem dX6_count_200 : decode cX6_count 200 = .ok (.ireturn, 1) := by decide +kernel
theorem dX6_count_201 : decode cX6_count 201 = .ok (.bipush (-2), 2) := by decide +kernel
theorem dX6_count_203 : decode cX6_count 203 = .ok (.ireturn, 1) := by decide +kernel
theorem dX6_lessonsFor_0 : decode cX6_lessonsFor 0 = .ok (.aload_n 0, 1) := by decide +kernel
theorem dX6_lessonsFor_1 : decode cX6_lessonsFor 1 = .ok (.getfield 10, 3) := by decide +kernel
theorem dX6_lessonsFor_4 : decode cX6_lessonsFor 4 = .ok (.iload_n 1, 1) := by decide +kernel
theorem dX6_lessonsFor_5 : decode cX6_lessonsFor 5 = .ok (.invokevirtual 106, 3) := by decide +kernel
theorem dX6_lessonsFor_8 : decode cX6_lessonsFor 8 = .ok (.ifCond .eq 17, 3) := by decide +kernel
theorem dX6_lessonsFor_11 : decode cX6_lessonsFor 11 = .ok (.aload_n 0, 1) := by decide +kernel
theorem dX6_lessonsFor_12 : decode cX6_lessonsFor 12 = .ok (.getfield 10, 3) := by decide +kernel
theorem dX6_lessonsFor_15 : decode cX6_lessonsFor 15 = .ok (.getfield 74, 3) := by decide +kernel
theorem dX6_lessonsFor_18 : decode cX6_lessonsFor 18 = .ok (.iload_n 2, 1) := by decide +kernel
theorem dX6_lessonsFor_19 : decode cX6_lessonsFor 19 = .ok (.invokevirtual 78, 3) := by decide +kernel
theorem dX6_lessonsFor_22 : decode cX6_lessonsFor 22 = .ok (.ifCond .ne 5, 3) := by decide +kernel
theorem dX6_lessonsFor_25 : decode cX6_lessonsFor 25 = .ok (.iconst (-1), 1) := by decide +kernel
theorem dX6_lessonsFor_26 : decode cX6_lessonsFor 26 = .ok (.ireturn, 1) := by decide +kernel
theorem dX6_lessonsFor_27 : decode cX6_lessonsFor 27 = .ok (.aload_n 0, 1) := by decide +kernel
theorem dX6_lessonsFor_28 : decode cX6_lessonsFor 28 = .ok (.getfield 41, 3) := by decide +kernel
theorem dX6_lessonsFor_31 : decode cX6_lessonsFor 31 = .ok (.aload_n 0, 1) := by decide +kernel
theorem dX6_lessonsFor_32 : decode cX6_lessonsFor 32 = .ok (.getfield 10, 3) := by decide +kernel
theorem dX6_lessonsFor_35 : decode cX6_lessonsFor 35 = .ok (.getfield 109, 3) := by decide +kernel
theorem dX6_lessonsFor_38 : decode cX6_lessonsFor 38 = .ok (.iload_n 1, 1) := by decide +kernel
theorem dX6_lessonsFor_39 : decode cX6_lessonsFor 39 = .ok (.aaload, 1) := by decide +kernel
theorem dX6_lessonsFor_40 : decode cX6_lessonsFor 40 = .ok (.invokevirtual 194, 3) := by decide +kernel
theorem dX6_lessonsFor_43 : decode cX6_lessonsFor 43 = .ok (.iconst 0, 1) := by decide +kernel
theorem dX6_lessonsFor_44 : decode cX6_lessonsFor 44 = .ok (.istore_n 3, 1) := by decide +kernel
theorem dX6_lessonsFor_45 : decode cX6_lessonsFor 45 = .ok (.iload_n 3, 1) := by decide +kernel
theorem dX6_lessonsFor_46 : decode cX6_lessonsFor 46 = .ok (.bipush 30, 2) := by decide +kernel
theorem dX6_lessonsFor_48 : decode cX6_lessonsFor 48 = .ok (.if_icmp .gt 50, 3) := by decide +kernel
theorem dX6_lessonsFor_51 : decode cX6_lessonsFor 51 = .ok (.aload_n 0, 1) := by decide +kernel
theorem dX6_lessonsFor_52 : decode cX6_lessonsFor 52 = .ok (.getfield 10, 3) := by decide +kernel
theorem dX6_lessonsFor_55 : decode cX6_lessonsFor 55 = .ok (.getfield 74, 3) := by decide +kernel
theorem dX6_lessonsFor_58 : decode cX6_lessonsFor 58 = .ok (.aload_n 0, 1) := by decide +kernel
theorem dX6_lessonsFor_59 : decode cX6_lessonsFor 59 = .ok (.getfield 41, 3) := by decide +kernel
theorem dX6_lessonsFor_62 : decode cX6_lessonsFor 62 = .ok (.iload_n 2, 1) := by decide +kernel
theorem dX6_lessonsFor_63 : decode cX6_lessonsFor 63 = .ok (.invokevirtual 198, 3) := by decide +kernel
theorem dX6_lessonsFor_66 : decode cX6_lessonsFor 66 = .ok (.ifCond .eq 5, 3) := by decide +kernel
theorem dX6_lessonsFor_69 : decode cX6_lessonsFor 69 = .ok (.iload_n 3, 1) := by decide +kernel
theorem dX6_lessonsFor_70 : decode cX6_lessonsFor 70 = .ok (.ireturn, 1) := by decide +kernel
theorem dX6_lessonsFor_71 : decode cX6_lessonsFor 71 = .ok (.aload_n 0, 1) := by decide +kernel
theorem dX6_lessonsFor_72 : decode cX6_lessonsFor 72 = .ok (.getfield 41, 3) := by decide +kernel
theorem dX6_lessonsFor_75 : decode cX6_lessonsFor 75 = .ok (.bipush (-6), 2) := by decide +kernel
theorem dX6_lessonsFor_77 : decode cX6_lessonsFor 77 = .ok (.putfield 120, 3) := by decide +kernel
theorem dX6_lessonsFor_80 : decode cX6_lessonsFor 80 = .ok (.aload_n 0, 1) := by decide +kernel
theorem dX6_lessonsFor_81 : decode cX6_lessonsFor 81 = .ok (.getfield 10, 3) := by decide +kernel
theorem dX6_lessonsFor_84 : decode cX6_lessonsFor 84 = .ok (.aload_n 0, 1) := by decide +kernel
theorem dX6_lessonsFor_85 : decode cX6_lessonsFor 85 = .ok (.getfield 41, 3) := by decide +kernel
theorem dX6_lessonsFor_88 : decode cX6_lessonsFor 88 = .ok (.iload_n 2, 1) := by decide +kernel
theorem dX6_lessonsFor_89 : decode cX6_lessonsFor 89 = .ok (.invokevirtual 202, 3) := by decide +kernel
theorem dX6_lessonsFor_92 : decode cX6_lessonsFor 92 = .ok (.iinc 3 1, 3) := by decide +kernel
theorem dX6_lessonsFor_95 : decode cX6_lessonsFor 95 = .ok (.goto (-50), 3) := by decide +kernel
theorem dX6_lessonsFor_98 : decode cX6_lessonsFor 98 = .ok (.bipush (-6), 2) := by decide +kernel
theorem dX6_lessonsFor_100 : decode cX6_lessonsFor 100 = .ok (.ireturn, 1) := by decide +kernel
theorem dX6_bestLesson_0 : decode cX6_bestLesson 0 = .ok (.aload_n 0, 1) := by decide +kernel
theorem dX6_bestLesson_1 : decode cX6_bestLesson 1 = .ok (.getfield 10, 3) := by decide +kernel
theorem dX6_bestLesson_4 : decode cX6_bestLesson 4 = .ok (.iload_n 1, 1) := by decide +kernel
theorem dX6_bestLesson_5 : decode cX6_bestLesson 5 = .ok (.invokevirtual 106, 3) := by decide +kernel
theorem dX6_bestLesson_8 : decode cX6_bestLesson 8 = .ok (.ifCond .ne 5, 3) := by decide +kernel
theorem dX6_bestLesson_11 : decode cX6_bestLesson 11 = .ok (.iconst (-1), 1) := by decide +kernel
theorem dX6_bestLesson_12 : decode cX6_bestLesson 12 = .ok (.ireturn, 1) := by decide +kernel
theorem dX6_bestLesson_13 : decode cX6_bestLesson 13 = .ok (.iload_n 2, 1) := by decide +kernel
theorem dX6_bestLesson_14 : decode cX6_bestLesson 14 = .ok (.ifCond .eq 11, 3) := by decide +kernel
theorem dX6_bestLesson_17 : decode cX6_bestLesson 17 = .ok (.iload_n 2, 1) := by decide +kernel
theorem dX6_bestLesson_18 : decode cX6_bestLesson 18 = .ok (.iconst 1, 1) := by decide +kernel
theorem dX6_bestLesson_19 : decode cX6_bestLesson 19 = .ok (.if_icmp .eq 6, 3) := by decide +kernel
theorem dX6_bestLesson_22 : decode cX6_bestLesson 22 = .ok (.bipush (-2), 2) := by decide +kernel
theorem dX6_bestLesson_24 : decode cX6_bestLesson 24 = .ok (.ireturn, 1) := by decide +kernel
theorem dX6_bestLesson_25 : decode cX6_bestLesson 25 = .ok (.aload_n 0, 1) := by decide +kernel
theorem dX6_bestLesson_26 : decode cX6_bestLesson 26 = .ok (.getfield 10, 3) := by decide +kernel
theorem dX6_bestLesson_29 : decode cX6_bestLesson 29 = .ok (.getfield 109, 3) := by decide +kernel
theorem dX6_bestLesson_32 : decode cX6_bestLesson 32 = .ok (.iload_n 1, 1) := by decide +kernel
theorem dX6_bestLesson_33 : decode cX6_bestLesson 33 = .ok (.aaload, 1) := by decide +kernel
theorem dX6_bestLesson_34 : decode cX6_bestLesson 34 = .ok (.astore_n 3, 1) := by decide +kernel
theorem dX6_bestLesson_35 : decode cX6_bestLesson 35 = .ok (.bipush (-6), 2) := by decide +kernel
theorem dX6_bestLesson_37 : decode cX6_bestLesson 37 = .ok (.istore 4, 2) := by decide +kernel
theorem dX6_bestLesson_39 : decode cX6_bestLesson 39 = .ok (.aload_n 0, 1) := by decide +kernel
theorem dX6_bestLesson_40 : decode cX6_bestLesson 40 = .ok (.getfield 10, 3) := by decide +kernel
theorem dX6_bestLesson_43 : decode cX6_bestLesson 43 = .ok (.getfield 74, 3) := by decide +kernel
theorem dX6_bestLesson_46 : decode cX6_bestLesson 46 = .ok (.aload_n 3, 1) := by decide +kernel
theorem dX6_bestLesson_47 : decode cX6_bestLesson 47 = .ok (.invokevirtual 206, 3) := by decide +kernel
theorem dX6_bestLesson_50 : decode cX6_bestLesson 50 = .ok (.istore 5, 2) := by decide +kernel
theorem dX6_bestLesson_52 : decode cX6_bestLesson 52 = .ok (.iconst 0, 1) := by decide +kernel
theorem dX6_bestLesson_53 : decode cX6_bestLesson 53 = .ok (.istore 6, 2) := by decide +kernel
theorem dX6_bestLesson_55 : decode cX6_bestLesson 55 = .ok (.iload 6, 2) := by decide +kernel
theorem dX6_bestLesson_57 : decode cX6_bestLesson 57 = .ok (.aload_n 0, 1) := by decide +kernel
theorem dX6_bestLesson_58 : decode cX6_bestLesson 58 = .ok (.getfield 10, 3) := by decide +kernel
theorem dX6_bestLesson_61 : decode cX6_bestLesson 61 = .ok (.getfield 74, 3) := by decide +kernel
theorem dX6_bestLesson_64 : decode cX6_bestLesson 64 = .ok (.getfield 161, 3) := by decide +kernel
theorem dX6_bestLesson_67 : decode cX6_bestLesson 67 = .ok (.if_icmp .ge 61, 3) := by decide +kernel
theorem dX6_bestLesson_70 : decode cX6_bestLesson 70 = .ok (.aload_n 0, 1) := by decide +kernel
theorem dX6_bestLesson_71 : decode cX6_bestLesson 71 = .ok (.getfield 41, 3) := by decide +kernel
theorem dX6_bestLesson_74 : decode cX6_bestLesson 74 = .ok (.aload_n 3, 1) := by decide +kernel
theorem dX6_bestLesson_75 : decode cX6_bestLesson 75 = .ok (.invokevirtual 194, 3) := by decide +kernel
theorem dX6_bestLesson_78 : decode cX6_bestLesson 78 = .ok (.aload_n 0, 1) := by decide +kernel
theorem dX6_bestLesson_79 : decode cX6_bestLesson 79 = .ok (.getfield 10, 3) := by decide +kernel
theorem dX6_bestLesson_82 : decode cX6_bestLesson 82 = .ok (.aload_n 0, 1) := by decide +kernel
theorem dX6_bestLesson_83 : decode cX6_bestLesson 83 = .ok (.getfield 41, 3) := by decide +kernel
theorem dX6_bestLesson_86 : decode cX6_bestLesson 86 = .ok (.iload 6, 2) := by decide +kernel
theorem dX6_bestLesson_88 : decode cX6_bestLesson 88 = .ok (.invokevirtual 202, 3) := by decide +kernel
theorem dX6_bestLesson_91 : decode cX6_bestLesson 91 = .ok (.aload_n 0, 1) := by decide +kernel
theorem dX6_bestLesson_92 : decode cX6_bestLesson 92 = .ok (.getfield 10, 3) := by decide +kernel
theorem dX6_bestLesson_95 : decode cX6_bestLesson 95 = .ok (.getfield 74, 3) := by decide +kernel
theorem dX6_bestLesson_98 : decode cX6_bestLesson 98 = .ok (.aload_n 0, 1) := by decide +kernel
theorem dX6_bestLesson_99 : decode cX6_bestLesson 99 = .ok (.getfield 41, 3) := by decide +kernel
theorem dX6_bestLesson_102 : decode cX6_bestLesson 102 = .ok (.invokevirtual 206, 3) := by decide +kernel
theorem dX6_bestLesson_105 : decode cX6_bestLesson 105 = .ok (.istore 7, 2) := by decide +kernel
theorem dX6_bestLesson_107 : decode cX6_bestLesson 107 = .ok (.iload 7, 2) := by decide +kernel
theorem dX6_bestLesson_109 : decode cX6_bestLesson 109 = .ok (.iload 5, 2) := by decide +kernel
theorem dX6_bestLesson_111 : decode cX6_bestLesson 111 = .ok (.if_icmp .le 11, 3) := by decide +kernel
theorem dX6_bestLesson_114 : decode cX6_bestLesson 114 = .ok (.iload 6, 2) := by decide +kernel
theorem dX6_bestLesson_116 : decode cX6_bestLesson 116 = .ok (.istore 4, 2) := by decide +kernel
theorem dX6_bestLesson_118 : decode cX6_bestLesson 118 = .ok (.iload 7, 2) := by decide +kernel
theorem dX6_bestLesson_120 : decode cX6_bestLesson 120 = .ok (.istore 5, 2) := by decide +kernel
theorem dX6_bestLesson_122 : decode cX6_bestLesson 122 = .ok (.iinc 6 1, 3) := by decide +kernel
theorem dX6_bestLesson_125 : decode cX6_bestLesson 125 = .ok (.goto (-70), 3) := by decide +kernel
theorem dX6_bestLesson_128 : decode cX6_bestLesson 128 = .ok (.iload 4, 2) := by decide +kernel
theorem dX6_bestLesson_130 : decode cX6_bestLesson 130 = .ok (.bipush (-6), 2) := by decide +kernel
theorem dX6_bestLesson_132 : decode cX6_bestLesson 132 = .ok (.if_icmp .ne 6, 3) := by decide +kernel
theorem dX6_bestLesson_135 : decode cX6_bestLesson 135 = .ok (.bipush (-6), 2) := by decide +kernel
theorem dX6_bestLesson_137 : decode cX6_bestLesson 137 = .ok (.ireturn, 1) := by decide +kernel
theorem dX6_bestLesson_138 : decode cX6_bestLesson 138 = .ok (.iload_n 2, 1) := by decide +kernel
theorem dX6_bestLesson_139 : decode cX6_bestLesson 139 = .ok (.ifCond .ne 8, 3) := by decide +kernel
theorem dX6_bestLesson_142 : decode cX6_bestLesson 142 = .ok (.iload 4, 2) := by decide +kernel
theorem dX6_bestLesson_144 : decode cX6_bestLesson 144 = .ok (.goto 5, 3) := by decide +kernel
theorem dX6_bestLesson_147 : decode cX6_bestLesson 147 = .ok (.iload 5, 2) := by decide +kernel
theorem dX6_bestLesson_149 : decode cX6_bestLesson 149 = .ok (.ireturn, 1) := by decide +kernel
theorem dX6_keeps_0 : decode cX6_keeps 0 = .ok (.aload_n 0, 1) := by decide +kernel
theorem dX6_keeps_1 : decode cX6_keeps 1 = .ok (.getfield 10, 3) := by decide +kernel
theorem dX6_keeps_4 : decode cX6_keeps 4 = .ok (.iload_n 1, 1) := by decide +kernel
theorem dX6_keeps_5 : decode cX6_keeps 5 = .ok (.invokevirtual 106, 3) := by decide +kernel
theorem dX6_keeps_8 : decode cX6_keeps 8 = .ok (.ifCond .eq 17, 3) := by decide +kernel
theorem dX6_keeps_11 : decode cX6_keeps 11 = .ok (.aload_n 0, 1) := by decide +kernel
theorem dX6_keeps_12 : decode cX6_keeps 12 = .ok (.getfield 10, 3) := by decide +kernel
theorem dX6_keeps_15 : decode cX6_keeps 15 = .ok (.getfield 74, 3) := by decide +kernel
theorem dX6_keeps_18 : decode cX6_keeps 18 = .ok (.iload_n 2, 1) := by decide +kernel
theorem dX6_keeps_19 : decode cX6_keeps 19 = .ok (.invokevirtual 78, 3) := by decide +kernel
theorem dX6_keeps_22 : decode cX6_keeps 22 = .ok (.ifCond .ne 5, 3) := by decide +kernel
theorem dX6_keeps_25 : decode cX6_keeps 25 = .ok (.iconst (-1), 1) := by decide +kernel
theorem dX6_keeps_26 : decode cX6_keeps 26 = .ok (.ireturn, 1) := by decide +kernel
theorem dX6_keeps_27 : decode cX6_keeps 27 = .ok (.aload_n 0, 1) := by decide +kernel
theorem dX6_keeps_28 : decode cX6_keeps 28 = .ok (.getfield 41, 3) := by decide +kernel
theorem dX6_keeps_31 : decode cX6_keeps 31 = .ok (.aload_n 0, 1) := by decide +kernel
theorem dX6_keeps_32 : decode cX6_keeps 32 = .ok (.getfield 10, 3) := by decide +kernel
theorem dX6_keeps_35 : decode cX6_keeps 35 = .ok (.getfield 109, 3) := by decide +kernel
theorem dX6_keeps_38 : decode cX6_keeps 38 = .ok (.iload_n 1, 1) := by decide +kernel
theorem dX6_keeps_39 : decode cX6_keeps 39 = .ok (.aaload, 1) := by decide +kernel
theorem dX6_keeps_40 : decode cX6_keeps 40 = .ok (.invokevirtual 194, 3) := by decide +kernel
theorem dX6_keeps_43 : decode cX6_keeps 43 = .ok (.iconst 0, 1) := by decide +kernel
theorem dX6_keeps_44 : decode cX6_keeps 44 = .ok (.istore_n 3, 1) := by decide +kernel
theorem dX6_keeps_45 : decode cX6_keeps 45 = .ok (.iload_n 3, 1) := by decide +kernel
theorem dX6_keeps_46 : decode cX6_keeps 46 = .ok (.bipush 30, 2) := by decide +kernel
theorem dX6_keeps_48 : decode cX6_keeps 48 = .ok (.if_icmp .gt 46, 3) := by decide +kernel
theorem dX6_keeps_51 : decode cX6_keeps 51 = .ok (.aload_n 0, 1) := by decide +kernel
theorem dX6_keeps_52 : decode cX6_keeps 52 = .ok (.getfield 10, 3) := by decide +kernel
theorem dX6_keeps_55 : decode cX6_keeps 55 = .ok (.getfield 74, 3) := by decide +kernel
theorem dX6_keeps_58 : decode cX6_keeps 58 = .ok (.aload_n 0, 1) := by decide +kernel
theorem dX6_keeps_59 : decode cX6_keeps 59 = .ok (.getfield 41, 3) := by decide +kernel
theorem dX6_keeps_62 : decode cX6_keeps 62 = .ok (.iload_n 2, 1) := by decide +kernel
theorem dX6_keeps_63 : decode cX6_keeps 63 = .ok (.invokevirtual 198, 3) := by decide +kernel
theorem dX6_keeps_66 : decode cX6_keeps 66 = .ok (.ifCond .ne 5, 3) := by decide +kernel
theorem dX6_keeps_69 : decode cX6_keeps 69 = .ok (.iload_n 3, 1) := by decide +kernel
theorem dX6_keeps_70 : decode cX6_keeps 70 = .ok (.ireturn, 1) := by decide +kernel
theorem dX6_keeps_71 : decode cX6_keeps 71 = .ok (.aload_n 0, 1) := by decide +kernel
theorem dX6_keeps_72 : decode cX6_keeps 72 = .ok (.getfield 41, 3) := by decide +kernel
theorem dX6_keeps_75 : decode cX6_keeps 75 = .ok (.aload_n 0, 1) := by decide +kernel
theorem dX6_keeps_76 : decode cX6_keeps 76 = .ok (.getfield 10, 3) := by decide +kernel
theorem dX6_keeps_79 : decode cX6_keeps 79 = .ok (.getfield 180, 3) := by decide +kernel
theorem dX6_keeps_82 : decode cX6_keeps 82 = .ok (.iconst 1, 1) := by decide +kernel
theorem dX6_keeps_83 : decode cX6_keeps 83 = .ok (.iaload, 1) := by decide +kernel
theorem dX6_keeps_84 : decode cX6_keeps 84 = .ok (.invokevirtual 209, 3) := by decide +kernel
theorem dX6_keeps_87 : decode cX6_keeps 87 = .ok (.pop, 1) := by decide +kernel
theorem dX6_keeps_88 : decode cX6_keeps 88 = .ok (.iinc 3 1, 3) := by decide +kernel
theorem dX6_keeps_91 : decode cX6_keeps 91 = .ok (.goto (-46), 3) := by decide +kernel
theorem dX6_keeps_94 : decode cX6_keeps 94 = .ok (.bipush (-6), 2) := by decide +kernel
theorem dX6_keeps_96 : decode cX6_keeps 96 = .ok (.ireturn, 1) := by decide +kernel
theorem dX6_put_0 : decode cX6_put 0 = .ok (.aload_n 0, 1) := by decide +kernel
theorem dX6_put_1 : decode cX6_put 1 = .ok (.getfield 26, 3) := by decide +kernel
theorem dX6_put_4 : decode cX6_put 4 = .ok (.getfield 184, 3) := by decide +kernel
theorem dX6_put_7 : decode cX6_put 7 = .ok (.lload_n 1, 1) := by decide +kernel
theorem dX6_put_8 : decode cX6_put 8 = .ok (.invokevirtual 212, 3) := by decide +kernel
theorem dX6_put_11 : decode cX6_put 11 = .ok (.ireturn, 1) := by decide +kernel
theorem dX6_wipe_0 : decode cX6_wipe 0 = .ok (.aload_n 0, 1) := by decide +kernel
theorem dX6_wipe_1 : decode cX6_wipe 1 = .ok (.getfield 26, 3) := by decide +kernel
theorem dX6_wipe_4 : decode cX6_wipe 4 = .ok (.getfield 184, 3) := by decide +kernel
theorem dX6_wipe_7 : decode cX6_wipe 7 = .ok (.getfield 188, 3) := by decide +kernel
theorem dX6_wipe_10 : decode cX6_wipe 10 = .ok (.istore_n 1, 1) := by decide +kernel
theorem dX6_wipe_11 : decode cX6_wipe 11 = .ok (.aload_n 0, 1) := by decide +kernel
theorem dX6_wipe_12 : decode cX6_wipe 12 = .ok (.getfield 26, 3) := by decide +kernel
theorem dX6_wipe_15 : decode cX6_wipe 15 = .ok (.getfield 184, 3) := by decide +kernel
theorem dX6_wipe_18 : decode cX6_wipe 18 = .ok (.iconst 0, 1) := by decide +kernel
theorem dX6_wipe_19 : decode cX6_wipe 19 = .ok (.putfield 188, 3) := by decide +kernel
theorem dX6_wipe_22 : decode cX6_wipe 22 = .ok (.iload_n 1, 1) := by decide +kernel
theorem dX6_wipe_23 : decode cX6_wipe 23 = .ok (.ireturn, 1) := by decide +kernel
theorem dX6_fault_0 : decode cX6_fault 0 = .ok (.aload_n 0, 1) := by decide +kernel
theorem dX6_fault_1 : decode cX6_fault 1 = .ok (.getfield 26, 3) := by decide +kernel
theorem dX6_fault_4 : decode cX6_fault 4 = .ok (.invokevirtual 216, 3) := by decide +kernel
theorem dX6_fault_7 : decode cX6_fault 7 = .ok (.ireturn, 1) := by decide +kernel
theorem dX6_carryOut_0 : decode cX6_carryOut 0 = .ok (.aload_n 0, 1) := by decide +kernel
theorem dX6_carryOut_1 : decode cX6_carryOut 1 = .ok (.getfield 26, 3) := by decide +kernel
theorem dX6_carryOut_4 : decode cX6_carryOut 4 = .ok (.invokevirtual 216, 3) := by decide +kernel
theorem dX6_carryOut_7 : decode cX6_carryOut 7 = .ok (.bipush (-6), 2) := by decide +kernel
theorem dX6_carryOut_9 : decode cX6_carryOut 9 = .ok (.if_icmp .eq 6, 3) := by decide +kernel
theorem dX6_carryOut_12 : decode cX6_carryOut 12 = .ok (.bipush (-3), 2) := by decide +kernel
theorem dX6_carryOut_14 : decode cX6_carryOut 14 = .ok (.ireturn, 1) := by decide +kernel
theorem dX6_carryOut_15 : decode cX6_carryOut 15 = .ok (.aload_n 0, 1) := by decide +kernel
theorem dX6_carryOut_16 : decode cX6_carryOut 16 = .ok (.getfield 19, 3) := by decide +kernel
theorem dX6_carryOut_19 : decode cX6_carryOut 19 = .ok (.aload_n 0, 1) := by decide +kernel
theorem dX6_carryOut_20 : decode cX6_carryOut 20 = .ok (.getfield 10, 3) := by decide +kernel
theorem dX6_carryOut_23 : decode cX6_carryOut 23 = .ok (.invokevirtual 45, 3) := by decide +kernel
theorem dX6_carryOut_26 : decode cX6_carryOut 26 = .ok (.iconst 0, 1) := by decide +kernel
theorem dX6_carryOut_27 : decode cX6_carryOut 27 = .ok (.istore_n 1, 1) := by decide +kernel
theorem dX6_carryOut_28 : decode cX6_carryOut 28 = .ok (.aload_n 0, 1) := by decide +kernel
theorem dX6_carryOut_29 : decode cX6_carryOut 29 = .ok (.getfield 26, 3) := by decide +kernel
theorem dX6_carryOut_32 : decode cX6_carryOut 32 = .ok (.invokevirtual 219, 3) := by decide +kernel
theorem dX6_carryOut_35 : decode cX6_carryOut 35 = .ok (.iload_n 1, 1) := by decide +kernel
theorem dX6_carryOut_36 : decode cX6_carryOut 36 = .ok (.bipush 80, 2) := by decide +kernel
theorem dX6_carryOut_38 : decode cX6_carryOut 38 = .ok (.if_icmp .ge 29, 3) := by decide +kernel
theorem dX6_carryOut_41 : decode cX6_carryOut 41 = .ok (.aload_n 0, 1) := by decide +kernel
theorem dX6_carryOut_42 : decode cX6_carryOut 42 = .ok (.getfield 26, 3) := by decide +kernel
theorem dX6_carryOut_45 : decode cX6_carryOut 45 = .ok (.invokevirtual 222, 3) := by decide +kernel
theorem dX6_carryOut_48 : decode cX6_carryOut 48 = .ok (.ifCond .eq 19, 3) := by decide +kernel
theorem dX6_carryOut_51 : decode cX6_carryOut 51 = .ok (.aload_n 0, 1) := by decide +kernel
theorem dX6_carryOut_52 : decode cX6_carryOut 52 = .ok (.invokevirtual 226, 3) := by decide +kernel
theorem dX6_carryOut_55 : decode cX6_carryOut 55 = .ok (.invokestatic 229, 3) := by decide +kernel
theorem dX6_carryOut_58 : decode cX6_carryOut 58 = .ok (.ifCond .ne 9, 3) := by decide +kernel
theorem dX6_carryOut_61 : decode cX6_carryOut 61 = .ok (.iinc 1 1, 3) := by decide +kernel
theorem dX6_carryOut_64 : decode cX6_carryOut 64 = .ok (.goto (-29), 3) := by decide +kernel
theorem dX6_carryOut_67 : decode cX6_carryOut 67 = .ok (.aload_n 0, 1) := by decide +kernel
theorem dX6_carryOut_68 : decode cX6_carryOut 68 = .ok (.getfield 26, 3) := by decide +kernel
theorem dX6_carryOut_71 : decode cX6_carryOut 71 = .ok (.getfield 184, 3) := by decide +kernel
theorem dX6_carryOut_74 : decode cX6_carryOut 74 = .ok (.iconst 0, 1) := by decide +kernel
theorem dX6_carryOut_75 : decode cX6_carryOut 75 = .ok (.putfield 188, 3) := by decide +kernel
theorem dX6_carryOut_78 : decode cX6_carryOut 78 = .ok (.aload_n 0, 1) := by decide +kernel
theorem dX6_carryOut_79 : decode cX6_carryOut 79 = .ok (.getfield 19, 3) := by decide +kernel
theorem dX6_carryOut_82 : decode cX6_carryOut 82 = .ok (.iload_n 1, 1) := by decide +kernel
theorem dX6_carryOut_83 : decode cX6_carryOut 83 = .ok (.invokevirtual 53, 3) := by decide +kernel
theorem dX6_carryOut_86 : decode cX6_carryOut 86 = .ok (.ireturn, 1) := by decide +kernel
theorem dX6_undo_0 : decode cX6_undo 0 = .ok (.aload_n 0, 1) := by decide +kernel
theorem dX6_undo_1 : decode cX6_undo 1 = .ok (.getfield 19, 3) := by decide +kernel
theorem dX6_undo_4 : decode cX6_undo 4 = .ok (.getfield 193, 3) := by decide +kernel
theorem dX6_undo_7 : decode cX6_undo 7 = .ok (.ifCond .ne 6, 3) := by decide +kernel
theorem dX6_undo_10 : decode cX6_undo 10 = .ok (.bipush (-5), 2) := by decide +kernel
theorem dX6_undo_12 : decode cX6_undo 12 = .ok (.ireturn, 1) := by decide +kernel
theorem dX6_undo_13 : decode cX6_undo 13 = .ok (.aload_n 0, 1) := by decide +kernel
theorem dX6_undo_14 : decode cX6_undo 14 = .ok (.getfield 19, 3) := by decide +kernel
theorem dX6_undo_17 : decode cX6_undo 17 = .ok (.aload_n 0, 1) := by decide +kernel
theorem dX6_undo_18 : decode cX6_undo 18 = .ok (.getfield 10, 3) := by decide +kernel
theorem dX6_undo_21 : decode cX6_undo 21 = .ok (.invokevirtual 232, 3) := by decide +kernel
theorem dX6_undo_24 : decode cX6_undo 24 = .ok (.ireturn, 1) := by decide +kernel
theorem dX6_save_0 : decode cX6_save 0 = .ok (.iload_n 1, 1) := by decide +kernel
theorem dX6_save_1 : decode cX6_save 1 = .ok (.ifCond .lt 8, 3) := by decide +kernel
theorem dX6_save_4 : decode cX6_save 4 = .ok (.iload_n 1, 1) := by decide +kernel
theorem dX6_save_5 : decode cX6_save 5 = .ok (.iconst 2, 1) := by decide +kernel
theorem dX6_save_6 : decode cX6_save 6 = .ok (.if_icmp .lt 6, 3) := by decide +kernel
theorem dX6_save_9 : decode cX6_save 9 = .ok (.bipush (-2), 2) := by decide +kernel
theorem dX6_save_11 : decode cX6_save 11 = .ok (.ireturn, 1) := by decide +kernel
theorem dX6_save_12 : decode cX6_save 12 = .ok (.aload_n 0, 1) := by decide +kernel
theorem dX6_save_13 : decode cX6_save 13 = .ok (.getfield 30, 3) := by decide +kernel
theorem dX6_save_16 : decode cX6_save 16 = .ok (.iload_n 1, 1) := by decide +kernel
theorem dX6_save_17 : decode cX6_save 17 = .ok (.aaload, 1) := by decide +kernel
theorem dX6_save_18 : decode cX6_save 18 = .ok (.aload_n 0, 1) := by decide +kernel
theorem dX6_save_19 : decode cX6_save 19 = .ok (.getfield 10, 3) := by decide +kernel
theorem dX6_save_22 : decode cX6_save 22 = .ok (.invokevirtual 236, 3) := by decide +kernel
theorem dX6_save_25 : decode cX6_save 25 = .ok (.aload_n 0, 1) := by decide +kernel
theorem dX6_save_26 : decode cX6_save 26 = .ok (.getfield 34, 3) := by decide +kernel
theorem dX6_save_29 : decode cX6_save 29 = .ok (.iload_n 1, 1) := by decide +kernel
theorem dX6_save_30 : decode cX6_save 30 = .ok (.iconst 1, 1) := by decide +kernel
theorem dX6_save_31 : decode cX6_save 31 = .ok (.bastore, 1) := by decide +kernel
theorem dX6_save_32 : decode cX6_save 32 = .ok (.aload_n 0, 1) := by decide +kernel
theorem dX6_save_33 : decode cX6_save 33 = .ok (.getfield 10, 3) := by decide +kernel
theorem dX6_save_36 : decode cX6_save 36 = .ok (.getfield 74, 3) := by decide +kernel
theorem dX6_save_39 : decode cX6_save 39 = .ok (.getfield 161, 3) := by decide +kernel
theorem dX6_save_42 : decode cX6_save 42 = .ok (.ireturn, 1) := by decide +kernel
theorem dX6_restore_0 : decode cX6_restore 0 = .ok (.iload_n 1, 1) := by decide +kernel
theorem dX6_restore_1 : decode cX6_restore 1 = .ok (.ifCond .lt 8, 3) := by decide +kernel
theorem dX6_restore_4 : decode cX6_restore 4 = .ok (.iload_n 1, 1) := by decide +kernel
theorem dX6_restore_5 : decode cX6_restore 5 = .ok (.iconst 2, 1) := by decide +kernel
theorem dX6_restore_6 : decode cX6_restore 6 = .ok (.if_icmp .lt 6, 3) := by decide +kernel
theorem dX6_restore_9 : decode cX6_restore 9 = .ok (.bipush (-2), 2) := by decide +kernel
theorem dX6_restore_11 : decode cX6_restore 11 = .ok (.ireturn, 1) := by decide +kernel
theorem dX6_restore_12 : decode cX6_restore 12 = .ok (.aload_n 0, 1) := by decide +kernel
theorem dX6_restore_13 : decode cX6_restore 13 = .ok (.getfield 34, 3) := by decide +kernel
theorem dX6_restore_16 : decode cX6_restore 16 = .ok (.iload_n 1, 1) := by decide +kernel
theorem dX6_restore_17 : decode cX6_restore 17 = .ok (.baload, 1) := by decide +kernel
theorem dX6_restore_18 : decode cX6_restore 18 = .ok (.ifCond .ne 6, 3) := by decide +kernel
theorem dX6_restore_21 : decode cX6_restore 21 = .ok (.bipush (-5), 2) := by decide +kernel
theorem dX6_restore_23 : decode cX6_restore 23 = .ok (.ireturn, 1) := by decide +kernel
theorem dX6_restore_24 : decode cX6_restore 24 = .ok (.aload_n 0, 1) := by decide +kernel
theorem dX6_restore_25 : decode cX6_restore 25 = .ok (.getfield 19, 3) := by decide +kernel
theorem dX6_restore_28 : decode cX6_restore 28 = .ok (.aload_n 0, 1) := by decide +kernel
theorem dX6_restore_29 : decode cX6_restore 29 = .ok (.getfield 10, 3) := by decide +kernel
theorem dX6_restore_32 : decode cX6_restore 32 = .ok (.invokevirtual 45, 3) := by decide +kernel
theorem dX6_restore_35 : decode cX6_restore 35 = .ok (.aload_n 0, 1) := by decide +kernel
theorem dX6_restore_36 : decode cX6_restore 36 = .ok (.getfield 10, 3) := by decide +kernel
theorem dX6_restore_39 : decode cX6_restore 39 = .ok (.aload_n 0, 1) := by decide +kernel
theorem dX6_restore_40 : decode cX6_restore 40 = .ok (.getfield 30, 3) := by decide +kernel
theorem dX6_restore_43 : decode cX6_restore 43 = .ok (.iload_n 1, 1) := by decide +kernel
theorem dX6_restore_44 : decode cX6_restore 44 = .ok (.aaload, 1) := by decide +kernel
theorem dX6_restore_45 : decode cX6_restore 45 = .ok (.invokevirtual 236, 3) := by decide +kernel
theorem dX6_restore_48 : decode cX6_restore 48 = .ok (.aload_n 0, 1) := by decide +kernel
theorem dX6_restore_49 : decode cX6_restore 49 = .ok (.getfield 19, 3) := by decide +kernel
theorem dX6_restore_52 : decode cX6_restore 52 = .ok (.aload_n 0, 1) := by decide +kernel
theorem dX6_restore_53 : decode cX6_restore 53 = .ok (.getfield 10, 3) := by decide +kernel
theorem dX6_restore_56 : decode cX6_restore 56 = .ok (.getfield 74, 3) := by decide +kernel
theorem dX6_restore_59 : decode cX6_restore 59 = .ok (.getfield 161, 3) := by decide +kernel
theorem dX6_restore_62 : decode cX6_restore 62 = .ok (.invokevirtual 53, 3) := by decide +kernel
theorem dX6_restore_65 : decode cX6_restore 65 = .ok (.ireturn, 1) := by decide +kernel
theorem dX6_isError_0 : decode cX6_isError 0 = .ok (.iload_n 0, 1) := by decide +kernel
theorem dX6_isError_1 : decode cX6_isError 1 = .ok (.iconst (-1), 1) := by decide +kernel
theorem dX6_isError_2 : decode cX6_isError 2 = .ok (.if_icmp .gt 13, 3) := by decide +kernel
theorem dX6_isError_5 : decode cX6_isError 5 = .ok (.iload_n 0, 1) := by decide +kernel
theorem dX6_isError_6 : decode cX6_isError 6 = .ok (.bipush (-5), 2) := by decide +kernel
theorem dX6_isError_8 : decode cX6_isError 8 = .ok (.if_icmp .lt 7, 3) := by decide +kernel
theorem dX6_isError_11 : decode cX6_isError 11 = .ok (.iconst 1, 1) := by decide +kernel
theorem dX6_isError_12 : decode cX6_isError 12 = .ok (.goto 4, 3) := by decide +kernel
theorem dX6_isError_15 : decode cX6_isError 15 = .ok (.iconst 0, 1) := by decide +kernel
theorem dX6_isError_16 : decode cX6_isError 16 = .ok (.ireturn, 1) := by decide +kernel
theorem dX6_carryOrder_0 : decode cX6_carryOrder 0 = .ok (.aload_n 0, 1) := by decide +kernel
theorem dX6_carryOrder_1 : decode cX6_carryOrder 1 = .ok (.getfield 26, 3) := by decide +kernel
theorem dX6_carryOrder_4 : decode cX6_carryOrder 4 = .ok (.getfield 238, 3) := by decide +kernel
theorem dX6_carryOrder_7 : decode cX6_carryOrder 7 = .ok (.tableswitch 192 66 83 #[110, 192, 192, 192, 192, 192, 147, 192, 192, 192, 118, 192, 184, 192, 162, 192, 192, 85], 85) := by decide +kernel
theorem dX6_carryOrder_92 : decode cX6_carryOrder 92 = .ok (.aload_n 0, 1) := by decide +kernel
theorem dX6_carryOrder_93 : decode cX6_carryOrder 93 = .ok (.getfield 10, 3) := by decide +kernel
theorem dX6_carryOrder_96 : decode cX6_carryOrder 96 = .ok (.getfield 74, 3) := by decide +kernel
theorem dX6_carryOrder_99 : decode cX6_carryOrder 99 = .ok (.aload_n 0, 1) := by decide +kernel
theorem dX6_carryOrder_100 : decode cX6_carryOrder 100 = .ok (.getfield 26, 3) := by decide +kernel
theorem dX6_carryOrder_103 : decode cX6_carryOrder 103 = .ok (.getfield 242, 3) := by decide +kernel
theorem dX6_carryOrder_106 : decode cX6_carryOrder 106 = .ok (.aload_n 0, 1) := by decide +kernel
theorem dX6_carryOrder_107 : decode cX6_carryOrder 107 = .ok (.getfield 26, 3) := by decide +kernel
theorem dX6_carryOrder_110 : decode cX6_carryOrder 110 = .ok (.getfield 245, 3) := by decide +kernel
theorem dX6_carryOrder_113 : decode cX6_carryOrder 113 = .ok (.invokevirtual 248, 3) := by decide +kernel
theorem dX6_carryOrder_116 : decode cX6_carryOrder 116 = .ok (.ireturn, 1) := by decide +kernel
theorem dX6_carryOrder_117 : decode cX6_carryOrder 117 = .ok (.aload_n 0, 1) := by decide +kernel
theorem dX6_carryOrder_118 : decode cX6_carryOrder 118 = .ok (.getfield 10, 3) := by decide +kernel
theorem dX6_carryOrder_121 : decode cX6_carryOrder 121 = .ok (.invokevirtual 57, 3) := by decide +kernel
theorem dX6_carryOrder_124 : decode cX6_carryOrder 124 = .ok (.ireturn, 1) := by decide +kernel
theorem dX6_carryOrder_125 : decode cX6_carryOrder 125 = .ok (.aload_n 0, 1) := by decide +kernel
theorem dX6_carryOrder_126 : decode cX6_carryOrder 126 = .ok (.getfield 10, 3) := by decide +kernel
theorem dX6_carryOrder_129 : decode cX6_carryOrder 129 = .ok (.aload_n 0, 1) := by decide +kernel
theorem dX6_carryOrder_130 : decode cX6_carryOrder 130 = .ok (.getfield 26, 3) := by decide +kernel
theorem dX6_carryOrder_133 : decode cX6_carryOrder 133 = .ok (.getfield 252, 3) := by decide +kernel
theorem dX6_carryOrder_136 : decode cX6_carryOrder 136 = .ok (.aload_n 0, 1) := by decide +kernel
theorem dX6_carryOrder_137 : decode cX6_carryOrder 137 = .ok (.getfield 26, 3) := by decide +kernel
theorem dX6_carryOrder_140 : decode cX6_carryOrder 140 = .ok (.getfield 255, 3) := by decide +kernel
theorem dX6_carryOrder_143 : decode cX6_carryOrder 143 = .ok (.aload_n 0, 1) := by decide +kernel
theorem dX6_carryOrder_144 : decode cX6_carryOrder 144 = .ok (.getfield 26, 3) := by decide +kernel
theorem dX6_carryOrder_147 : decode cX6_carryOrder 147 = .ok (.getfield 258, 3) := by decide +kernel
theorem dX6_carryOrder_150 : decode cX6_carryOrder 150 = .ok (.invokevirtual 61, 3) := by decide +kernel
theorem dX6_carryOrder_153 : decode cX6_carryOrder 153 = .ok (.ireturn, 1) := by decide +kernel
theorem dX6_carryOrder_154 : decode cX6_carryOrder 154 = .ok (.aload_n 0, 1) := by decide +kernel
theorem dX6_carryOrder_155 : decode cX6_carryOrder 155 = .ok (.getfield 10, 3) := by decide +kernel
theorem dX6_carryOrder_158 : decode cX6_carryOrder 158 = .ok (.aload_n 0, 1) := by decide +kernel
theorem dX6_carryOrder_159 : decode cX6_carryOrder 159 = .ok (.getfield 26, 3) := by decide +kernel
theorem dX6_carryOrder_162 : decode cX6_carryOrder 162 = .ok (.getfield 252, 3) := by decide +kernel
theorem dX6_carryOrder_165 : decode cX6_carryOrder 165 = .ok (.invokevirtual 65, 3) := by decide +kernel
theorem dX6_carryOrder_168 : decode cX6_carryOrder 168 = .ok (.ireturn, 1) := by decide +kernel
theorem dX6_carryOrder_169 : decode cX6_carryOrder 169 = .ok (.aload_n 0, 1) := by decide +kernel
theorem dX6_carryOrder_170 : decode cX6_carryOrder 170 = .ok (.getfield 10, 3) := by decide +kernel
theorem dX6_carryOrder_173 : decode cX6_carryOrder 173 = .ok (.aload_n 0, 1) := by decide +kernel
theorem dX6_carryOrder_174 : decode cX6_carryOrder 174 = .ok (.getfield 26, 3) := by decide +kernel
theorem dX6_carryOrder_177 : decode cX6_carryOrder 177 = .ok (.getfield 252, 3) := by decide +kernel
theorem dX6_carryOrder_180 : decode cX6_carryOrder 180 = .ok (.aload_n 0, 1) := by decide +kernel
theorem dX6_carryOrder_181 : decode cX6_carryOrder 181 = .ok (.getfield 26, 3) := by decide +kernel
theorem dX6_carryOrder_184 : decode cX6_carryOrder 184 = .ok (.getfield 258, 3) := by decide +kernel
theorem dX6_carryOrder_187 : decode cX6_carryOrder 187 = .ok (.invokevirtual 68, 3) := by decide +kernel
theorem dX6_carryOrder_190 : decode cX6_carryOrder 190 = .ok (.ireturn, 1) := by decide +kernel
theorem dX6_carryOrder_191 : decode cX6_carryOrder 191 = .ok (.aload_n 0, 1) := by decide +kernel
theorem dX6_carryOrder_192 : decode cX6_carryOrder 192 = .ok (.getfield 10, 3) := by decide +kernel
theorem dX6_carryOrder_195 : decode cX6_carryOrder 195 = .ok (.invokevirtual 71, 3) := by decide +kernel
theorem dX6_carryOrder_198 : decode cX6_carryOrder 198 = .ok (.ireturn, 1) := by decide +kernel
theorem dX6_carryOrder_199 : decode cX6_carryOrder 199 = .ok (.bipush (-3), 2) := by decide +kernel
theorem dX6_carryOrder_201 : decode cX6_carryOrder 201 = .ok (.ireturn, 1) := by decide +kernel
theorem dJ6_bitCount_0f7a4_0 : decode cJ6_bitCount_0f7a4 0 = .ok (.iload_n 0, 1) := by decide +kernel
theorem dJ6_bitCount_0f7a4_1 : decode cJ6_bitCount_0f7a4 1 = .ok (.iload_n 0, 1) := by decide +kernel
theorem dJ6_bitCount_0f7a4_2 : decode cJ6_bitCount_0f7a4 2 = .ok (.iconst 1, 1) := by decide +kernel
theorem dJ6_bitCount_0f7a4_3 : decode cJ6_bitCount_0f7a4 3 = .ok (.iushr, 1) := by decide +kernel
theorem dJ6_bitCount_0f7a4_4 : decode cJ6_bitCount_0f7a4 4 = .ok (.ldc_w 265, 3) := by decide +kernel
theorem dJ6_bitCount_0f7a4_7 : decode cJ6_bitCount_0f7a4 7 = .ok (.iand, 1) := by decide +kernel
theorem dJ6_bitCount_0f7a4_8 : decode cJ6_bitCount_0f7a4 8 = .ok (.isub, 1) := by decide +kernel
theorem dJ6_bitCount_0f7a4_9 : decode cJ6_bitCount_0f7a4 9 = .ok (.istore_n 0, 1) := by decide +kernel
theorem dJ6_bitCount_0f7a4_10 : decode cJ6_bitCount_0f7a4 10 = .ok (.iload_n 0, 1) := by decide +kernel
theorem dJ6_bitCount_0f7a4_11 : decode cJ6_bitCount_0f7a4 11 = .ok (.ldc_w 266, 3) := by decide +kernel
theorem dJ6_bitCount_0f7a4_14 : decode cJ6_bitCount_0f7a4 14 = .ok (.iand, 1) := by decide +kernel
theorem dJ6_bitCount_0f7a4_15 : decode cJ6_bitCount_0f7a4 15 = .ok (.iload_n 0, 1) := by decide +kernel
theorem dJ6_bitCount_0f7a4_16 : decode cJ6_bitCount_0f7a4 16 = .ok (.iconst 2, 1) := by decide +kernel
theorem dJ6_bitCount_0f7a4_17 : decode cJ6_bitCount_0f7a4 17 = .ok (.iushr, 1) := by decide +kernel
theorem dJ6_bitCount_0f7a4_18 : decode cJ6_bitCount_0f7a4 18 = .ok (.ldc_w 266, 3) := by decide +kernel
theorem dJ6_bitCount_0f7a4_21 : decode cJ6_bitCount_0f7a4 21 = .ok (.iand, 1) := by decide +kernel
theorem dJ6_bitCount_0f7a4_22 : decode cJ6_bitCount_0f7a4 22 = .ok (.iadd, 1) := by decide +kernel
theorem dJ6_bitCount_0f7a4_23 : decode cJ6_bitCount_0f7a4 23 = .ok (.istore_n 0, 1) := by decide +kernel
theorem dJ6_bitCount_0f7a4_24 : decode cJ6_bitCount_0f7a4 24 = .ok (.iload_n 0, 1) := by decide +kernel
theorem dJ6_bitCount_0f7a4_25 : decode cJ6_bitCount_0f7a4 25 = .ok (.iload_n 0, 1) := by decide +kernel
theorem dJ6_bitCount_0f7a4_26 : decode cJ6_bitCount_0f7a4 26 = .ok (.iconst 4, 1) := by decide +kernel
theorem dJ6_bitCount_0f7a4_27 : decode cJ6_bitCount_0f7a4 27 = .ok (.iushr, 1) := by decide +kernel
theorem dJ6_bitCount_0f7a4_28 : decode cJ6_bitCount_0f7a4 28 = .ok (.iadd, 1) := by decide +kernel
theorem dJ6_bitCount_0f7a4_29 : decode cJ6_bitCount_0f7a4 29 = .ok (.ldc_w 267, 3) := by decide +kernel
theorem dJ6_bitCount_0f7a4_32 : decode cJ6_bitCount_0f7a4 32 = .ok (.iand, 1) := by decide +kernel
theorem dJ6_bitCount_0f7a4_33 : decode cJ6_bitCount_0f7a4 33 = .ok (.istore_n 0, 1) := by decide +kernel
theorem dJ6_bitCount_0f7a4_34 : decode cJ6_bitCount_0f7a4 34 = .ok (.iload_n 0, 1) := by decide +kernel
theorem dJ6_bitCount_0f7a4_35 : decode cJ6_bitCount_0f7a4 35 = .ok (.iload_n 0, 1) := by decide +kernel
theorem dJ6_bitCount_0f7a4_36 : decode cJ6_bitCount_0f7a4 36 = .ok (.bipush 8, 2) := by decide +kernel
theorem dJ6_bitCount_0f7a4_38 : decode cJ6_bitCount_0f7a4 38 = .ok (.iushr, 1) := by decide +kernel
theorem dJ6_bitCount_0f7a4_39 : decode cJ6_bitCount_0f7a4 39 = .ok (.iadd, 1) := by decide +kernel
theorem dJ6_bitCount_0f7a4_40 : decode cJ6_bitCount_0f7a4 40 = .ok (.istore_n 0, 1) := by decide +kernel
theorem dJ6_bitCount_0f7a4_41 : decode cJ6_bitCount_0f7a4 41 = .ok (.iload_n 0, 1) := by decide +kernel
theorem dJ6_bitCount_0f7a4_42 : decode cJ6_bitCount_0f7a4 42 = .ok (.iload_n 0, 1) := by decide +kernel
theorem dJ6_bitCount_0f7a4_43 : decode cJ6_bitCount_0f7a4 43 = .ok (.bipush 16, 2) := by decide +kernel
theorem dJ6_bitCount_0f7a4_45 : decode cJ6_bitCount_0f7a4 45 = .ok (.iushr, 1) := by decide +kernel
theorem dJ6_bitCount_0f7a4_46 : decode cJ6_bitCount_0f7a4 46 = .ok (.iadd, 1) := by decide +kernel
theorem dJ6_bitCount_0f7a4_47 : decode cJ6_bitCount_0f7a4 47 = .ok (.istore_n 0, 1) := by decide +kernel
theorem dJ6_bitCount_0f7a4_48 : decode cJ6_bitCount_0f7a4 48 = .ok (.iload_n 0, 1) := by decide +kernel
theorem dJ6_bitCount_0f7a4_49 : decode cJ6_bitCount_0f7a4 49 = .ok (.bipush 63, 2) := by decide +kernel
theorem dJ6_bitCount_0f7a4_51 : decode cJ6_bitCount_0f7a4 51 = .ok (.iand, 1) := by decide +kernel
theorem dJ6_bitCount_0f7a4_52 : decode cJ6_bitCount_0f7a4 52 = .ok (.ireturn, 1) := by decide +kernel
theorem dJ9_max_7cf53_0 : decode cJ9_max_7cf53 0 = .ok (.iload_n 0, 1) := by decide +kernel
theorem dJ9_max_7cf53_1 : decode cJ9_max_7cf53 1 = .ok (.iload_n 1, 1) := by decide +kernel
theorem dJ9_max_7cf53_2 : decode cJ9_max_7cf53 2 = .ok (.if_icmp .lt 7, 3) := by decide +kernel
theorem dJ9_max_7cf53_5 : decode cJ9_max_7cf53 5 = .ok (.iload_n 0, 1) := by decide +kernel
theorem dJ9_max_7cf53_6 : decode cJ9_max_7cf53 6 = .ok (.goto 4, 3) := by decide +kernel
theorem dJ9_max_7cf53_9 : decode cJ9_max_7cf53 9 = .ok (.iload_n 1, 1) := by decide +kernel
theorem dJ9_max_7cf53_10 : decode cJ9_max_7cf53 10 = .ok (.ireturn, 1) := by decide +kernel
theorem dJ9_min_7cf53_0 : decode cJ9_min_7cf53 0 = .ok (.iload_n 0, 1) := by decide +kernel
theorem dJ9_min_7cf53_1 : decode cJ9_min_7cf53 1 = .ok (.iload_n 1, 1) := by decide +kernel
theorem dJ9_min_7cf53_2 : decode cJ9_min_7cf53 2 = .ok (.if_icmp .gt 7, 3) := by decide +kernel
theorem dJ9_min_7cf53_5 : decode cJ9_min_7cf53 5 = .ok (.iload_n 0, 1) := by decide +kernel
theorem dJ9_min_7cf53_6 : decode cJ9_min_7cf53 6 = .ok (.goto 4, 3) := by decide +kernel
theorem dJ9_min_7cf53_9 : decode cJ9_min_7cf53 9 = .ok (.iload_n 1, 1) := by decide +kernel
theorem dJ9_min_7cf53_10 : decode cJ9_min_7cf53 10 = .ok (.ireturn, 1) := by decide +kernel
theorem dL_cell_0 : decode cL_cell 0 = .ok (.iload_n 1, 1) := by decide +kernel
theorem dL_cell_1 : decode cL_cell 1 = .ok (.aload_n 0, 1) := by decide +kernel
theorem dL_cell_2 : decode cL_cell 2 = .ok (.arraylength, 1) := by decide +kernel
theorem dL_cell_3 : decode cL_cell 3 = .ok (.if_icmp .ge 9, 3) := by decide +kernel
theorem dL_cell_6 : decode cL_cell 6 = .ok (.aload_n 0, 1) := by decide +kernel
theorem dL_cell_7 : decode cL_cell 7 = .ok (.iload_n 1, 1) := by decide +kernel
theorem dL_cell_8 : decode cL_cell 8 = .ok (.iaload, 1) := by decide +kernel
theorem dL_cell_9 : decode cL_cell 9 = .ok (.goto 11, 3) := by decide +kernel
theorem dL_cell_12 : decode cL_cell 12 = .ok (.ldc 7, 2) := by decide +kernel
theorem dL_cell_14 : decode cL_cell 14 = .ok (.iload_n 1, 1) := by decide +kernel
theorem dL_cell_15 : decode cL_cell 15 = .ok (.imul, 1) := by decide +kernel
theorem dL_cell_16 : decode cL_cell 16 = .ok (.sipush 8508, 3) := by decide +kernel
theorem dL_cell_19 : decode cL_cell 19 = .ok (.iadd, 1) := by decide +kernel
theorem dL_cell_20 : decode cL_cell 20 = .ok (.ldc 8, 2) := by decide +kernel
theorem dL_cell_22 : decode cL_cell 22 = .ok (.iand, 1) := by decide +kernel
theorem dL_cell_23 : decode cL_cell 23 = .ok (.ireturn, 1) := by decide +kernel
theorem dL_next_0 : decode cL_next 0 = .ok (.bipush (-6), 2) := by decide +kernel
theorem dL_next_2 : decode cL_next 2 = .ok (.istore_n 3, 1) := by decide +kernel
theorem dL_next_3 : decode cL_next 3 = .ok (.iconst 0, 1) := by decide +kernel
theorem dL_next_4 : decode cL_next 4 = .ok (.istore 4, 2) := by decide +kernel
theorem dL_next_6 : decode cL_next 6 = .ok (.iconst 0, 1) := by decide +kernel
theorem dL_next_7 : decode cL_next 7 = .ok (.istore 5, 2) := by decide +kernel
theorem dL_next_9 : decode cL_next 9 = .ok (.iload 5, 2) := by decide +kernel
theorem dL_next_11 : decode cL_next 11 = .ok (.aload_n 0, 1) := by decide +kernel
theorem dL_next_12 : decode cL_next 12 = .ok (.iload_n 1, 1) := by decide +kernel
theorem dL_next_13 : decode cL_next 13 = .ok (.iconst 0, 1) := by decide +kernel
theorem dL_next_14 : decode cL_next 14 = .ok (.invokevirtual 9, 3) := by decide +kernel
theorem dL_next_17 : decode cL_next 17 = .ok (.if_icmp .ge 79, 3) := by decide +kernel
theorem dL_next_20 : decode cL_next 20 = .ok (.aload_n 0, 1) := by decide +kernel
theorem dL_next_21 : decode cL_next 21 = .ok (.iload_n 1, 1) := by decide +kernel
theorem dL_next_22 : decode cL_next 22 = .ok (.iload 5, 2) := by decide +kernel
theorem dL_next_24 : decode cL_next 24 = .ok (.iconst 0, 1) := by decide +kernel
theorem dL_next_25 : decode cL_next 25 = .ok (.invokevirtual 15, 3) := by decide +kernel
theorem dL_next_28 : decode cL_next 28 = .ok (.iload_n 2, 1) := by decide +kernel
theorem dL_next_29 : decode cL_next 29 = .ok (.if_icmp .ne 20, 3) := by decide +kernel
theorem dL_next_32 : decode cL_next 32 = .ok (.aload_n 0, 1) := by decide +kernel
theorem dL_next_33 : decode cL_next 33 = .ok (.iload_n 1, 1) := by decide +kernel
theorem dL_next_34 : decode cL_next 34 = .ok (.iload 5, 2) := by decide +kernel
theorem dL_next_36 : decode cL_next 36 = .ok (.iconst 2, 1) := by decide +kernel
theorem dL_next_37 : decode cL_next 37 = .ok (.invokevirtual 15, 3) := by decide +kernel
theorem dL_next_40 : decode cL_next 40 = .ok (.iload 4, 2) := by decide +kernel
theorem dL_next_42 : decode cL_next 42 = .ok (.if_icmp .le 7, 3) := by decide +kernel
theorem dL_next_45 : decode cL_next 45 = .ok (.iconst 1, 1) := by decide +kernel
theorem dL_next_46 : decode cL_next 46 = .ok (.goto 4, 3) := by decide +kernel
theorem dL_next_49 : decode cL_next 49 = .ok (.iconst 0, 1) := by decide +kernel
theorem dL_next_50 : decode cL_next 50 = .ok (.istore 6, 2) := by decide +kernel
theorem dL_next_52 : decode cL_next 52 = .ok (.iload 6, 2) := by decide +kernel
theorem dL_next_54 : decode cL_next 54 = .ok (.ifCond .eq 14, 3) := by decide +kernel
theorem dL_next_57 : decode cL_next 57 = .ok (.aload_n 0, 1) := by decide +kernel
theorem dL_next_58 : decode cL_next 58 = .ok (.iload_n 1, 1) := by decide +kernel
theorem dL_next_59 : decode cL_next 59 = .ok (.iload 5, 2) := by decide +kernel
theorem dL_next_61 : decode cL_next 61 = .ok (.iconst 1, 1) := by decide +kernel
theorem dL_next_62 : decode cL_next 62 = .ok (.invokevirtual 15, 3) := by decide +kernel
theorem dL_next_65 : decode cL_next 65 = .ok (.goto 4, 3) := by decide +kernel
theorem dL_next_68 : decode cL_next 68 = .ok (.iload_n 3, 1) := by decide +kernel
theorem dL_next_69 : decode cL_next 69 = .ok (.istore_n 3, 1) := by decide +kernel
theorem dL_next_70 : decode cL_next 70 = .ok (.iload 6, 2) := by decide +kernel
theorem dL_next_72 : decode cL_next 72 = .ok (.ifCond .eq 14, 3) := by decide +kernel
theorem dL_next_75 : decode cL_next 75 = .ok (.aload_n 0, 1) := by decide +kernel
theorem dL_next_76 : decode cL_next 76 = .ok (.iload_n 1, 1) := by decide +kernel
theorem dL_next_77 : decode cL_next 77 = .ok (.iload 5, 2) := by decide +kernel
theorem dL_next_79 : decode cL_next 79 = .ok (.iconst 2, 1) := by decide +kernel
theorem dL_next_80 : decode cL_next 80 = .ok (.invokevirtual 15, 3) := by decide +kernel
theorem dL_next_83 : decode cL_next 83 = .ok (.goto 5, 3) := by decide +kernel
theorem dL_next_86 : decode cL_next 86 = .ok (.iload 4, 2) := by decide +kernel
theorem dL_next_88 : decode cL_next 88 = .ok (.istore 4, 2) := by decide +kernel
theorem dL_next_90 : decode cL_next 90 = .ok (.iinc 5 1, 3) := by decide +kernel
theorem dL_next_93 : decode cL_next 93 = .ok (.goto (-84), 3) := by decide +kernel
theorem dL_next_96 : decode cL_next 96 = .ok (.iload_n 3, 1) := by decide +kernel
theorem dL_next_97 : decode cL_next 97 = .ok (.ireturn, 1) := by decide +kernel
theorem dL_areLinks_0 : decode cL_areLinks 0 = .ok (.aload_n 0, 1) := by decide +kernel
theorem dL_areLinks_1 : decode cL_areLinks 1 = .ok (.iload_n 1, 1) := by decide +kernel
theorem dL_areLinks_2 : decode cL_areLinks 2 = .ok (.iconst 0, 1) := by decide +kernel
theorem dL_areLinks_3 : decode cL_areLinks 3 = .ok (.invokevirtual 9, 3) := by decide +kernel
theorem dL_areLinks_6 : decode cL_areLinks 6 = .ok (.istore_n 2, 1) := by decide +kernel
theorem dL_areLinks_7 : decode cL_areLinks 7 = .ok (.iconst 0, 1) := by decide +kernel
theorem dL_areLinks_8 : decode cL_areLinks 8 = .ok (.istore_n 3, 1) := by decide +kernel
theorem dL_areLinks_9 : decode cL_areLinks 9 = .ok (.aload_n 0, 1) := by decide +kernel
theorem dL_areLinks_10 : decode cL_areLinks 10 = .ok (.iload_n 1, 1) := by decide +kernel
theorem dL_areLinks_11 : decode cL_areLinks 11 = .ok (.iload_n 2, 1) := by decide +kernel
theorem dL_areLinks_12 : decode cL_areLinks 12 = .ok (.iconst 0, 1) := by decide +kernel
theorem dL_areLinks_13 : decode cL_areLinks 13 = .ok (.invokevirtual 15, 3) := by decide +kernel
theorem dL_areLinks_16 : decode cL_areLinks 16 = .ok (.iconst (-1), 1) := by decide +kernel
theorem dL_areLinks_17 : decode cL_areLinks 17 = .ok (.if_icmp .ne 33, 3) := by decide +kernel
theorem dL_areLinks_20 : decode cL_areLinks 20 = .ok (.aload_n 0, 1) := by decide +kernel
theorem dL_areLinks_21 : decode cL_areLinks 21 = .ok (.iload_n 1, 1) := by decide +kernel
theorem dL_areLinks_22 : decode cL_areLinks 22 = .ok (.iconst (-1), 1) := by decide +kernel
theorem dL_areLinks_23 : decode cL_areLinks 23 = .ok (.iconst 0, 1) := by decide +kernel
theorem dL_areLinks_24 : decode cL_areLinks 24 = .ok (.invokevirtual 15, 3) := by decide +kernel
theorem dL_areLinks_27 : decode cL_areLinks 27 = .ok (.iconst (-1), 1) := by decide +kernel
theorem dL_areLinks_28 : decode cL_areLinks 28 = .ok (.if_icmp .ne 22, 3) := by decide +kernel
theorem dL_areLinks_31 : decode cL_areLinks 31 = .ok (.aload_n 0, 1) := by decide +kernel
theorem dL_areLinks_32 : decode cL_areLinks 32 = .ok (.iload_n 1, 1) := by decide +kernel
theorem dL_areLinks_33 : decode cL_areLinks 33 = .ok (.iconst 3, 1) := by decide +kernel
theorem dL_areLinks_34 : decode cL_areLinks 34 = .ok (.invokevirtual 9, 3) := by decide +kernel
theorem dL_areLinks_37 : decode cL_areLinks 37 = .ok (.aload_n 0, 1) := by decide +kernel
theorem dL_areLinks_38 : decode cL_areLinks 38 = .ok (.iload_n 1, 1) := by decide +kernel
theorem dL_areLinks_39 : decode cL_areLinks 39 = .ok (.iconst 4, 1) := by decide +kernel
theorem dL_areLinks_40 : decode cL_areLinks 40 = .ok (.invokevirtual 9, 3) := by decide +kernel
theorem dL_areLinks_43 : decode cL_areLinks 43 = .ok (.if_icmp .gt 7, 3) := by decide +kernel
theorem dL_areLinks_46 : decode cL_areLinks 46 = .ok (.iconst 1, 1) := by decide +kernel
theorem dL_areLinks_47 : decode cL_areLinks 47 = .ok (.goto 4, 3) := by decide +kernel
theorem dL_areLinks_50 : decode cL_areLinks 50 = .ok (.iconst 0, 1) := by decide +kernel
theorem dL_areLinks_51 : decode cL_areLinks 51 = .ok (.istore 4, 2) := by decide +kernel
theorem dL_areLinks_53 : decode cL_areLinks 53 = .ok (.iconst 0, 1) := by decide +kernel
theorem dL_areLinks_54 : decode cL_areLinks 54 = .ok (.istore 5, 2) := by decide +kernel
theorem dL_areLinks_56 : decode cL_areLinks 56 = .ok (.iload 5, 2) := by decide +kernel
theorem dL_areLinks_58 : decode cL_areLinks 58 = .ok (.iload_n 2, 1) := by decide +kernel
theorem dL_areLinks_59 : decode cL_areLinks 59 = .ok (.if_icmp .ge 110, 3) := by decide +kernel
theorem dL_areLinks_62 : decode cL_areLinks 62 = .ok (.iload 4, 2) := by decide +kernel
theorem dL_areLinks_64 : decode cL_areLinks 64 = .ok (.ifCond .eq 105, 3) := by decide +kernel
theorem dL_areLinks_67 : decode cL_areLinks 67 = .ok (.aload_n 0, 1) := by decide +kernel
theorem dL_areLinks_68 : decode cL_areLinks 68 = .ok (.iload_n 1, 1) := by decide +kernel
theorem dL_areLinks_69 : decode cL_areLinks 69 = .ok (.iload 5, 2) := by decide +kernel
theorem dL_areLinks_71 : decode cL_areLinks 71 = .ok (.iconst 0, 1) := by decide +kernel
theorem dL_areLinks_72 : decode cL_areLinks 72 = .ok (.invokevirtual 15, 3) := by decide +kernel
theorem dL_areLinks_75 : decode cL_areLinks 75 = .ok (.istore 6, 2) := by decide +kernel
theorem dL_areLinks_77 : decode cL_areLinks 77 = .ok (.iload_n 3, 1) := by decide +kernel
theorem dL_areLinks_78 : decode cL_areLinks 78 = .ok (.aload_n 0, 1) := by decide +kernel
theorem dL_areLinks_79 : decode cL_areLinks 79 = .ok (.iload_n 1, 1) := by decide +kernel
theorem dL_areLinks_80 : decode cL_areLinks 80 = .ok (.iload 5, 2) := by decide +kernel
theorem dL_areLinks_82 : decode cL_areLinks 82 = .ok (.iconst 2, 1) := by decide +kernel
theorem dL_areLinks_83 : decode cL_areLinks 83 = .ok (.invokevirtual 15, 3) := by decide +kernel
theorem dL_areLinks_86 : decode cL_areLinks 86 = .ok (.iadd, 1) := by decide +kernel
theorem dL_areLinks_87 : decode cL_areLinks 87 = .ok (.istore_n 3, 1) := by decide +kernel
theorem dL_areLinks_88 : decode cL_areLinks 88 = .ok (.aload_n 0, 1) := by decide +kernel
theorem dL_areLinks_89 : decode cL_areLinks 89 = .ok (.iload_n 1, 1) := by decide +kernel
theorem dL_areLinks_90 : decode cL_areLinks 90 = .ok (.iload 5, 2) := by decide +kernel
theorem dL_areLinks_92 : decode cL_areLinks 92 = .ok (.iconst 2, 1) := by decide +kernel
theorem dL_areLinks_93 : decode cL_areLinks 93 = .ok (.invokevirtual 15, 3) := by decide +kernel
theorem dL_areLinks_96 : decode cL_areLinks 96 = .ok (.iconst 1, 1) := by decide +kernel
theorem dL_areLinks_97 : decode cL_areLinks 97 = .ok (.if_icmp .lt 63, 3) := by decide +kernel
theorem dL_areLinks_100 : decode cL_areLinks 100 = .ok (.aload_n 0, 1) := by decide +kernel
theorem dL_areLinks_101 : decode cL_areLinks 101 = .ok (.iload_n 1, 1) := by decide +kernel
theorem dL_areLinks_102 : decode cL_areLinks 102 = .ok (.iload 5, 2) := by decide +kernel
theorem dL_areLinks_104 : decode cL_areLinks 104 = .ok (.iconst 2, 1) := by decide +kernel
theorem dL_areLinks_105 : decode cL_areLinks 105 = .ok (.invokevirtual 15, 3) := by decide +kernel
theorem dL_areLinks_108 : decode cL_areLinks 108 = .ok (.bipush 9, 2) := by decide +kernel
theorem dL_areLinks_110 : decode cL_areLinks 110 = .ok (.if_icmp .gt 50, 3) := by decide +kernel
theorem dL_areLinks_113 : decode cL_areLinks 113 = .ok (.iload 6, 2) := by decide +kernel
theorem dL_areLinks_115 : decode cL_areLinks 115 = .ok (.ifCond .lt 45, 3) := by decide +kernel
theorem dL_areLinks_118 : decode cL_areLinks 118 = .ok (.iload 6, 2) := by decide +kernel
theorem dL_areLinks_120 : decode cL_areLinks 120 = .ok (.bipush 26, 2) := by decide +kernel
theorem dL_areLinks_122 : decode cL_areLinks 122 = .ok (.if_icmp .ge 38, 3) := by decide +kernel
theorem dL_areLinks_125 : decode cL_areLinks 125 = .ok (.aload_n 0, 1) := by decide +kernel
theorem dL_areLinks_126 : decode cL_areLinks 126 = .ok (.iload_n 1, 1) := by decide +kernel
theorem dL_areLinks_127 : decode cL_areLinks 127 = .ok (.iload 6, 2) := by decide +kernel
theorem dL_areLinks_129 : decode cL_areLinks 129 = .ok (.iconst 1, 1) := by decide +kernel
theorem dL_areLinks_130 : decode cL_areLinks 130 = .ok (.invokevirtual 19, 3) := by decide +kernel
theorem dL_areLinks_133 : decode cL_areLinks 133 = .ok (.aload_n 0, 1) := by decide +kernel
theorem dL_areLinks_134 : decode cL_areLinks 134 = .ok (.iload_n 1, 1) := by decide +kernel
theorem dL_areLinks_135 : decode cL_areLinks 135 = .ok (.iload 6, 2) := by decide +kernel
theorem dL_areLinks_137 : decode cL_areLinks 137 = .ok (.invokestatic 22, 3) := by decide +kernel
theorem dL_areLinks_140 : decode cL_areLinks 140 = .ok (.if_icmp .ne 20, 3) := by decide +kernel
theorem dL_areLinks_143 : decode cL_areLinks 143 = .ok (.aload_n 0, 1) := by decide +kernel
theorem dL_areLinks_144 : decode cL_areLinks 144 = .ok (.iload_n 1, 1) := by decide +kernel
theorem dL_areLinks_145 : decode cL_areLinks 145 = .ok (.iload 6, 2) := by decide +kernel
theorem dL_areLinks_147 : decode cL_areLinks 147 = .ok (.iconst 0, 1) := by decide +kernel
theorem dL_areLinks_148 : decode cL_areLinks 148 = .ok (.invokevirtual 19, 3) := by decide +kernel
theorem dL_areLinks_151 : decode cL_areLinks 151 = .ok (.iload 6, 2) := by decide +kernel
theorem dL_areLinks_153 : decode cL_areLinks 153 = .ok (.if_icmp .ne 7, 3) := by decide +kernel
theorem dL_areLinks_156 : decode cL_areLinks 156 = .ok (.iconst 1, 1) := by decide +kernel
theorem dL_areLinks_157 : decode cL_areLinks 157 = .ok (.goto 4, 3) := by decide +kernel
theorem dL_areLinks_160 : decode cL_areLinks 160 = .ok (.iconst 0, 1) := by decide +kernel
theorem dL_areLinks_161 : decode cL_areLinks 161 = .ok (.istore 4, 2) := by decide +kernel
theorem dL_areLinks_163 : decode cL_areLinks 163 = .ok (.iinc 5 1, 3) := by decide +kernel
theorem dL_areLinks_166 : decode cL_areLinks 166 = .ok (.goto (-110), 3) := by decide +kernel
theorem dL_areLinks_169 : decode cL_areLinks 169 = .ok (.iload 4, 2) := by decide +kernel
theorem dL_areLinks_171 : decode cL_areLinks 171 = .ok (.ifCond .eq 17, 3) := by decide +kernel
theorem dL_areLinks_174 : decode cL_areLinks 174 = .ok (.iload_n 3, 1) := by decide +kernel
theorem dL_areLinks_175 : decode cL_areLinks 175 = .ok (.aload_n 0, 1) := by decide +kernel
theorem dL_areLinks_176 : decode cL_areLinks 176 = .ok (.iload_n 1, 1) := by decide +kernel
theorem dL_areLinks_177 : decode cL_areLinks 177 = .ok (.iconst 1, 1) := by decide +kernel
theorem dL_areLinks_178 : decode cL_areLinks 178 = .ok (.invokevirtual 9, 3) := by decide +kernel
theorem dL_areLinks_181 : decode cL_areLinks 181 = .ok (.if_icmp .ne 7, 3) := by decide +kernel
theorem dL_areLinks_184 : decode cL_areLinks 184 = .ok (.iconst 1, 1) := by decide +kernel
theorem dL_areLinks_185 : decode cL_areLinks 185 = .ok (.goto 4, 3) := by decide +kernel
theorem dL_areLinks_188 : decode cL_areLinks 188 = .ok (.iconst 0, 1) := by decide +kernel
theorem dL_areLinks_189 : decode cL_areLinks 189 = .ok (.ireturn, 1) := by decide +kernel
theorem dL_areSongs_0 : decode cL_areSongs 0 = .ok (.aload_n 0, 1) := by decide +kernel
theorem dL_areSongs_1 : decode cL_areSongs 1 = .ok (.aload_n 0, 1) := by decide +kernel
theorem dL_areSongs_2 : decode cL_areSongs 2 = .ok (.iconst 1, 1) := by decide +kernel
theorem dL_areSongs_3 : decode cL_areSongs 3 = .ok (.invokevirtual 28, 3) := by decide +kernel
theorem dL_areSongs_6 : decode cL_areSongs 6 = .ok (.iconst 0, 1) := by decide +kernel
theorem dL_areSongs_7 : decode cL_areSongs 7 = .ok (.invokevirtual 32, 3) := by decide +kernel
theorem dL_areSongs_10 : decode cL_areSongs 10 = .ok (.iconst (-1), 1) := by decide +kernel
theorem dL_areSongs_11 : decode cL_areSongs 11 = .ok (.if_icmp .ne 21, 3) := by decide +kernel
theorem dL_areSongs_14 : decode cL_areSongs 14 = .ok (.aload_n 0, 1) := by decide +kernel
theorem dL_areSongs_15 : decode cL_areSongs 15 = .ok (.aload_n 0, 1) := by decide +kernel
theorem dL_areSongs_16 : decode cL_areSongs 16 = .ok (.iconst 2, 1) := by decide +kernel
theorem dL_areSongs_17 : decode cL_areSongs 17 = .ok (.invokevirtual 28, 3) := by decide +kernel
theorem dL_areSongs_20 : decode cL_areSongs 20 = .ok (.iconst 0, 1) := by decide +kernel
theorem dL_areSongs_21 : decode cL_areSongs 21 = .ok (.invokevirtual 9, 3) := by decide +kernel
theorem dL_areSongs_24 : decode cL_areSongs 24 = .ok (.iconst (-1), 1) := by decide +kernel
theorem dL_areSongs_25 : decode cL_areSongs 25 = .ok (.if_icmp .ne 7, 3) := by decide +kernel
theorem dL_areSongs_28 : decode cL_areSongs 28 = .ok (.iconst 1, 1) := by decide +kernel
theorem dL_areSongs_29 : decode cL_areSongs 29 = .ok (.goto 4, 3) := by decide +kernel
theorem dL_areSongs_32 : decode cL_areSongs 32 = .ok (.iconst 0, 1) := by decide +kernel
theorem dL_areSongs_33 : decode cL_areSongs 33 = .ok (.istore_n 1, 1) := by decide +kernel
theorem dL_areSongs_34 : decode cL_areSongs 34 = .ok (.iconst 0, 1) := by decide +kernel
theorem dL_areSongs_35 : decode cL_areSongs 35 = .ok (.istore_n 2, 1) := by decide +kernel
theorem dL_areSongs_36 : decode cL_areSongs 36 = .ok (.iload_n 2, 1) := by decide +kernel
theorem dL_areSongs_37 : decode cL_areSongs 37 = .ok (.aload_n 0, 1) := by decide +kernel
theorem dL_areSongs_38 : decode cL_areSongs 38 = .ok (.iconst 1, 1) := by decide +kernel
theorem dL_areSongs_39 : decode cL_areSongs 39 = .ok (.invokevirtual 28, 3) := by decide +kernel
theorem dL_areSongs_42 : decode cL_areSongs 42 = .ok (.if_icmp .ge 481, 3) := by decide +kernel
theorem dL_areSongs_45 : decode cL_areSongs 45 = .ok (.iload_n 1, 1) := by decide +kernel
theorem dL_areSongs_46 : decode cL_areSongs 46 = .ok (.ifCond .eq 477, 3) := by decide +kernel
theorem dL_areSongs_49 : decode cL_areSongs 49 = .ok (.aload_n 0, 1) := by decide +kernel
theorem dL_areSongs_50 : decode cL_areSongs 50 = .ok (.iload_n 2, 1) := by decide +kernel
theorem dL_areSongs_51 : decode cL_areSongs 51 = .ok (.iconst 0, 1) := by decide +kernel
theorem dL_areSongs_52 : decode cL_areSongs 52 = .ok (.invokevirtual 32, 3) := by decide +kernel
theorem dL_areSongs_55 : decode cL_areSongs 55 = .ok (.istore_n 3, 1) := by decide +kernel
theorem dL_areSongs_56 : decode cL_areSongs 56 = .ok (.iconst 0, 1) := by decide +kernel
theorem dL_areSongs_57 : decode cL_areSongs 57 = .ok (.istore 4, 2) := by decide +kernel
theorem dL_areSongs_59 : decode cL_areSongs 59 = .ok (.iload_n 3, 1) := by decide +kernel
theorem dL_areSongs_60 : decode cL_areSongs 60 = .ok (.iconst 1, 1) := by decide +kernel
theorem dL_areSongs_61 : decode cL_areSongs 61 = .ok (.if_icmp .lt 75, 3) := by decide +kernel
theorem dL_areSongs_64 : decode cL_areSongs 64 = .ok (.iload_n 3, 1) := by decide +kernel
theorem dL_areSongs_65 : decode cL_areSongs 65 = .ok (.bipush 20, 2) := by decide +kernel
theorem dL_areSongs_67 : decode cL_areSongs 67 = .ok (.if_icmp .gt 69, 3) := by decide +kernel
theorem dL_areSongs_70 : decode cL_areSongs 70 = .ok (.aload_n 0, 1) := by decide +kernel
theorem dL_areSongs_71 : decode cL_areSongs 71 = .ok (.iload_n 2, 1) := by decide +kernel
theorem dL_areSongs_72 : decode cL_areSongs 72 = .ok (.iload_n 3, 1) := by decide +kernel
theorem dL_areSongs_73 : decode cL_areSongs 73 = .ok (.invokevirtual 35, 3) := by decide +kernel
theorem dL_areSongs_76 : decode cL_areSongs 76 = .ok (.iconst (-1), 1) := by decide +kernel
theorem dL_areSongs_77 : decode cL_areSongs 77 = .ok (.if_icmp .ne 59, 3) := by decide +kernel
theorem dL_areSongs_80 : decode cL_areSongs 80 = .ok (.aload_n 0, 1) := by decide +kernel
theorem dL_areSongs_81 : decode cL_areSongs 81 = .ok (.iload_n 2, 1) := by decide +kernel
theorem dL_areSongs_82 : decode cL_areSongs 82 = .ok (.iconst 0, 1) := by decide +kernel
theorem dL_areSongs_83 : decode cL_areSongs 83 = .ok (.invokevirtual 35, 3) := by decide +kernel
theorem dL_areSongs_86 : decode cL_areSongs 86 = .ok (.aload_n 0, 1) := by decide +kernel
theorem dL_areSongs_87 : decode cL_areSongs 87 = .ok (.iload_n 2, 1) := by decide +kernel
theorem dL_areSongs_88 : decode cL_areSongs 88 = .ok (.iconst 2, 1) := by decide +kernel
theorem dL_areSongs_89 : decode cL_areSongs 89 = .ok (.invokevirtual 32, 3) := by decide +kernel
theorem dL_areSongs_92 : decode cL_areSongs 92 = .ok (.if_icmp .ne 44, 3) := by decide +kernel
theorem dL_areSongs_95 : decode cL_areSongs 95 = .ok (.aload_n 0, 1) := by decide +kernel
theorem dL_areSongs_96 : decode cL_areSongs 96 = .ok (.iload_n 2, 1) := by decide +kernel
theorem dL_areSongs_97 : decode cL_areSongs 97 = .ok (.iload_n 3, 1) := by decide +kernel
theorem dL_areSongs_98 : decode cL_areSongs 98 = .ok (.iconst 1, 1) := by decide +kernel
theorem dL_areSongs_99 : decode cL_areSongs 99 = .ok (.isub, 1) := by decide +kernel
theorem dL_areSongs_100 : decode cL_areSongs 100 = .ok (.invokevirtual 35, 3) := by decide +kernel
theorem dL_areSongs_103 : decode cL_areSongs 103 = .ok (.aload_n 0, 1) := by decide +kernel
theorem dL_areSongs_104 : decode cL_areSongs 104 = .ok (.iload_n 2, 1) := by decide +kernel
theorem dL_areSongs_105 : decode cL_areSongs 105 = .ok (.iconst 3, 1) := by decide +kernel
theorem dL_areSongs_106 : decode cL_areSongs 106 = .ok (.invokevirtual 32, 3) := by decide +kernel
theorem dL_areSongs_109 : decode cL_areSongs 109 = .ok (.if_icmp .ne 27, 3) := by decide +kernel
theorem dL_areSongs_112 : decode cL_areSongs 112 = .ok (.aload_n 0, 1) := by decide +kernel
theorem dL_areSongs_113 : decode cL_areSongs 113 = .ok (.iload_n 2, 1) := by decide +kernel
theorem dL_areSongs_114 : decode cL_areSongs 114 = .ok (.iload_n 2, 1) := by decide +kernel
theorem dL_areSongs_115 : decode cL_areSongs 115 = .ok (.invokevirtual 38, 3) := by decide +kernel
theorem dL_areSongs_118 : decode cL_areSongs 118 = .ok (.iload_n 3, 1) := by decide +kernel
theorem dL_areSongs_119 : decode cL_areSongs 119 = .ok (.if_icmp .ne 17, 3) := by decide +kernel
theorem dL_areSongs_122 : decode cL_areSongs 122 = .ok (.aload_n 0, 1) := by decide +kernel
theorem dL_areSongs_123 : decode cL_areSongs 123 = .ok (.iload_n 2, 1) := by decide +kernel
theorem dL_areSongs_124 : decode cL_areSongs 124 = .ok (.iconst 1, 1) := by decide +kernel
theorem dL_areSongs_125 : decode cL_areSongs 125 = .ok (.invokevirtual 32, 3) := by decide +kernel
theorem dL_areSongs_128 : decode cL_areSongs 128 = .ok (.iload_n 3, 1) := by decide +kernel
theorem dL_areSongs_129 : decode cL_areSongs 129 = .ok (.if_icmp .gt 7, 3) := by decide +kernel
theorem dL_areSongs_132 : decode cL_areSongs 132 = .ok (.iconst 1, 1) := by decide +kernel
theorem dL_areSongs_133 : decode cL_areSongs 133 = .ok (.goto 4, 3) := by decide +kernel
theorem dL_areSongs_136 : decode cL_areSongs 136 = .ok (.iconst 0, 1) := by decide +kernel
theorem dL_areSongs_137 : decode cL_areSongs 137 = .ok (.istore_n 1, 1) := by decide +kernel
theorem dL_areSongs_138 : decode cL_areSongs 138 = .ok (.iconst 0, 1) := by decide +kernel
theorem dL_areSongs_139 : decode cL_areSongs 139 = .ok (.istore 5, 2) := by decide +kernel
theorem dL_areSongs_141 : decode cL_areSongs 141 = .ok (.iload 5, 2) := by decide +kernel
theorem dL_areSongs_143 : decode cL_areSongs 143 = .ok (.aload_n 0, 1) := by decide +kernel
theorem dL_areSongs_144 : decode cL_areSongs 144 = .ok (.iconst 2, 1) := by decide +kernel
theorem dL_areSongs_145 : decode cL_areSongs 145 = .ok (.invokevirtual 28, 3) := by decide +kernel
theorem dL_areSongs_148 : decode cL_areSongs 148 = .ok (.if_icmp .ge 348, 3) := by decide +kernel
theorem dL_areSongs_151 : decode cL_areSongs 151 = .ok (.iload_n 1, 1) := by decide +kernel
theorem dL_areSongs_152 : decode cL_areSongs 152 = .ok (.ifCond .eq 344, 3) := by decide +kernel
theorem dL_areSongs_155 : decode cL_areSongs 155 = .ok (.iconst 0, 1) := by decide +kernel
theorem dL_areSongs_156 : decode cL_areSongs 156 = .ok (.istore 6, 2) := by decide +kernel
theorem dL_areSongs_158 : decode cL_areSongs 158 = .ok (.iload 6, 2) := by decide +kernel
theorem dL_areSongs_160 : decode cL_areSongs 160 = .ok (.iconst 1, 1) := by decide +kernel
theorem dL_areSongs_161 : decode cL_areSongs 161 = .ok (.iadd, 1) := by decide +kernel
theorem dL_areSongs_162 : decode cL_areSongs 162 = .ok (.iload_n 3, 1) := by decide +kernel
theorem dL_areSongs_163 : decode cL_areSongs 163 = .ok (.if_icmp .ge 37, 3) := by decide +kernel
theorem dL_areSongs_166 : decode cL_areSongs 166 = .ok (.aload_n 0, 1) := by decide +kernel
theorem dL_areSongs_167 : decode cL_areSongs 167 = .ok (.iload 5, 2) := by decide +kernel
theorem dL_areSongs_169 : decode cL_areSongs 169 = .ok (.aload_n 0, 1) := by decide +kernel
theorem dL_areSongs_170 : decode cL_areSongs 170 = .ok (.iload_n 2, 1) := by decide +kernel
theorem dL_areSongs_171 : decode cL_areSongs 171 = .ok (.iconst 0, 1) := by decide +kernel
theorem dL_areSongs_172 : decode cL_areSongs 172 = .ok (.invokevirtual 35, 3) := by decide +kernel
theorem dL_areSongs_175 : decode cL_areSongs 175 = .ok (.iload 6, 2) := by decide +kernel
theorem dL_areSongs_177 : decode cL_areSongs 177 = .ok (.iconst 1, 1) := by decide +kernel
theorem dL_areSongs_178 : decode cL_areSongs 178 = .ok (.iadd, 1) := by decide +kernel
theorem dL_areSongs_179 : decode cL_areSongs 179 = .ok (.invokevirtual 19, 3) := by decide +kernel
theorem dL_areSongs_182 : decode cL_areSongs 182 = .ok (.aload_n 0, 1) := by decide +kernel
theorem dL_areSongs_183 : decode cL_areSongs 183 = .ok (.iload_n 2, 1) := by decide +kernel
theorem dL_areSongs_184 : decode cL_areSongs 184 = .ok (.iload 6, 2) := by decide +kernel
