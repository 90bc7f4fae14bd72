theorem dX0_init_0 : decode cX0_init 0 = .ok (.aload_n 0, 1) := by decide +kernel
theorem dX0_init_1 : decode cX0_init 1 = .ok (.invokespecial 1, 3) := by decide +kernel
theorem dX0_init_4 : decode cX0_init 4 = .ok (.aload_n 0, 1) := by decide +kernel
theorem dX0_init_5 : decode cX0_init 5 = .ok (.bipush 6, 2) := by decide +kernel
theorem dX0_init_7 : decode cX0_init 7 = .ok (.anewarray 9, 3) := by decide +kernel
theorem dX0_init_10 : decode cX0_init 10 = .ok (.putfield 11, 3) := by decide +kernel
theorem dX0_init_13 : decode cX0_init 13 = .ok (.aload_n 0, 1) := by decide +kernel
theorem dX0_init_14 : decode cX0_init 14 = .ok (.new 9, 3) := by decide +kernel
theorem dX0_init_17 : decode cX0_init 17 = .ok (.dup, 1) := by decide +kernel
theorem dX0_init_18 : decode cX0_init 18 = .ok (.invokespecial 15, 3) := by decide +kernel
theorem dX0_init_21 : decode cX0_init 21 = .ok (.putfield 16, 3) := by decide +kernel
theorem dX0_init_24 : decode cX0_init 24 = .ok (.aload_n 0, 1) := by decide +kernel
theorem dX0_init_25 : decode cX0_init 25 = .ok (.iconst 0, 1) := by decide +kernel
theorem dX0_init_26 : decode cX0_init 26 = .ok (.putfield 20, 3) := by decide +kernel
theorem dX0_init_29 : decode cX0_init 29 = .ok (.iconst 0, 1) := by decide +kernel
theorem dX0_init_30 : decode cX0_init 30 = .ok (.istore_n 1, 1) := by decide +kernel
theorem dX0_init_31 : decode cX0_init 31 = .ok (.iload_n 1, 1) := by decide +kernel
theorem dX0_init_32 : decode cX0_init 32 = .ok (.bipush 6, 2) := by decide +kernel
theorem dX0_init_34 : decode cX0_init 34 = .ok (.if_icmp .ge 22, 3) := by decide +kernel
theorem dX0_init_37 : decode cX0_init 37 = .ok (.aload_n 0, 1) := by decide +kernel
theorem dX0_init_38 : decode cX0_init 38 = .ok (.getfield 11, 3) := by decide +kernel
theorem dX0_init_41 : decode cX0_init 41 = .ok (.iload_n 1, 1) := by decide +kernel
theorem dX0_init_42 : decode cX0_init 42 = .ok (.new 9, 3) := by decide +kernel
theorem dX0_init_45 : decode cX0_init 45 = .ok (.dup, 1) := by decide +kernel
theorem dX0_init_46 : decode cX0_init 46 = .ok (.invokespecial 15, 3) := by decide +kernel
theorem dX0_init_49 : decode cX0_init 49 = .ok (.aastore, 1) := by decide +kernel
theorem dX0_init_50 : decode cX0_init 50 = .ok (.iinc 1 1, 3) := by decide +kernel
theorem dX0_init_53 : decode cX0_init 53 = .ok (.goto (-22), 3) := by decide +kernel
theorem dX0_init_56 : decode cX0_init 56 = .ok (.return_, 1) := by decide +kernel
theorem dX0_noteBefore_0 : decode cX0_noteBefore 0 = .ok (.aload_n 0, 1) := by decide +kernel
theorem dX0_noteBefore_1 : decode cX0_noteBefore 1 = .ok (.getfield 16, 3) := by decide +kernel
theorem dX0_noteBefore_4 : decode cX0_noteBefore 4 = .ok (.aload_n 1, 1) := by decide +kernel
theorem dX0_noteBefore_5 : decode cX0_noteBefore 5 = .ok (.invokevirtual 24, 3) := by decide +kernel
theorem dX0_noteBefore_8 : decode cX0_noteBefore 8 = .ok (.return_, 1) := by decide +kernel
theorem dX0_keepUnlessError_0 : decode cX0_keepUnlessError 0 = .ok (.iload_n 1, 1) := by decide +kernel
theorem dX0_keepUnlessError_1 : decode cX0_keepUnlessError 1 = .ok (.invokestatic 28, 3) := by decide +kernel
theorem dX0_keepUnlessError_4 : decode cX0_keepUnlessError 4 = .ok (.ifCond .ne 7, 3) := by decide +kernel
theorem dX0_keepUnlessError_7 : decode cX0_keepUnlessError 7 = .ok (.aload_n 0, 1) := by decide +kernel
theorem dX0_keepUnlessError_8 : decode cX0_keepUnlessError 8 = .ok (.invokevirtual 34, 3) := by decide +kernel
theorem dX0_keepUnlessError_11 : decode cX0_keepUnlessError 11 = .ok (.iload_n 1, 1) := by decide +kernel
theorem dX0_keepUnlessError_12 : decode cX0_keepUnlessError 12 = .ok (.ireturn, 1) := by decide +kernel
theorem dX0_record_0 : decode cX0_record 0 = .ok (.aload_n 0, 1) := by decide +kernel
theorem dX0_record_1 : decode cX0_record 1 = .ok (.getfield 20, 3) := by decide +kernel
theorem dX0_record_4 : decode cX0_record 4 = .ok (.bipush 6, 2) := by decide +kernel
theorem dX0_record_6 : decode cX0_record 6 = .ok (.if_icmp .ne 7, 3) := by decide +kernel
theorem dX0_record_9 : decode cX0_record 9 = .ok (.aload_n 0, 1) := by decide +kernel
theorem dX0_record_10 : decode cX0_record 10 = .ok (.invokevirtual 37, 3) := by decide +kernel
theorem dX0_record_13 : decode cX0_record 13 = .ok (.aload_n 0, 1) := by decide +kernel
theorem dX0_record_14 : decode cX0_record 14 = .ok (.getfield 20, 3) := by decide +kernel
theorem dX0_record_17 : decode cX0_record 17 = .ok (.ifCond .lt 50, 3) := by decide +kernel
theorem dX0_record_20 : decode cX0_record 20 = .ok (.aload_n 0, 1) := by decide +kernel
theorem dX0_record_21 : decode cX0_record 21 = .ok (.getfield 20, 3) := by decide +kernel
theorem dX0_record_24 : decode cX0_record 24 = .ok (.bipush 6, 2) := by decide +kernel
theorem dX0_record_26 : decode cX0_record 26 = .ok (.if_icmp .ge 41, 3) := by decide +kernel
theorem dX0_record_29 : decode cX0_record 29 = .ok (.aload_n 0, 1) := by decide +kernel
theorem dX0_record_30 : decode cX0_record 30 = .ok (.getfield 11, 3) := by decide +kernel
theorem dX0_record_33 : decode cX0_record 33 = .ok (.aload_n 0, 1) := by decide +kernel
theorem dX0_record_34 : decode cX0_record 34 = .ok (.getfield 20, 3) := by decide +kernel
theorem dX0_record_37 : decode cX0_record 37 = .ok (.aaload, 1) := by decide +kernel
theorem dX0_record_38 : decode cX0_record 38 = .ok (.astore_n 1, 1) := by decide +kernel
theorem dX0_record_39 : decode cX0_record 39 = .ok (.aload_n 0, 1) := by decide +kernel
theorem dX0_record_40 : decode cX0_record 40 = .ok (.getfield 11, 3) := by decide +kernel
theorem dX0_record_43 : decode cX0_record 43 = .ok (.aload_n 0, 1) := by decide +kernel
theorem dX0_record_44 : decode cX0_record 44 = .ok (.getfield 20, 3) := by decide +kernel
theorem dX0_record_47 : decode cX0_record 47 = .ok (.aload_n 0, 1) := by decide +kernel
theorem dX0_record_48 : decode cX0_record 48 = .ok (.getfield 16, 3) := by decide +kernel
theorem dX0_record_51 : decode cX0_record 51 = .ok (.aastore, 1) := by decide +kernel
theorem dX0_record_52 : decode cX0_record 52 = .ok (.aload_n 0, 1) := by decide +kernel
theorem dX0_record_53 : decode cX0_record 53 = .ok (.aload_n 1, 1) := by decide +kernel
theorem dX0_record_54 : decode cX0_record 54 = .ok (.putfield 16, 3) := by decide +kernel
theorem dX0_record_57 : decode cX0_record 57 = .ok (.aload_n 0, 1) := by decide +kernel
theorem dX0_record_58 : decode cX0_record 58 = .ok (.dup, 1) := by decide +kernel
theorem dX0_record_59 : decode cX0_record 59 = .ok (.getfield 20, 3) := by decide +kernel
theorem dX0_record_62 : decode cX0_record 62 = .ok (.iconst 1, 1) := by decide +kernel
theorem dX0_record_63 : decode cX0_record 63 = .ok (.iadd, 1) := by decide +kernel
theorem dX0_record_64 : decode cX0_record 64 = .ok (.putfield 20, 3) := by decide +kernel
theorem dX0_record_67 : decode cX0_record 67 = .ok (.return_, 1) := by decide +kernel
theorem dX0_dropOldest_0 : decode cX0_dropOldest 0 = .ok (.aload_n 0, 1) := by decide +kernel
theorem dX0_dropOldest_1 : decode cX0_dropOldest 1 = .ok (.getfield 11, 3) := by decide +kernel
theorem dX0_dropOldest_4 : decode cX0_dropOldest 4 = .ok (.iconst 0, 1) := by decide +kernel
theorem dX0_dropOldest_5 : decode cX0_dropOldest 5 = .ok (.aaload, 1) := by decide +kernel
theorem dX0_dropOldest_6 : decode cX0_dropOldest 6 = .ok (.astore_n 1, 1) := by decide +kernel
theorem dX0_dropOldest_7 : decode cX0_dropOldest 7 = .ok (.iconst 1, 1) := by decide +kernel
theorem dX0_dropOldest_8 : decode cX0_dropOldest 8 = .ok (.istore_n 2, 1) := by decide +kernel
theorem dX0_dropOldest_9 : decode cX0_dropOldest 9 = .ok (.iload_n 2, 1) := by decide +kernel
theorem dX0_dropOldest_10 : decode cX0_dropOldest 10 = .ok (.bipush 6, 2) := by decide +kernel
theorem dX0_dropOldest_12 : decode cX0_dropOldest 12 = .ok (.if_icmp .ge 23, 3) := by decide +kernel
theorem dX0_dropOldest_15 : decode cX0_dropOldest 15 = .ok (.aload_n 0, 1) := by decide +kernel
theorem dX0_dropOldest_16 : decode cX0_dropOldest 16 = .ok (.getfield 11, 3) := by decide +kernel
theorem dX0_dropOldest_19 : decode cX0_dropOldest 19 = .ok (.iload_n 2, 1) := by decide +kernel
theorem dX0_dropOldest_20 : decode cX0_dropOldest 20 = .ok (.iconst 1, 1) := by decide +kernel
theorem dX0_dropOldest_21 : decode cX0_dropOldest 21 = .ok (.isub, 1) := by decide +kernel
theorem dX0_dropOldest_22 : decode cX0_dropOldest 22 = .ok (.aload_n 0, 1) := by decide +kernel
theorem dX0_dropOldest_23 : decode cX0_dropOldest 23 = .ok (.getfield 11, 3) := by decide +kernel
theorem dX0_dropOldest_26 : decode cX0_dropOldest 26 = .ok (.iload_n 2, 1) := by decide +kernel
theorem dX0_dropOldest_27 : decode cX0_dropOldest 27 = .ok (.aaload, 1) := by decide +kernel
theorem dX0_dropOldest_28 : decode cX0_dropOldest 28 = .ok (.aastore, 1) := by decide +kernel
theorem dX0_dropOldest_29 : decode cX0_dropOldest 29 = .ok (.iinc 2 1, 3) := by decide +kernel
theorem dX0_dropOldest_32 : decode cX0_dropOldest 32 = .ok (.goto (-23), 3) := by decide +kernel
theorem dX0_dropOldest_35 : decode cX0_dropOldest 35 = .ok (.aload_n 0, 1) := by decide +kernel
theorem dX0_dropOldest_36 : decode cX0_dropOldest 36 = .ok (.getfield 11, 3) := by decide +kernel
theorem dX0_dropOldest_39 : decode cX0_dropOldest 39 = .ok (.iconst 5, 1) := by decide +kernel
theorem dX0_dropOldest_40 : decode cX0_dropOldest 40 = .ok (.aload_n 1, 1) := by decide +kernel
theorem dX0_dropOldest_41 : decode cX0_dropOldest 41 = .ok (.aastore, 1) := by decide +kernel
theorem dX0_dropOldest_42 : decode cX0_dropOldest 42 = .ok (.aload_n 0, 1) := by decide +kernel
theorem dX0_dropOldest_43 : decode cX0_dropOldest 43 = .ok (.iconst 5, 1) := by decide +kernel
theorem dX0_dropOldest_44 : decode cX0_dropOldest 44 = .ok (.putfield 20, 3) := by decide +kernel
theorem dX0_dropOldest_47 : decode cX0_dropOldest 47 = .ok (.return_, 1) := by decide +kernel
theorem dX0_takeBack_0 : decode cX0_takeBack 0 = .ok (.aload_n 0, 1) := by decide +kernel
theorem dX0_takeBack_1 : decode cX0_takeBack 1 = .ok (.getfield 20, 3) := by decide +kernel
theorem dX0_takeBack_4 : decode cX0_takeBack 4 = .ok (.ifCond .le 35, 3) := by decide +kernel
theorem dX0_takeBack_7 : decode cX0_takeBack 7 = .ok (.aload_n 0, 1) := by decide +kernel
theorem dX0_takeBack_8 : decode cX0_takeBack 8 = .ok (.getfield 20, 3) := by decide +kernel
theorem dX0_takeBack_11 : decode cX0_takeBack 11 = .ok (.bipush 6, 2) := by decide +kernel
theorem dX0_takeBack_13 : decode cX0_takeBack 13 = .ok (.if_icmp .gt 26, 3) := by decide +kernel
theorem dX0_takeBack_16 : decode cX0_takeBack 16 = .ok (.aload_n 0, 1) := by decide +kernel
theorem dX0_takeBack_17 : decode cX0_takeBack 17 = .ok (.dup, 1) := by decide +kernel
theorem dX0_takeBack_18 : decode cX0_takeBack 18 = .ok (.getfield 20, 3) := by decide +kernel
theorem dX0_takeBack_21 : decode cX0_takeBack 21 = .ok (.iconst 1, 1) := by decide +kernel
theorem dX0_takeBack_22 : decode cX0_takeBack 22 = .ok (.isub, 1) := by decide +kernel
theorem dX0_takeBack_23 : decode cX0_takeBack 23 = .ok (.putfield 20, 3) := by decide +kernel
theorem dX0_takeBack_26 : decode cX0_takeBack 26 = .ok (.aload_n 1, 1) := by decide +kernel
theorem dX0_takeBack_27 : decode cX0_takeBack 27 = .ok (.aload_n 0, 1) := by decide +kernel
theorem dX0_takeBack_28 : decode cX0_takeBack 28 = .ok (.getfield 11, 3) := by decide +kernel
theorem dX0_takeBack_31 : decode cX0_takeBack 31 = .ok (.aload_n 0, 1) := by decide +kernel
theorem dX0_takeBack_32 : decode cX0_takeBack 32 = .ok (.getfield 20, 3) := by decide +kernel
theorem dX0_takeBack_35 : decode cX0_takeBack 35 = .ok (.aaload, 1) := by decide +kernel
theorem dX0_takeBack_36 : decode cX0_takeBack 36 = .ok (.invokevirtual 24, 3) := by decide +kernel
theorem dX0_takeBack_39 : decode cX0_takeBack 39 = .ok (.aload_n 0, 1) := by decide +kernel
theorem dX0_takeBack_40 : decode cX0_takeBack 40 = .ok (.getfield 20, 3) := by decide +kernel
theorem dX0_takeBack_43 : decode cX0_takeBack 43 = .ok (.ireturn, 1) := by decide +kernel
theorem dX1_init_0 : decode cX1_init 0 = .ok (.aload_n 0, 1) := by decide +kernel
theorem dX1_init_1 : decode cX1_init 1 = .ok (.invokespecial 3, 3) := by decide +kernel
theorem dX1_init_4 : decode cX1_init 4 = .ok (.aload_n 0, 1) := by decide +kernel
theorem dX1_init_5 : decode cX1_init 5 = .ok (.iconst 4, 1) := by decide +kernel
theorem dX1_init_6 : decode cX1_init 6 = .ok (.newarray .int, 2) := by decide +kernel
theorem dX1_init_8 : decode cX1_init 8 = .ok (.putfield 9, 3) := by decide +kernel
theorem dX1_init_11 : decode cX1_init 11 = .ok (.aload_n 0, 1) := by decide +kernel
theorem dX1_init_12 : decode cX1_init 12 = .ok (.new 15, 3) := by decide +kernel
theorem dX1_init_15 : decode cX1_init 15 = .ok (.dup, 1) := by decide +kernel
theorem dX1_init_16 : decode cX1_init 16 = .ok (.invokespecial 17, 3) := by decide +kernel
theorem dX1_init_19 : decode cX1_init 19 = .ok (.putfield 18, 3) := by decide +kernel
theorem dX1_init_22 : decode cX1_init 22 = .ok (.aload_n 0, 1) := by decide +kernel
theorem dX1_init_23 : decode cX1_init 23 = .ok (.iconst 4, 1) := by decide +kernel
theorem dX1_init_24 : decode cX1_init 24 = .ok (.anewarray 22, 3) := by decide +kernel
theorem dX1_init_27 : decode cX1_init 27 = .ok (.putfield 24, 3) := by decide +kernel
theorem dX1_init_30 : decode cX1_init 30 = .ok (.aload_n 0, 1) := by decide +kernel
theorem dX1_init_31 : decode cX1_init 31 = .ok (.iconst 0, 1) := by decide +kernel
theorem dX1_init_32 : decode cX1_init 32 = .ok (.putfield 28, 3) := by decide +kernel
theorem dX1_init_35 : decode cX1_init 35 = .ok (.aload_n 0, 1) := by decide +kernel
theorem dX1_init_36 : decode cX1_init 36 = .ok (.iconst 0, 1) := by decide +kernel
theorem dX1_init_37 : decode cX1_init 37 = .ok (.putfield 32, 3) := by decide +kernel
theorem dX1_init_40 : decode cX1_init 40 = .ok (.aload_n 0, 1) := by decide +kernel
theorem dX1_init_41 : decode cX1_init 41 = .ok (.bipush 40, 2) := by decide +kernel
theorem dX1_init_43 : decode cX1_init 43 = .ok (.newarray .int, 2) := by decide +kernel
theorem dX1_init_45 : decode cX1_init 45 = .ok (.putfield 35, 3) := by decide +kernel
theorem dX1_init_48 : decode cX1_init 48 = .ok (.getstatic 38, 3) := by decide +kernel
theorem dX1_init_51 : decode cX1_init 51 = .ok (.iconst 0, 1) := by decide +kernel
theorem dX1_init_52 : decode cX1_init 52 = .ok (.aload_n 0, 1) := by decide +kernel
theorem dX1_init_53 : decode cX1_init 53 = .ok (.getfield 9, 3) := by decide +kernel
theorem dX1_init_56 : decode cX1_init 56 = .ok (.iconst 0, 1) := by decide +kernel
theorem dX1_init_57 : decode cX1_init 57 = .ok (.iconst 4, 1) := by decide +kernel
theorem dX1_init_58 : decode cX1_init 58 = .ok (.invokestatic 41, 3) := by decide +kernel
theorem dX1_init_61 : decode cX1_init 61 = .ok (.iconst 0, 1) := by decide +kernel
theorem dX1_init_62 : decode cX1_init 62 = .ok (.istore_n 1, 1) := by decide +kernel
theorem dX1_init_63 : decode cX1_init 63 = .ok (.iload_n 1, 1) := by decide +kernel
theorem dX1_init_64 : decode cX1_init 64 = .ok (.iconst 4, 1) := by decide +kernel
theorem dX1_init_65 : decode cX1_init 65 = .ok (.if_icmp .ge 22, 3) := by decide +kernel
theorem dX1_init_68 : decode cX1_init 68 = .ok (.aload_n 0, 1) := by decide +kernel
theorem dX1_init_69 : decode cX1_init 69 = .ok (.getfield 24, 3) := by decide +kernel
theorem dX1_init_72 : decode cX1_init 72 = .ok (.iload_n 1, 1) := by decide +kernel
theorem dX1_init_73 : decode cX1_init 73 = .ok (.new 22, 3) := by decide +kernel
theorem dX1_init_76 : decode cX1_init 76 = .ok (.dup, 1) := by decide +kernel
theorem dX1_init_77 : decode cX1_init 77 = .ok (.invokespecial 47, 3) := by decide +kernel
theorem dX1_init_80 : decode cX1_init 80 = .ok (.aastore, 1) := by decide +kernel
theorem dX1_init_81 : decode cX1_init 81 = .ok (.iinc 1 1, 3) := by decide +kernel
theorem dX1_init_84 : decode cX1_init 84 = .ok (.goto (-21), 3) := by decide +kernel
theorem dX1_init_87 : decode cX1_init 87 = .ok (.return_, 1) := by decide +kernel
theorem dX1_copyFrom_0 : decode cX1_copyFrom 0 = .ok (.aload_n 1, 1) := by decide +kernel
theorem dX1_copyFrom_1 : decode cX1_copyFrom 1 = .ok (.getfield 9, 3) := by decide +kernel
theorem dX1_copyFrom_4 : decode cX1_copyFrom 4 = .ok (.iconst 0, 1) := by decide +kernel
theorem dX1_copyFrom_5 : decode cX1_copyFrom 5 = .ok (.aload_n 0, 1) := by decide +kernel
theorem dX1_copyFrom_6 : decode cX1_copyFrom 6 = .ok (.getfield 9, 3) := by decide +kernel
theorem dX1_copyFrom_9 : decode cX1_copyFrom 9 = .ok (.iconst 0, 1) := by decide +kernel
theorem dX1_copyFrom_10 : decode cX1_copyFrom 10 = .ok (.iconst 4, 1) := by decide +kernel
theorem dX1_copyFrom_11 : decode cX1_copyFrom 11 = .ok (.invokestatic 41, 3) := by decide +kernel
theorem dX1_copyFrom_14 : decode cX1_copyFrom 14 = .ok (.aload_n 0, 1) := by decide +kernel
theorem dX1_copyFrom_15 : decode cX1_copyFrom 15 = .ok (.getfield 18, 3) := by decide +kernel
theorem dX1_copyFrom_18 : decode cX1_copyFrom 18 = .ok (.aload_n 1, 1) := by decide +kernel
theorem dX1_copyFrom_19 : decode cX1_copyFrom 19 = .ok (.getfield 18, 3) := by decide +kernel
theorem dX1_copyFrom_22 : decode cX1_copyFrom 22 = .ok (.invokevirtual 48, 3) := by decide +kernel
theorem dX1_copyFrom_25 : decode cX1_copyFrom 25 = .ok (.iconst 0, 1) := by decide +kernel
theorem dX1_copyFrom_26 : decode cX1_copyFrom 26 = .ok (.istore_n 2, 1) := by decide +kernel
theorem dX1_copyFrom_27 : decode cX1_copyFrom 27 = .ok (.iload_n 2, 1) := by decide +kernel
theorem dX1_copyFrom_28 : decode cX1_copyFrom 28 = .ok (.iconst 4, 1) := by decide +kernel
theorem dX1_copyFrom_29 : decode cX1_copyFrom 29 = .ok (.if_icmp .ge 24, 3) := by decide +kernel
theorem dX1_copyFrom_32 : decode cX1_copyFrom 32 = .ok (.aload_n 0, 1) := by decide +kernel
theorem dX1_copyFrom_33 : decode cX1_copyFrom 33 = .ok (.getfield 24, 3) := by decide +kernel
theorem dX1_copyFrom_36 : decode cX1_copyFrom 36 = .ok (.iload_n 2, 1) := by decide +kernel
theorem dX1_copyFrom_37 : decode cX1_copyFrom 37 = .ok (.aaload, 1) := by decide +kernel
theorem dX1_copyFrom_38 : decode cX1_copyFrom 38 = .ok (.aload_n 1, 1) := by decide +kernel
theorem dX1_copyFrom_39 : decode cX1_copyFrom 39 = .ok (.getfield 24, 3) := by decide +kernel
theorem dX1_copyFrom_42 : decode cX1_copyFrom 42 = .ok (.iload_n 2, 1) := by decide +kernel
theorem dX1_copyFrom_43 : decode cX1_copyFrom 43 = .ok (.aaload, 1) := by decide +kernel
theorem dX1_copyFrom_44 : decode cX1_copyFrom 44 = .ok (.invokevirtual 52, 3) := by decide +kernel
theorem dX1_copyFrom_47 : decode cX1_copyFrom 47 = .ok (.iinc 2 1, 3) := by decide +kernel
theorem dX1_copyFrom_50 : decode cX1_copyFrom 50 = .ok (.goto (-23), 3) := by decide +kernel
theorem dX1_copyFrom_53 : decode cX1_copyFrom 53 = .ok (.aload_n 0, 1) := by decide +kernel
theorem dX1_copyFrom_54 : decode cX1_copyFrom 54 = .ok (.aload_n 1, 1) := by decide +kernel
theorem dX1_copyFrom_55 : decode cX1_copyFrom 55 = .ok (.getfield 28, 3) := by decide +kernel
theorem dX1_copyFrom_58 : decode cX1_copyFrom 58 = .ok (.putfield 28, 3) := by decide +kernel
theorem dX1_copyFrom_61 : decode cX1_copyFrom 61 = .ok (.aload_n 0, 1) := by decide +kernel
theorem dX1_copyFrom_62 : decode cX1_copyFrom 62 = .ok (.aload_n 1, 1) := by decide +kernel
theorem dX1_copyFrom_63 : decode cX1_copyFrom 63 = .ok (.getfield 32, 3) := by decide +kernel
theorem dX1_copyFrom_66 : decode cX1_copyFrom 66 = .ok (.putfield 32, 3) := by decide +kernel
theorem dX1_copyFrom_69 : decode cX1_copyFrom 69 = .ok (.return_, 1) := by decide +kernel
theorem dX1_changeSetting_0 : decode cX1_changeSetting 0 = .ok (.iload_n 1, 1) := by decide +kernel
theorem dX1_changeSetting_1 : decode cX1_changeSetting 1 = .ok (.ifCond .lt 8, 3) := by decide +kernel
theorem dX1_changeSetting_4 : decode cX1_changeSetting 4 = .ok (.iload_n 1, 1) := by decide +kernel
theorem dX1_changeSetting_5 : decode cX1_changeSetting 5 = .ok (.iconst 4, 1) := by decide +kernel
theorem dX1_changeSetting_6 : decode cX1_changeSetting 6 = .ok (.if_icmp .lt 6, 3) := by decide +kernel
theorem dX1_changeSetting_9 : decode cX1_changeSetting 9 = .ok (.bipush (-2), 2) := by decide +kernel
theorem dX1_changeSetting_11 : decode cX1_changeSetting 11 = .ok (.ireturn, 1) := by decide +kernel
theorem dX1_changeSetting_12 : decode cX1_changeSetting 12 = .ok (.iload_n 2, 1) := by decide +kernel
theorem dX1_changeSetting_13 : decode cX1_changeSetting 13 = .ok (.getstatic 55, 3) := by decide +kernel
theorem dX1_changeSetting_16 : decode cX1_changeSetting 16 = .ok (.iload_n 1, 1) := by decide +kernel
theorem dX1_changeSetting_17 : decode cX1_changeSetting 17 = .ok (.iaload, 1) := by decide +kernel
theorem dX1_changeSetting_18 : decode cX1_changeSetting 18 = .ok (.if_icmp .lt 12, 3) := by decide +kernel
theorem dX1_changeSetting_21 : decode cX1_changeSetting 21 = .ok (.iload_n 2, 1) := by decide +kernel
theorem dX1_changeSetting_22 : decode cX1_changeSetting 22 = .ok (.getstatic 58, 3) := by decide +kernel
theorem dX1_changeSetting_25 : decode cX1_changeSetting 25 = .ok (.iload_n 1, 1) := by decide +kernel
theorem dX1_changeSetting_26 : decode cX1_changeSetting 26 = .ok (.iaload, 1) := by decide +kernel
theorem dX1_changeSetting_27 : decode cX1_changeSetting 27 = .ok (.if_icmp .le 6, 3) := by decide +kernel
theorem dX1_changeSetting_30 : decode cX1_changeSetting 30 = .ok (.bipush (-2), 2) := by decide +kernel
theorem dX1_changeSetting_32 : decode cX1_changeSetting 32 = .ok (.ireturn, 1) := by decide +kernel
theorem dX1_changeSetting_33 : decode cX1_changeSetting 33 = .ok (.aload_n 0, 1) := by decide +kernel
theorem dX1_changeSetting_34 : decode cX1_changeSetting 34 = .ok (.getfield 9, 3) := by decide +kernel
theorem dX1_changeSetting_37 : decode cX1_changeSetting 37 = .ok (.iload_n 1, 1) := by decide +kernel
theorem dX1_changeSetting_38 : decode cX1_changeSetting 38 = .ok (.iaload, 1) := by decide +kernel
theorem dX1_changeSetting_39 : decode cX1_changeSetting 39 = .ok (.istore_n 3, 1) := by decide +kernel
theorem dX1_changeSetting_40 : decode cX1_changeSetting 40 = .ok (.aload_n 0, 1) := by decide +kernel
theorem dX1_changeSetting_41 : decode cX1_changeSetting 41 = .ok (.getfield 9, 3) := by decide +kernel
theorem dX1_changeSetting_44 : decode cX1_changeSetting 44 = .ok (.iload_n 1, 1) := by decide +kernel
theorem dX1_changeSetting_45 : decode cX1_changeSetting 45 = .ok (.iload_n 2, 1) := by decide +kernel
theorem dX1_changeSetting_46 : decode cX1_changeSetting 46 = .ok (.iastore, 1) := by decide +kernel
theorem dX1_changeSetting_47 : decode cX1_changeSetting 47 = .ok (.iload_n 3, 1) := by decide +kernel
theorem dX1_changeSetting_48 : decode cX1_changeSetting 48 = .ok (.ireturn, 1) := by decide +kernel
theorem dX1_addParrot_0 : decode cX1_addParrot 0 = .ok (.aload_n 0, 1) := by decide +kernel
theorem dX1_addParrot_1 : decode cX1_addParrot 1 = .ok (.getfield 28, 3) := by decide +kernel
theorem dX1_addParrot_4 : decode cX1_addParrot 4 = .ok (.iconst 4, 1) := by decide +kernel
theorem dX1_addParrot_5 : decode cX1_addParrot 5 = .ok (.if_icmp .lt 6, 3) := by decide +kernel
theorem dX1_addParrot_8 : decode cX1_addParrot 8 = .ok (.bipush (-4), 2) := by decide +kernel
theorem dX1_addParrot_10 : decode cX1_addParrot 10 = .ok (.ireturn, 1) := by decide +kernel
theorem dX1_addParrot_11 : decode cX1_addParrot 11 = .ok (.aload_n 0, 1) := by decide +kernel
theorem dX1_addParrot_12 : decode cX1_addParrot 12 = .ok (.dup, 1) := by decide +kernel
theorem dX1_addParrot_13 : decode cX1_addParrot 13 = .ok (.getfield 28, 3) := by decide +kernel
theorem dX1_addParrot_16 : decode cX1_addParrot 16 = .ok (.iconst 1, 1) := by decide +kernel
theorem dX1_addParrot_17 : decode cX1_addParrot 17 = .ok (.iadd, 1) := by decide +kernel
theorem dX1_addParrot_18 : decode cX1_addParrot 18 = .ok (.putfield 28, 3) := by decide +kernel
theorem dX1_addParrot_21 : decode cX1_addParrot 21 = .ok (.aload_n 0, 1) := by decide +kernel
theorem dX1_addParrot_22 : decode cX1_addParrot 22 = .ok (.getfield 28, 3) := by decide +kernel
theorem dX1_addParrot_25 : decode cX1_addParrot 25 = .ok (.iconst 1, 1) := by decide +kernel
theorem dX1_addParrot_26 : decode cX1_addParrot 26 = .ok (.isub, 1) := by decide +kernel
theorem dX1_addParrot_27 : decode cX1_addParrot 27 = .ok (.ireturn, 1) := by decide +kernel
theorem dX1_hasParrot_0 : decode cX1_hasParrot 0 = .ok (.iload_n 1, 1) := by decide +kernel
theorem dX1_hasParrot_1 : decode cX1_hasParrot 1 = .ok (.ifCond .lt 15, 3) := by decide +kernel
theorem dX1_hasParrot_4 : decode cX1_hasParrot 4 = .ok (.iload_n 1, 1) := by decide +kernel
theorem dX1_hasParrot_5 : decode cX1_hasParrot 5 = .ok (.aload_n 0, 1) := by decide +kernel
theorem dX1_hasParrot_6 : decode cX1_hasParrot 6 = .ok (.getfield 28, 3) := by decide +kernel
theorem dX1_hasParrot_9 : decode cX1_hasParrot 9 = .ok (.if_icmp .ge 7, 3) := by decide +kernel
theorem dX1_hasParrot_12 : decode cX1_hasParrot 12 = .ok (.iconst 1, 1) := by decide +kernel
theorem dX1_hasParrot_13 : decode cX1_hasParrot 13 = .ok (.goto 4, 3) := by decide +kernel
theorem dX1_hasParrot_16 : decode cX1_hasParrot 16 = .ok (.iconst 0, 1) := by decide +kernel
theorem dX1_hasParrot_17 : decode cX1_hasParrot 17 = .ok (.ireturn, 1) := by decide +kernel
theorem dX1_isTired_0 : decode cX1_isTired 0 = .ok (.aload_n 1, 1) := by decide +kernel
theorem dX1_isTired_1 : decode cX1_isTired 1 = .ok (.getfield 61, 3) := by decide +kernel
theorem dX1_isTired_4 : decode cX1_isTired 4 = .ok (.aload_n 0, 1) := by decide +kernel
theorem dX1_isTired_5 : decode cX1_isTired 5 = .ok (.getfield 9, 3) := by decide +kernel
theorem dX1_isTired_8 : decode cX1_isTired 8 = .ok (.iconst 3, 1) := by decide +kernel
theorem dX1_isTired_9 : decode cX1_isTired 9 = .ok (.iaload, 1) := by decide +kernel
theorem dX1_isTired_10 : decode cX1_isTired 10 = .ok (.if_icmp .lt 7, 3) := by decide +kernel
theorem dX1_isTired_13 : decode cX1_isTired 13 = .ok (.iconst 1, 1) := by decide +kernel
theorem dX1_isTired_14 : decode cX1_isTired 14 = .ok (.goto 4, 3) := by decide +kernel
theorem dX1_isTired_17 : decode cX1_isTired 17 = .ok (.iconst 0, 1) := by decide +kernel
theorem dX1_isTired_18 : decode cX1_isTired 18 = .ok (.ireturn, 1) := by decide +kernel
theorem dX1_teach_0 : decode cX1_teach 0 = .ok (.aload_n 0, 1) := by decide +kernel
theorem dX1_teach_1 : decode cX1_teach 1 = .ok (.iload_n 1, 1) := by decide +kernel
theorem dX1_teach_2 : decode cX1_teach 2 = .ok (.invokevirtual 64, 3) := by decide +kernel
theorem dX1_teach_5 : decode cX1_teach 5 = .ok (.ifCond .eq 14, 3) := by decide +kernel
theorem dX1_teach_8 : decode cX1_teach 8 = .ok (.aload_n 0, 1) := by decide +kernel
theorem dX1_teach_9 : decode cX1_teach 9 = .ok (.getfield 18, 3) := by decide +kernel
theorem dX1_teach_12 : decode cX1_teach 12 = .ok (.iload_n 2, 1) := by decide +kernel
theorem dX1_teach_13 : decode cX1_teach 13 = .ok (.invokevirtual 68, 3) := by decide +kernel
theorem dX1_teach_16 : decode cX1_teach 16 = .ok (.ifCond .ne 5, 3) := by decide +kernel
theorem dX1_teach_19 : decode cX1_teach 19 = .ok (.iconst (-1), 1) := by decide +kernel
theorem dX1_teach_20 : decode cX1_teach 20 = .ok (.ireturn, 1) := by decide +kernel
theorem dX1_teach_21 : decode cX1_teach 21 = .ok (.aload_n 0, 1) := by decide +kernel
theorem dX1_teach_22 : decode cX1_teach 22 = .ok (.getfield 18, 3) := by decide +kernel
theorem dX1_teach_25 : decode cX1_teach 25 = .ok (.iload_n 2, 1) := by decide +kernel
theorem dX1_teach_26 : decode cX1_teach 26 = .ok (.iload_n 3, 1) := by decide +kernel
theorem dX1_teach_27 : decode cX1_teach 27 = .ok (.invokevirtual 71, 3) := by decide +kernel
theorem dX1_teach_30 : decode cX1_teach 30 = .ok (.ifCond .ne 6, 3) := by decide +kernel
theorem dX1_teach_33 : decode cX1_teach 33 = .ok (.bipush (-2), 2) := by decide +kernel
theorem dX1_teach_35 : decode cX1_teach 35 = .ok (.ireturn, 1) := by decide +kernel
theorem dX1_teach_36 : decode cX1_teach 36 = .ok (.aload_n 0, 1) := by decide +kernel
theorem dX1_teach_37 : decode cX1_teach 37 = .ok (.getfield 24, 3) := by decide +kernel
theorem dX1_teach_40 : decode cX1_teach 40 = .ok (.iload_n 1, 1) := by decide +kernel
theorem dX1_teach_41 : decode cX1_teach 41 = .ok (.aaload, 1) := by decide +kernel
theorem dX1_teach_42 : decode cX1_teach 42 = .ok (.astore 4, 2) := by decide +kernel
theorem dX1_teach_44 : decode cX1_teach 44 = .ok (.aload_n 0, 1) := by decide +kernel
theorem dX1_teach_45 : decode cX1_teach 45 = .ok (.aload 4, 2) := by decide +kernel
theorem dX1_teach_47 : decode cX1_teach 47 = .ok (.invokevirtual 75, 3) := by decide +kernel
theorem dX1_teach_50 : decode cX1_teach 50 = .ok (.ifCond .eq 6, 3) := by decide +kernel
theorem dX1_teach_53 : decode cX1_teach 53 = .ok (.bipush (-5), 2) := by decide +kernel
theorem dX1_teach_55 : decode cX1_teach 55 = .ok (.ireturn, 1) := by decide +kernel
theorem dX1_teach_56 : decode cX1_teach 56 = .ok (.iload_n 3, 1) := by decide +kernel
theorem dX1_teach_57 : decode cX1_teach 57 = .ok (.istore 5, 2) := by decide +kernel
theorem dX1_teach_59 : decode cX1_teach 59 = .ok (.iload 5, 2) := by decide +kernel
theorem dX1_teach_61 : decode cX1_teach 61 = .ok (.aload_n 0, 1) := by decide +kernel
theorem dX1_teach_62 : decode cX1_teach 62 = .ok (.getfield 18, 3) := by decide +kernel
theorem dX1_teach_65 : decode cX1_teach 65 = .ok (.iload_n 2, 1) := by decide +kernel
theorem dX1_teach_66 : decode cX1_teach 66 = .ok (.invokevirtual 79, 3) := by decide +kernel
theorem dX1_teach_69 : decode cX1_teach 69 = .ok (.if_icmp .ge 45, 3) := by decide +kernel
theorem dX1_teach_72 : decode cX1_teach 72 = .ok (.aload_n 0, 1) := by decide +kernel
theorem dX1_teach_73 : decode cX1_teach 73 = .ok (.aload 4, 2) := by decide +kernel
theorem dX1_teach_75 : decode cX1_teach 75 = .ok (.invokevirtual 75, 3) := by decide +kernel
theorem dX1_teach_78 : decode cX1_teach 78 = .ok (.ifCond .ne 36, 3) := by decide +kernel
theorem dX1_teach_81 : decode cX1_teach 81 = .ok (.aload 4, 2) := by decide +kernel
theorem dX1_teach_83 : decode cX1_teach 83 = .ok (.aload_n 0, 1) := by decide +kernel
theorem dX1_teach_84 : decode cX1_teach 84 = .ok (.getfield 18, 3) := by decide +kernel
theorem dX1_teach_87 : decode cX1_teach 87 = .ok (.iload_n 2, 1) := by decide +kernel
theorem dX1_teach_88 : decode cX1_teach 88 = .ok (.iload 5, 2) := by decide +kernel
theorem dX1_teach_90 : decode cX1_teach 90 = .ok (.invokevirtual 83, 3) := by decide +kernel
theorem dX1_teach_93 : decode cX1_teach 93 = .ok (.aload_n 0, 1) := by decide +kernel
theorem dX1_teach_94 : decode cX1_teach 94 = .ok (.getfield 9, 3) := by decide +kernel
theorem dX1_teach_97 : decode cX1_teach 97 = .ok (.iconst 2, 1) := by decide +kernel
theorem dX1_teach_98 : decode cX1_teach 98 = .ok (.iaload, 1) := by decide +kernel
theorem dX1_teach_99 : decode cX1_teach 99 = .ok (.aload_n 0, 1) := by decide +kernel
theorem dX1_teach_100 : decode cX1_teach 100 = .ok (.getfield 9, 3) := by decide +kernel
theorem dX1_teach_103 : decode cX1_teach 103 = .ok (.iconst 0, 1) := by decide +kernel
theorem dX1_teach_104 : decode cX1_teach 104 = .ok (.iaload, 1) := by decide +kernel
theorem dX1_teach_105 : decode cX1_teach 105 = .ok (.invokevirtual 87, 3) := by decide +kernel
theorem dX1_teach_108 : decode cX1_teach 108 = .ok (.iinc 5 1, 3) := by decide +kernel
theorem dX1_teach_111 : decode cX1_teach 111 = .ok (.goto (-52), 3) := by decide +kernel
theorem dX1_teach_114 : decode cX1_teach 114 = .ok (.aload_n 0, 1) := by decide +kernel
theorem dX1_teach_115 : decode cX1_teach 115 = .ok (.getfield 18, 3) := by decide +kernel
theorem dX1_teach_118 : decode cX1_teach 118 = .ok (.iload_n 2, 1) := by decide +kernel
theorem dX1_teach_119 : decode cX1_teach 119 = .ok (.invokevirtual 91, 3) := by decide +kernel
theorem dX1_teach_122 : decode cX1_teach 122 = .ok (.iload 5, 2) := by decide +kernel
theorem dX1_teach_124 : decode cX1_teach 124 = .ok (.iload_n 3, 1) := by decide +kernel
theorem dX1_teach_125 : decode cX1_teach 125 = .ok (.isub, 1) := by decide +kernel
theorem dX1_teach_126 : decode cX1_teach 126 = .ok (.ireturn, 1) := by decide +kernel
theorem dX1_singWholeTo_0 : decode cX1_singWholeTo 0 = .ok (.iconst 0, 1) := by decide +kernel
theorem dX1_singWholeTo_1 : decode cX1_singWholeTo 1 = .ok (.istore_n 3, 1) := by decide +kernel
theorem dX1_singWholeTo_2 : decode cX1_singWholeTo 2 = .ok (.iload_n 3, 1) := by decide +kernel
theorem dX1_singWholeTo_3 : decode cX1_singWholeTo 3 = .ok (.aload_n 0, 1) := by decide +kernel
theorem dX1_singWholeTo_4 : decode cX1_singWholeTo 4 = .ok (.getfield 18, 3) := by decide +kernel
theorem dX1_singWholeTo_7 : decode cX1_singWholeTo 7 = .ok (.iload_n 2, 1) := by decide +kernel
theorem dX1_singWholeTo_8 : decode cX1_singWholeTo 8 = .ok (.invokevirtual 79, 3) := by decide +kernel
theorem dX1_singWholeTo_11 : decode cX1_singWholeTo 11 = .ok (.if_icmp .ge 34, 3) := by decide +kernel
theorem dX1_singWholeTo_14 : decode cX1_singWholeTo 14 = .ok (.aload_n 1, 1) := by decide +kernel
theorem dX1_singWholeTo_15 : decode cX1_singWholeTo 15 = .ok (.aload_n 0, 1) := by decide +kernel
theorem dX1_singWholeTo_16 : decode cX1_singWholeTo 16 = .ok (.getfield 18, 3) := by decide +kernel
theorem dX1_singWholeTo_19 : decode cX1_singWholeTo 19 = .ok (.iload_n 2, 1) := by decide +kernel
theorem dX1_singWholeTo_20 : decode cX1_singWholeTo 20 = .ok (.iload_n 3, 1) := by decide +kernel
theorem dX1_singWholeTo_21 : decode cX1_singWholeTo 21 = .ok (.invokevirtual 83, 3) := by decide +kernel
theorem dX1_singWholeTo_24 : decode cX1_singWholeTo 24 = .ok (.aload_n 0, 1) := by decide +kernel
theorem dX1_singWholeTo_25 : decode cX1_singWholeTo 25 = .ok (.getfield 9, 3) := by decide +kernel
theorem dX1_singWholeTo_28 : decode cX1_singWholeTo 28 = .ok (.iconst 2, 1) := by decide +kernel
theorem dX1_singWholeTo_29 : decode cX1_singWholeTo 29 = .ok (.iaload, 1) := by decide +kernel
theorem dX1_singWholeTo_30 : decode cX1_singWholeTo 30 = .ok (.aload_n 0, 1) := by decide +kernel
theorem dX1_singWholeTo_31 : decode cX1_singWholeTo 31 = .ok (.getfield 9, 3) := by decide +kernel
theorem dX1_singWholeTo_34 : decode cX1_singWholeTo 34 = .ok (.iconst 0, 1) := by decide +kernel
theorem dX1_singWholeTo_35 : decode cX1_singWholeTo 35 = .ok (.iaload, 1) := by decide +kernel
theorem dX1_singWholeTo_36 : decode cX1_singWholeTo 36 = .ok (.invokevirtual 87, 3) := by decide +kernel
theorem dX1_singWholeTo_39 : decode cX1_singWholeTo 39 = .ok (.iinc 3 1, 3) := by decide +kernel
theorem dX1_singWholeTo_42 : decode cX1_singWholeTo 42 = .ok (.goto (-40), 3) := by decide +kernel
theorem dX1_singWholeTo_45 : decode cX1_singWholeTo 45 = .ok (.return_, 1) := by decide +kernel
theorem dX1_silence_0 : decode cX1_silence 0 = .ok (.aload_n 0, 1) := by decide +kernel
theorem dX1_silence_1 : decode cX1_silence 1 = .ok (.iload_n 1, 1) := by decide +kernel
theorem dX1_silence_2 : decode cX1_silence 2 = .ok (.invokevirtual 64, 3) := by decide +kernel
theorem dX1_silence_5 : decode cX1_silence 5 = .ok (.ifCond .ne 5, 3) := by decide +kernel
theorem dX1_silence_8 : decode cX1_silence 8 = .ok (.iconst (-1), 1) := by decide +kernel
theorem dX1_silence_9 : decode cX1_silence 9 = .ok (.ireturn, 1) := by decide +kernel
theorem dX1_silence_10 : decode cX1_silence 10 = .ok (.aload_n 0, 1) := by decide +kernel
theorem dX1_silence_11 : decode cX1_silence 11 = .ok (.getfield 24, 3) := by decide +kernel
theorem dX1_silence_14 : decode cX1_silence 14 = .ok (.iload_n 1, 1) := by decide +kernel
theorem dX1_silence_15 : decode cX1_silence 15 = .ok (.aaload, 1) := by decide +kernel
theorem dX1_silence_16 : decode cX1_silence 16 = .ok (.getfield 95, 3) := by decide +kernel
theorem dX1_silence_19 : decode cX1_silence 19 = .ok (.istore_n 2, 1) := by decide +kernel
theorem dX1_silence_20 : decode cX1_silence 20 = .ok (.aload_n 0, 1) := by decide +kernel
theorem dX1_silence_21 : decode cX1_silence 21 = .ok (.getfield 24, 3) := by decide +kernel
theorem dX1_silence_24 : decode cX1_silence 24 = .ok (.iload_n 1, 1) := by decide +kernel
theorem dX1_silence_25 : decode cX1_silence 25 = .ok (.aaload, 1) := by decide +kernel
theorem dX1_silence_26 : decode cX1_silence 26 = .ok (.bipush (-6), 2) := by decide +kernel
theorem dX1_silence_28 : decode cX1_silence 28 = .ok (.putfield 95, 3) := by decide +kernel
theorem dX1_silence_31 : decode cX1_silence 31 = .ok (.iload_n 2, 1) := by decide +kernel
theorem dX1_silence_32 : decode cX1_silence 32 = .ok (.ireturn, 1) := by decide +kernel
theorem dX1_letPractise_0 : decode cX1_letPractise 0 = .ok (.aload_n 0, 1) := by decide +kernel
theorem dX1_letPractise_1 : decode cX1_letPractise 1 = .ok (.iload_n 1, 1) := by decide +kernel
theorem dX1_letPractise_2 : decode cX1_letPractise 2 = .ok (.invokevirtual 64, 3) := by decide +kernel
theorem dX1_letPractise_5 : decode cX1_letPractise 5 = .ok (.ifCond .ne 5, 3) := by decide +kernel
theorem dX1_letPractise_8 : decode cX1_letPractise 8 = .ok (.iconst (-1), 1) := by decide +kernel
theorem dX1_letPractise_9 : decode cX1_letPractise 9 = .ok (.ireturn, 1) := by decide +kernel
theorem dX1_letPractise_10 : decode cX1_letPractise 10 = .ok (.iload_n 2, 1) := by decide +kernel
theorem dX1_letPractise_11 : decode cX1_letPractise 11 = .ok (.iconst 1, 1) := by decide +kernel
theorem dX1_letPractise_12 : decode cX1_letPractise 12 = .ok (.if_icmp .lt 9, 3) := by decide +kernel
theorem dX1_letPractise_15 : decode cX1_letPractise 15 = .ok (.iload_n 2, 1) := by decide +kernel
theorem dX1_letPractise_16 : decode cX1_letPractise 16 = .ok (.bipush 40, 2) := by decide +kernel
theorem dX1_letPractise_18 : decode cX1_letPractise 18 = .ok (.if_icmp .le 6, 3) := by decide +kernel
theorem dX1_letPractise_21 : decode cX1_letPractise 21 = .ok (.bipush (-2), 2) := by decide +kernel
theorem dX1_letPractise_23 : decode cX1_letPractise 23 = .ok (.ireturn, 1) := by decide +kernel
theorem dX1_letPractise_24 : decode cX1_letPractise 24 = .ok (.aload_n 0, 1) := by decide +kernel
theorem dX1_letPractise_25 : decode cX1_letPractise 25 = .ok (.getfield 24, 3) := by decide +kernel
theorem dX1_letPractise_28 : decode cX1_letPractise 28 = .ok (.iload_n 1, 1) := by decide +kernel
theorem dX1_letPractise_29 : decode cX1_letPractise 29 = .ok (.aaload, 1) := by decide +kernel
theorem dX1_letPractise_30 : decode cX1_letPractise 30 = .ok (.astore_n 3, 1) := by decide +kernel
theorem dX1_letPractise_31 : decode cX1_letPractise 31 = .ok (.aload_n 3, 1) := by decide +kernel
theorem dX1_letPractise_32 : decode cX1_letPractise 32 = .ok (.getfield 95, 3) := by decide +kernel
theorem dX1_letPractise_35 : decode cX1_letPractise 35 = .ok (.bipush (-6), 2) := by decide +kernel
theorem dX1_letPractise_37 : decode cX1_letPractise 37 = .ok (.if_icmp .eq 11, 3) := by decide +kernel
theorem dX1_letPractise_40 : decode cX1_letPractise 40 = .ok (.aload_n 0, 1) := by decide +kernel
theorem dX1_letPractise_41 : decode cX1_letPractise 41 = .ok (.aload_n 3, 1) := by decide +kernel
theorem dX1_letPractise_42 : decode cX1_letPractise 42 = .ok (.invokevirtual 75, 3) := by decide +kernel
theorem dX1_letPractise_45 : decode cX1_letPractise 45 = .ok (.ifCond .eq 6, 3) := by decide +kernel
theorem dX1_letPractise_48 : decode cX1_letPractise 48 = .ok (.bipush (-5), 2) := by decide +kernel
theorem dX1_letPractise_50 : decode cX1_letPractise 50 = .ok (.ireturn, 1) := by decide +kernel
theorem dX1_letPractise_51 : decode cX1_letPractise 51 = .ok (.aload_n 0, 1) := by decide +kernel
theorem dX1_letPractise_52 : decode cX1_letPractise 52 = .ok (.aload_n 3, 1) := by decide +kernel
theorem dX1_letPractise_53 : decode cX1_letPractise 53 = .ok (.iload_n 2, 1) := by decide +kernel
theorem dX1_letPractise_54 : decode cX1_letPractise 54 = .ok (.invokevirtual 98, 3) := by decide +kernel
theorem dX1_letPractise_57 : decode cX1_letPractise 57 = .ok (.istore 4, 2) := by decide +kernel
theorem dX1_letPractise_59 : decode cX1_letPractise 59 = .ok (.aload_n 0, 1) := by decide +kernel
theorem dX1_letPractise_60 : decode cX1_letPractise 60 = .ok (.aload_n 3, 1) := by decide +kernel
theorem dX1_letPractise_61 : decode cX1_letPractise 61 = .ok (.iload 4, 2) := by decide +kernel
theorem dX1_letPractise_63 : decode cX1_letPractise 63 = .ok (.invokevirtual 102, 3) := by decide +kernel
theorem dX1_letPractise_66 : decode cX1_letPractise 66 = .ok (.iconst 0, 1) := by decide +kernel
theorem dX1_letPractise_67 : decode cX1_letPractise 67 = .ok (.istore 5, 2) := by decide +kernel
theorem dX1_letPractise_69 : decode cX1_letPractise 69 = .ok (.iload 5, 2) := by decide +kernel
theorem dX1_letPractise_71 : decode cX1_letPractise 71 = .ok (.aload_n 0, 1) := by decide +kernel
theorem dX1_letPractise_72 : decode cX1_letPractise 72 = .ok (.getfield 28, 3) := by decide +kernel
theorem dX1_letPractise_75 : decode cX1_letPractise 75 = .ok (.if_icmp .ge 28, 3) := by decide +kernel
theorem dX1_letPractise_78 : decode cX1_letPractise 78 = .ok (.iload 5, 2) := by decide +kernel
theorem dX1_letPractise_80 : decode cX1_letPractise 80 = .ok (.iload_n 1, 1) := by decide +kernel
theorem dX1_letPractise_81 : decode cX1_letPractise 81 = .ok (.if_icmp .eq 16, 3) := by decide +kernel
theorem dX1_letPractise_84 : decode cX1_letPractise 84 = .ok (.aload_n 0, 1) := by decide +kernel
theorem dX1_letPractise_85 : decode cX1_letPractise 85 = .ok (.aload_n 0, 1) := by decide +kernel
theorem dX1_letPractise_86 : decode cX1_letPractise 86 = .ok (.getfield 24, 3) := by decide +kernel
theorem dX1_letPractise_89 : decode cX1_letPractise 89 = .ok (.iload 5, 2) := by decide +kernel
theorem dX1_letPractise_91 : decode cX1_letPractise 91 = .ok (.aaload, 1) := by decide +kernel
theorem dX1_letPractise_92 : decode cX1_letPractise 92 = .ok (.iload 4, 2) := by decide +kernel
theorem dX1_letPractise_94 : decode cX1_letPractise 94 = .ok (.invokevirtual 102, 3) := by decide +kernel
theorem dX1_letPractise_97 : decode cX1_letPractise 97 = .ok (.iinc 5 1, 3) := by decide +kernel
theorem dX1_letPractise_100 : decode cX1_letPractise 100 = .ok (.goto (-31), 3) := by decide +kernel
theorem dX1_letPractise_103 : decode cX1_letPractise 103 = .ok (.iload 4, 2) := by decide +kernel
theorem dX1_letPractise_105 : decode cX1_letPractise 105 = .ok (.ireturn, 1) := by decide +kernel
theorem dX1_findSung_0 : decode cX1_findSung 0 = .ok (.iconst 0, 1) := by decide +kernel
theorem dX1_findSung_1 : decode cX1_findSung 1 = .ok (.istore_n 3, 1) := by decide +kernel
theorem dX1_findSung_2 : decode cX1_findSung 2 = .ok (.aload_n 1, 1) := by decide +kernel
theorem dX1_findSung_3 : decode cX1_findSung 3 = .ok (.aload_n 1, 1) := by decide +kernel
theorem dX1_findSung_4 : decode cX1_findSung 4 = .ok (.getfield 95, 3) := by decide +kernel
theorem dX1_findSung_7 : decode cX1_findSung 7 = .ok (.invokevirtual 106, 3) := by decide +kernel
theorem dX1_findSung_10 : decode cX1_findSung 10 = .ok (.istore 4, 2) := by decide +kernel
theorem dX1_findSung_12 : decode cX1_findSung 12 = .ok (.iload_n 3, 1) := by decide +kernel
theorem dX1_findSung_13 : decode cX1_findSung 13 = .ok (.iload_n 2, 1) := by decide +kernel
theorem dX1_findSung_14 : decode cX1_findSung 14 = .ok (.if_icmp .ge 38, 3) := by decide +kernel
theorem dX1_findSung_17 : decode cX1_findSung 17 = .ok (.iload_n 3, 1) := by decide +kernel
theorem dX1_findSung_18 : decode cX1_findSung 18 = .ok (.bipush 40, 2) := by decide +kernel
theorem dX1_findSung_20 : decode cX1_findSung 20 = .ok (.if_icmp .ge 32, 3) := by decide +kernel
theorem dX1_findSung_23 : decode cX1_findSung 23 = .ok (.iload 4, 2) := by decide +kernel
theorem dX1_findSung_25 : decode cX1_findSung 25 = .ok (.bipush (-6), 2) := by decide +kernel
theorem dX1_findSung_27 : decode cX1_findSung 27 = .ok (.if_icmp .eq 25, 3) := by decide +kernel
theorem dX1_findSung_30 : decode cX1_findSung 30 = .ok (.aload_n 0, 1) := by decide +kernel
theorem dX1_findSung_31 : decode cX1_findSung 31 = .ok (.getfield 35, 3) := by decide +kernel
theorem dX1_findSung_34 : decode cX1_findSung 34 = .ok (.iload_n 3, 1) := by decide +kernel
theorem dX1_findSung_35 : decode cX1_findSung 35 = .ok (.iload 4, 2) := by decide +kernel
theorem dX1_findSung_37 : decode cX1_findSung 37 = .ok (.iastore, 1) := by decide +kernel
theorem dX1_findSung_38 : decode cX1_findSung 38 = .ok (.iinc 3 1, 3) := by decide +kernel
theorem dX1_findSung_41 : decode cX1_findSung 41 = .ok (.aload_n 1, 1) := by decide +kernel
theorem dX1_findSung_42 : decode cX1_findSung 42 = .ok (.iload 4, 2) := by decide +kernel
theorem dX1_findSung_44 : decode cX1_findSung 44 = .ok (.invokevirtual 106, 3) := by decide +kernel
theorem dX1_findSung_47 : decode cX1_findSung 47 = .ok (.istore 4, 2) := by decide +kernel
theorem dX1_findSung_49 : decode cX1_findSung 49 = .ok (.goto (-37), 3) := by decide +kernel
theorem dX1_findSung_52 : decode cX1_findSung 52 = .ok (.iload_n 3, 1) := by decide +kernel
theorem dX1_findSung_53 : decode cX1_findSung 53 = .ok (.ireturn, 1) := by decide +kernel
theorem dX1_singSungTo_0 : decode cX1_singSungTo 0 = .ok (.iconst 0, 1) := by decide +kernel
theorem dX1_singSungTo_1 : decode cX1_singSungTo 1 = .ok (.istore_n 3, 1) := by decide +kernel
theorem dX1_singSungTo_2 : decode cX1_singSungTo 2 = .ok (.iload_n 3, 1) := by decide +kernel
theorem dX1_singSungTo_3 : decode cX1_singSungTo 3 = .ok (.iload_n 2, 1) := by decide +kernel
theorem dX1_singSungTo_4 : decode cX1_singSungTo 4 = .ok (.if_icmp .ge 45, 3) := by decide +kernel
theorem dX1_singSungTo_7 : decode cX1_singSungTo 7 = .ok (.iload_n 3, 1) := by decide +kernel
theorem dX1_singSungTo_8 : decode cX1_singSungTo 8 = .ok (.bipush 40, 2) := by decide +kernel
theorem dX1_singSungTo_10 : decode cX1_singSungTo 10 = .ok (.if_icmp .ge 39, 3) := by decide +kernel
theorem dX1_singSungTo_13 : decode cX1_singSungTo 13 = .ok (.aload_n 0, 1) := by decide +kernel
theorem dX1_singSungTo_14 : decode cX1_singSungTo 14 = .ok (.aload_n 1, 1) := by decide +kernel
theorem dX1_singSungTo_15 : decode cX1_singSungTo 15 = .ok (.invokevirtual 75, 3) := by decide +kernel
theorem dX1_singSungTo_18 : decode cX1_singSungTo 18 = .ok (.ifCond .ne 31, 3) := by decide +kernel
theorem dX1_singSungTo_21 : decode cX1_singSungTo 21 = .ok (.aload_n 1, 1) := by decide +kernel
theorem dX1_singSungTo_22 : decode cX1_singSungTo 22 = .ok (.aload_n 0, 1) := by decide +kernel
theorem dX1_singSungTo_23 : decode cX1_singSungTo 23 = .ok (.getfield 35, 3) := by decide +kernel
theorem dX1_singSungTo_26 : decode cX1_singSungTo 26 = .ok (.iload_n 3, 1) := by decide +kernel
theorem dX1_singSungTo_27 : decode cX1_singSungTo 27 = .ok (.iaload, 1) := by decide +kernel
theorem dX1_singSungTo_28 : decode cX1_singSungTo 28 = .ok (.aload_n 0, 1) := by decide +kernel
theorem dX1_singSungTo_29 : decode cX1_singSungTo 29 = .ok (.getfield 9, 3) := by decide +kernel
theorem dX1_singSungTo_32 : decode cX1_singSungTo 32 = .ok (.iconst 2, 1) := by decide +kernel
theorem dX1_singSungTo_33 : decode cX1_singSungTo 33 = .ok (.iaload, 1) := by decide +kernel
theorem dX1_singSungTo_34 : decode cX1_singSungTo 34 = .ok (.aload_n 0, 1) := by decide +kernel
theorem dX1_singSungTo_35 : decode cX1_singSungTo 35 = .ok (.getfield 9, 3) := by decide +kernel
theorem dX1_singSungTo_38 : decode cX1_singSungTo 38 = .ok (.iconst 0, 1) := by decide +kernel
theorem dX1_singSungTo_39 : decode cX1_singSungTo 39 = .ok (.iaload, 1) := by decide +kernel
theorem dX1_singSungTo_40 : decode cX1_singSungTo 40 = .ok (.invokevirtual 87, 3) := by decide +kernel
theorem dX1_singSungTo_43 : decode cX1_singSungTo 43 = .ok (.iinc 3 1, 3) := by decide +kernel
theorem dX1_singSungTo_46 : decode cX1_singSungTo 46 = .ok (.goto (-44), 3) := by decide +kernel
theorem dX1_singSungTo_49 : decode cX1_singSungTo 49 = .ok (.return_, 1) := by decide +kernel
theorem dX1_passNight_0 : decode cX1_passNight 0 = .ok (.aload_n 0, 1) := by decide +kernel
theorem dX1_passNight_1 : decode cX1_passNight 1 = .ok (.getfield 32, 3) := by decide +kernel
theorem dX1_passNight_4 : decode cX1_passNight 4 = .ok (.sipush 999, 3) := by decide +kernel
theorem dX1_passNight_7 : decode cX1_passNight 7 = .ok (.if_icmp .lt 6, 3) := by decide +kernel
theorem dX1_passNight_10 : decode cX1_passNight 10 = .ok (.bipush (-5), 2) := by decide +kernel
theorem dX1_passNight_12 : decode cX1_passNight 12 = .ok (.ireturn, 1) := by decide +kernel
theorem dX1_passNight_13 : decode cX1_passNight 13 = .ok (.iconst 0, 1) := by decide +kernel
theorem dX1_passNight_14 : decode cX1_passNight 14 = .ok (.istore_n 1, 1) := by decide +kernel
theorem dX1_passNight_15 : decode cX1_passNight 15 = .ok (.iconst 0, 1) := by decide +kernel
theorem dX1_passNight_16 : decode cX1_passNight 16 = .ok (.istore_n 2, 1) := by decide +kernel
theorem dX1_passNight_17 : decode cX1_passNight 17 = .ok (.iload_n 2, 1) := by decide +kernel
theorem dX1_passNight_18 : decode cX1_passNight 18 = .ok (.aload_n 0, 1) := by decide +kernel
theorem dX1_passNight_19 : decode cX1_passNight 19 = .ok (.getfield 28, 3) := by decide +kernel
theorem dX1_passNight_22 : decode cX1_passNight 22 = .ok (.if_icmp .ge 27, 3) := by decide +kernel
theorem dX1_passNight_25 : decode cX1_passNight 25 = .ok (.iload_n 1, 1) := by decide +kernel
theorem dX1_passNight_26 : decode cX1_passNight 26 = .ok (.aload_n 0, 1) := by decide +kernel
theorem dX1_passNight_27 : decode cX1_passNight 27 = .ok (.getfield 24, 3) := by decide +kernel
theorem dX1_passNight_30 : decode cX1_passNight 30 = .ok (.iload_n 2, 1) := by decide +kernel
theorem dX1_passNight_31 : decode cX1_passNight 31 = .ok (.aaload, 1) := by decide +kernel
theorem dX1_passNight_32 : decode cX1_passNight 32 = .ok (.aload_n 0, 1) := by decide +kernel
theorem dX1_passNight_33 : decode cX1_passNight 33 = .ok (.getfield 9, 3) := by decide +kernel
theorem dX1_passNight_36 : decode cX1_passNight 36 = .ok (.iconst 1, 1) := by decide +kernel
theorem dX1_passNight_37 : decode cX1_passNight 37 = .ok (.iaload, 1) := by decide +kernel
theorem dX1_passNight_38 : decode cX1_passNight 38 = .ok (.invokevirtual 109, 3) := by decide +kernel
theorem dX1_passNight_41 : decode cX1_passNight 41 = .ok (.iadd, 1) := by decide +kernel
theorem dX1_passNight_42 : decode cX1_passNight 42 = .ok (.istore_n 1, 1) := by decide +kernel
theorem dX1_passNight_43 : decode cX1_passNight 43 = .ok (.iinc 2 1, 3) := by decide +kernel
theorem dX1_passNight_46 : decode cX1_passNight 46 = .ok (.goto (-29), 3) := by decide +kernel
theorem dX1_passNight_49 : decode cX1_passNight 49 = .ok (.aload_n 0, 1) := by decide +kernel
theorem dX1_passNight_50 : decode cX1_passNight 50 = .ok (.dup, 1) := by decide +kernel
theorem dX1_passNight_51 : decode cX1_passNight 51 = .ok (.getfield 32, 3) := by decide +kernel
theorem dX1_passNight_54 : decode cX1_passNight 54 = .ok (.iconst 1, 1) := by decide +kernel
theorem dX1_passNight_55 : decode cX1_passNight 55 = .ok (.iadd, 1) := by decide +kernel
theorem dX1_passNight_56 : decode cX1_passNight 56 = .ok (.putfield 32, 3) := by decide +kernel
theorem dX1_passNight_59 : decode cX1_passNight 59 = .ok (.iload_n 1, 1) := by decide +kernel
theorem dX1_passNight_60 : decode cX1_passNight 60 = .ok (.ireturn, 1) := by decide +kernel
theorem dX1_parrotsKnowing_0 : decode cX1_parrotsKnowing 0 = .ok (.iconst 0, 1) := by decide +kernel
theorem dX1_parrotsKnowing_1 : decode cX1_parrotsKnowing 1 = .ok (.istore_n 2, 1) := by decide +kernel
theorem dX1_parrotsKnowing_2 : decode cX1_parrotsKnowing 2 = .ok (.iconst 0, 1) := by decide +kernel
theorem dX1_parrotsKnowing_3 : decode cX1_parrotsKnowing 3 = .ok (.istore_n 3, 1) := by decide +kernel
theorem dX1_parrotsKnowing_4 : decode cX1_parrotsKnowing 4 = .ok (.iload_n 3, 1) := by decide +kernel
theorem dX1_parrotsKnowing_5 : decode cX1_parrotsKnowing 5 = .ok (.aload_n 0, 1) := by decide +kernel
theorem dX1_parrotsKnowing_6 : decode cX1_parrotsKnowing 6 = .ok (.getfield 28, 3) := by decide +kernel
theorem dX1_parrotsKnowing_9 : decode cX1_parrotsKnowing 9 = .ok (.if_icmp .ge 32, 3) := by decide +kernel
theorem dX1_parrotsKnowing_12 : decode cX1_parrotsKnowing 12 = .ok (.aload_n 0, 1) := by decide +kernel
theorem dX1_parrotsKnowing_13 : decode cX1_parrotsKnowing 13 = .ok (.getfield 18, 3) := by decide +kernel
theorem dX1_parrotsKnowing_16 : decode cX1_parrotsKnowing 16 = .ok (.aload_n 0, 1) := by decide +kernel
theorem dX1_parrotsKnowing_17 : decode cX1_parrotsKnowing 17 = .ok (.getfield 24, 3) := by decide +kernel
theorem dX1_parrotsKnowing_20 : decode cX1_parrotsKnowing 20 = .ok (.iload_n 3, 1) := by decide +kernel
theorem dX1_parrotsKnowing_21 : decode cX1_parrotsKnowing 21 = .ok (.aaload, 1) := by decide +kernel
theorem dX1_parrotsKnowing_22 : decode cX1_parrotsKnowing 22 = .ok (.iload_n 1, 1) := by decide +kernel
theorem dX1_parrotsKnowing_23 : decode cX1_parrotsKnowing 23 = .ok (.invokevirtual 112, 3) := by decide +kernel
theorem dX1_parrotsKnowing_26 : decode cX1_parrotsKnowing 26 = .ok (.ifCond .eq 9, 3) := by decide +kernel
theorem dX1_parrotsKnowing_29 : decode cX1_parrotsKnowing 29 = .ok (.iload_n 2, 1) := by decide +kernel
theorem dX1_parrotsKnowing_30 : decode cX1_parrotsKnowing 30 = .ok (.iconst 1, 1) := by decide +kernel
theorem dX1_parrotsKnowing_31 : decode cX1_parrotsKnowing 31 = .ok (.iload_n 3, 1) := by decide +kernel
theorem dX1_parrotsKnowing_32 : decode cX1_parrotsKnowing 32 = .ok (.ishl, 1) := by decide +kernel
theorem dX1_parrotsKnowing_33 : decode cX1_parrotsKnowing 33 = .ok (.ior, 1) := by decide +kernel
theorem dX1_parrotsKnowing_34 : decode cX1_parrotsKnowing 34 = .ok (.istore_n 2, 1) := by decide +kernel
theorem dX1_parrotsKnowing_35 : decode cX1_parrotsKnowing 35 = .ok (.iinc 3 1, 3) := by decide +kernel
theorem dX1_parrotsKnowing_38 : decode cX1_parrotsKnowing 38 = .ok (.goto (-34), 3) := by decide +kernel
theorem dX1_parrotsKnowing_41 : decode cX1_parrotsKnowing 41 = .ok (.iload_n 2, 1) := by decide +kernel
theorem dX1_parrotsKnowing_42 : decode cX1_parrotsKnowing 42 = .ok (.ireturn, 1) := by decide +kernel
theorem dX1_tiredParrots_0 : decode cX1_tiredParrots 0 = .ok (.iconst 0, 1) := by decide +kernel
theorem dX1_tiredParrots_1 : decode cX1_tiredParrots 1 = .ok (.istore_n 1, 1) := by decide +kernel
theorem dX1_tiredParrots_2 : decode cX1_tiredParrots 2 = .ok (.iconst 0, 1) := by decide +kernel
theorem dX1_tiredParrots_3 : decode cX1_tiredParrots 3 = .ok (.istore_n 2, 1) := by decide +kernel
theorem dX1_tiredParrots_4 : decode cX1_tiredParrots 4 = .ok (.iload_n 2, 1) := by decide +kernel
theorem dX1_tiredParrots_5 : decode cX1_tiredParrots 5 = .ok (.aload_n 0, 1) := by decide +kernel
theorem dX1_tiredParrots_6 : decode cX1_tiredParrots 6 = .ok (.getfield 28, 3) := by decide +kernel
theorem dX1_tiredParrots_9 : decode cX1_tiredParrots 9 = .ok (.if_icmp .ge 28, 3) := by decide +kernel
theorem dX1_tiredParrots_12 : decode cX1_tiredParrots 12 = .ok (.aload_n 0, 1) := by decide +kernel
theorem dX1_tiredParrots_13 : decode cX1_tiredParrots 13 = .ok (.aload_n 0, 1) := by decide +kernel
theorem dX1_tiredParrots_14 : decode cX1_tiredParrots 14 = .ok (.getfield 24, 3) := by decide +kernel
theorem dX1_tiredParrots_17 : decode cX1_tiredParrots 17 = .ok (.iload_n 2, 1) := by decide +kernel
theorem dX1_tiredParrots_18 : decode cX1_tiredParrots 18 = .ok (.aaload, 1) := by decide +kernel
theorem dX1_tiredParrots_19 : decode cX1_tiredParrots 19 = .ok (.invokevirtual 75, 3) := by decide +kernel
theorem dX1_tiredParrots_22 : decode cX1_tiredParrots 22 = .ok (.ifCond .eq 9, 3) := by decide +kernel
theorem dX1_tiredParrots_25 : decode cX1_tiredParrots 25 = .ok (.iload_n 1, 1) := by decide +kernel
theorem dX1_tiredParrots_26 : decode cX1_tiredParrots 26 = .ok (.iconst 1, 1) := by decide +kernel
theorem dX1_tiredParrots_27 : decode cX1_tiredParrots 27 = .ok (.iload_n 2, 1) := by decide +kernel
theorem dX1_tiredParrots_28 : decode cX1_tiredParrots 28 = .ok (.ishl, 1) := by decide +kernel
theorem dX1_tiredParrots_29 : decode cX1_tiredParrots 29 = .ok (.ior, 1) := by decide +kernel
theorem dX1_tiredParrots_30 : decode cX1_tiredParrots 30 = .ok (.istore_n 1, 1) := by decide +kernel
theorem dX1_tiredParrots_31 : decode cX1_tiredParrots 31 = .ok (.iinc 2 1, 3) := by decide +kernel
theorem dX1_tiredParrots_34 : decode cX1_tiredParrots 34 = .ok (.goto (-30), 3) := by decide +kernel
theorem dX1_tiredParrots_37 : decode cX1_tiredParrots 37 = .ok (.iload_n 1, 1) := by decide +kernel
theorem dX1_tiredParrots_38 : decode cX1_tiredParrots 38 = .ok (.ireturn, 1) := by decide +kernel
theorem dX1_heardByAll_0 : decode cX1_heardByAll 0 = .ok (.iconst 0, 1) := by decide +kernel
theorem dX1_heardByAll_1 : decode cX1_heardByAll 1 = .ok (.istore_n 1, 1) := by decide +kernel
theorem dX1_heardByAll_2 : decode cX1_heardByAll 2 = .ok (.iconst 0, 1) := by decide +kernel
theorem dX1_heardByAll_3 : decode cX1_heardByAll 3 = .ok (.istore_n 2, 1) := by decide +kernel
theorem dX1_heardByAll_4 : decode cX1_heardByAll 4 = .ok (.iload_n 2, 1) := by decide +kernel
theorem dX1_heardByAll_5 : decode cX1_heardByAll 5 = .ok (.aload_n 0, 1) := by decide +kernel
theorem dX1_heardByAll_6 : decode cX1_heardByAll 6 = .ok (.getfield 28, 3) := by decide +kernel
theorem dX1_heardByAll_9 : decode cX1_heardByAll 9 = .ok (.if_icmp .ge 21, 3) := by decide +kernel
theorem dX1_heardByAll_12 : decode cX1_heardByAll 12 = .ok (.iload_n 1, 1) := by decide +kernel
theorem dX1_heardByAll_13 : decode cX1_heardByAll 13 = .ok (.aload_n 0, 1) := by decide +kernel
theorem dX1_heardByAll_14 : decode cX1_heardByAll 14 = .ok (.getfield 24, 3) := by decide +kernel
theorem dX1_heardByAll_17 : decode cX1_heardByAll 17 = .ok (.iload_n 2, 1) := by decide +kernel
theorem dX1_heardByAll_18 : decode cX1_heardByAll 18 = .ok (.aaload, 1) := by decide +kernel
theorem dX1_heardByAll_19 : decode cX1_heardByAll 19 = .ok (.getfield 116, 3) := by decide +kernel
theorem dX1_heardByAll_22 : decode cX1_heardByAll 22 = .ok (.iadd, 1) := by decide +kernel
theorem dX1_heardByAll_23 : decode cX1_heardByAll 23 = .ok (.istore_n 1, 1) := by decide +kernel
theorem dX1_heardByAll_24 : decode cX1_heardByAll 24 = .ok (.iinc 2 1, 3) := by decide +kernel
theorem dX1_heardByAll_27 : decode cX1_heardByAll 27 = .ok (.goto (-23), 3) := by decide +kernel
theorem dX1_heardByAll_30 : decode cX1_heardByAll 30 = .ok (.iload_n 1, 1) := by decide +kernel
theorem dX1_heardByAll_31 : decode cX1_heardByAll 31 = .ok (.ireturn, 1) := by decide +kernel
theorem dX1_linksOfAll_0 : decode cX1_linksOfAll 0 = .ok (.iconst 0, 1) := by decide +kernel
theorem dX1_linksOfAll_1 : decode cX1_linksOfAll 1 = .ok (.istore_n 1, 1) := by decide +kernel
theorem dX1_linksOfAll_2 : decode cX1_linksOfAll 2 = .ok (.iconst 0, 1) := by decide +kernel
theorem dX1_linksOfAll_3 : decode cX1_linksOfAll 3 = .ok (.istore_n 2, 1) := by decide +kernel
theorem dX1_linksOfAll_4 : decode cX1_linksOfAll 4 = .ok (.iload_n 2, 1) := by decide +kernel
theorem dX1_linksOfAll_5 : decode cX1_linksOfAll 5 = .ok (.aload_n 0, 1) := by decide +kernel
theorem dX1_linksOfAll_6 : decode cX1_linksOfAll 6 = .ok (.getfield 28, 3) := by decide +kernel
theorem dX1_linksOfAll_9 : decode cX1_linksOfAll 9 = .ok (.if_icmp .ge 21, 3) := by decide +kernel
theorem dX1_linksOfAll_12 : decode cX1_linksOfAll 12 = .ok (.iload_n 1, 1) := by decide +kernel
theorem dX1_linksOfAll_13 : decode cX1_linksOfAll 13 = .ok (.aload_n 0, 1) := by decide +kernel
theorem dX1_linksOfAll_14 : decode cX1_linksOfAll 14 = .ok (.getfield 24, 3) := by decide +kernel
theorem dX1_linksOfAll_17 : decode cX1_linksOfAll 17 = .ok (.iload_n 2, 1) := by decide +kernel
theorem dX1_linksOfAll_18 : decode cX1_linksOfAll 18 = .ok (.aaload, 1) := by decide +kernel
theorem dX1_linksOfAll_19 : decode cX1_linksOfAll 19 = .ok (.getfield 119, 3) := by decide +kernel
theorem dX1_linksOfAll_22 : decode cX1_linksOfAll 22 = .ok (.iadd, 1) := by decide +kernel
theorem dX1_linksOfAll_23 : decode cX1_linksOfAll 23 = .ok (.istore_n 1, 1) := by decide +kernel
theorem dX1_linksOfAll_24 : decode cX1_linksOfAll 24 = .ok (.iinc 2 1, 3) := by decide +kernel
theorem dX1_linksOfAll_27 : decode cX1_linksOfAll 27 = .ok (.goto (-23), 3) := by decide +kernel
theorem dX1_linksOfAll_30 : decode cX1_linksOfAll 30 = .ok (.iload_n 1, 1) := by decide +kernel
theorem dX1_linksOfAll_31 : decode cX1_linksOfAll 31 = .ok (.ireturn, 1) := by decide +kernel
theorem dX1_forgottenByAll_0 : decode cX1_forgottenByAll 0 = .ok (.iconst 0, 1) := by decide +kernel
theorem dX1_forgottenByAll_1 : decode cX1_forgottenByAll 1 = .ok (.istore_n 1, 1) := by decide +kernel
theorem dX1_forgottenByAll_2 : decode cX1_forgottenByAll 2 = .ok (.iconst 0, 1) := by decide +kernel
theorem dX1_forgottenByAll_3 : decode cX1_forgottenByAll 3 = .ok (.istore_n 2, 1) := by decide +kernel
theorem dX1_forgottenByAll_4 : decode cX1_forgottenByAll 4 = .ok (.iload_n 2, 1) := by decide +kernel
theorem dX1_forgottenByAll_5 : decode cX1_forgottenByAll 5 = .ok (.aload_n 0, 1) := by decide +kernel
theorem dX1_forgottenByAll_6 : decode cX1_forgottenByAll 6 = .ok (.getfield 28, 3) := by decide +kernel
theorem dX1_forgottenByAll_9 : decode cX1_forgottenByAll 9 = .ok (.if_icmp .ge 21, 3) := by decide +kernel
theorem dX1_forgottenByAll_12 : decode cX1_forgottenByAll 12 = .ok (.iload_n 1, 1) := by decide +kernel
theorem dX1_forgottenByAll_13 : decode cX1_forgottenByAll 13 = .ok (.aload_n 0, 1) := by decide +kernel
theorem dX1_forgottenByAll_14 : decode cX1_forgottenByAll 14 = .ok (.getfield 24, 3) := by decide +kernel
theorem dX1_forgottenByAll_17 : decode cX1_forgottenByAll 17 = .ok (.iload_n 2, 1) := by decide +kernel
theorem dX1_forgottenByAll_18 : decode cX1_forgottenByAll 18 = .ok (.aaload, 1) := by decide +kernel
theorem dX1_forgottenByAll_19 : decode cX1_forgottenByAll 19 = .ok (.getfield 122, 3) := by decide +kernel
theorem dX1_forgottenByAll_22 : decode cX1_forgottenByAll 22 = .ok (.iadd, 1) := by decide +kernel
theorem dX1_forgottenByAll_23 : decode cX1_forgottenByAll 23 = .ok (.istore_n 1, 1) := by decide +kernel
theorem dX1_forgottenByAll_24 : decode cX1_forgottenByAll 24 = .ok (.iinc 2 1, 3) := by decide +kernel
theorem dX1_forgottenByAll_27 : decode cX1_forgottenByAll 27 = .ok (.goto (-23), 3) := by decide +kernel
theorem dX1_forgottenByAll_30 : decode cX1_forgottenByAll 30 = .ok (.iload_n 1, 1) := by decide +kernel
theorem dX1_forgottenByAll_31 : decode cX1_forgottenByAll 31 = .ok (.ireturn, 1) := by decide +kernel
theorem dX2_init_0 : decode cX2_init 0 = .ok (.aload_n 0, 1) := by decide +kernel
theorem dX2_init_1 : decode cX2_init 1 = .ok (.invokespecial 3, 3) := by decide +kernel
theorem dX2_init_4 : decode cX2_init 4 = .ok (.aload_n 0, 1) := by decide +kernel
theorem dX2_init_5 : decode cX2_init 5 = .ok (.bipush 80, 2) := by decide +kernel
theorem dX2_init_7 : decode cX2_init 7 = .ok (.newarray .char, 2) := by decide +kernel
theorem dX2_init_9 : decode cX2_init 9 = .ok (.putfield 11, 3) := by decide +kernel
theorem dX2_init_12 : decode cX2_init 12 = .ok (.aload_n 0, 1) := by decide +kernel
theorem dX2_init_13 : decode cX2_init 13 = .ok (.iconst 0, 1) := by decide +kernel
theorem dX2_init_14 : decode cX2_init 14 = .ok (.putfield 15, 3) := by decide +kernel
theorem dX2_init_17 : decode cX2_init 17 = .ok (.return_, 1) := by decide +kernel
theorem dX2_signAt_0 : decode cX2_signAt 0 = .ok (.iload_n 1, 1) := by decide +kernel
theorem dX2_signAt_1 : decode cX2_signAt 1 = .ok (.ifCond .lt 20, 3) := by decide +kernel
theorem dX2_signAt_4 : decode cX2_signAt 4 = .ok (.iload_n 1, 1) := by decide +kernel
theorem dX2_signAt_5 : decode cX2_signAt 5 = .ok (.aload_n 0, 1) := by decide +kernel
theorem dX2_signAt_6 : decode cX2_signAt 6 = .ok (.getfield 15, 3) := by decide +kernel
theorem dX2_signAt_9 : decode cX2_signAt 9 = .ok (.if_icmp .ge 12, 3) := by decide +kernel
theorem dX2_signAt_12 : decode cX2_signAt 12 = .ok (.aload_n 0, 1) := by decide +kernel
theorem dX2_signAt_13 : decode cX2_signAt 13 = .ok (.getfield 11, 3) := by decide +kernel
theorem dX2_signAt_16 : decode cX2_signAt 16 = .ok (.iload_n 1, 1) := by decide +kernel
theorem dX2_signAt_17 : decode cX2_signAt 17 = .ok (.caload, 1) := by decide +kernel
theorem dX2_signAt_18 : decode cX2_signAt 18 = .ok (.goto 4, 3) := by decide +kernel
theorem dX2_signAt_21 : decode cX2_signAt 21 = .ok (.iconst 0, 1) := by decide +kernel
theorem dX2_signAt_22 : decode cX2_signAt 22 = .ok (.ireturn, 1) := by decide +kernel
theorem dX2_append_0 : decode cX2_append 0 = .ok (.lload_n 1, 1) := by decide +kernel
theorem dX2_append_1 : decode cX2_append 1 = .ok (.invokestatic 19, 3) := by decide +kernel
theorem dX2_append_4 : decode cX2_append 4 = .ok (.istore_n 3, 1) := by decide +kernel
theorem dX2_append_5 : decode cX2_append 5 = .ok (.iload_n 3, 1) := by decide +kernel
theorem dX2_append_6 : decode cX2_append 6 = .ok (.ifCond .ne 6, 3) := by decide +kernel
theorem dX2_append_9 : decode cX2_append 9 = .ok (.bipush (-2), 2) := by decide +kernel
theorem dX2_append_11 : decode cX2_append 11 = .ok (.ireturn, 1) := by decide +kernel
theorem dX2_append_12 : decode cX2_append 12 = .ok (.aload_n 0, 1) := by decide +kernel
theorem dX2_append_13 : decode cX2_append 13 = .ok (.getfield 15, 3) := by decide +kernel
theorem dX2_append_16 : decode cX2_append 16 = .ok (.iload_n 3, 1) := by decide +kernel
theorem dX2_append_17 : decode cX2_append 17 = .ok (.iadd, 1) := by decide +kernel
theorem dX2_append_18 : decode cX2_append 18 = .ok (.bipush 80, 2) := by decide +kernel
theorem dX2_append_20 : decode cX2_append 20 = .ok (.if_icmp .le 6, 3) := by decide +kernel
theorem dX2_append_23 : decode cX2_append 23 = .ok (.bipush (-4), 2) := by decide +kernel
theorem dX2_append_25 : decode cX2_append 25 = .ok (.ireturn, 1) := by decide +kernel
theorem dX2_append_26 : decode cX2_append 26 = .ok (.iload_n 3, 1) := by decide +kernel
theorem dX2_append_27 : decode cX2_append 27 = .ok (.iconst 1, 1) := by decide +kernel
theorem dX2_append_28 : decode cX2_append 28 = .ok (.isub, 1) := by decide +kernel
theorem dX2_append_29 : decode cX2_append 29 = .ok (.istore 4, 2) := by decide +kernel
theorem dX2_append_31 : decode cX2_append 31 = .ok (.iload 4, 2) := by decide +kernel
theorem dX2_append_33 : decode cX2_append 33 = .ok (.ifCond .lt 41, 3) := by decide +kernel
theorem dX2_append_36 : decode cX2_append 36 = .ok (.aload_n 0, 1) := by decide +kernel
theorem dX2_append_37 : decode cX2_append 37 = .ok (.getfield 11, 3) := by decide +kernel
theorem dX2_append_40 : decode cX2_append 40 = .ok (.aload_n 0, 1) := by decide +kernel
theorem dX2_append_41 : decode cX2_append 41 = .ok (.getfield 15, 3) := by decide +kernel
theorem dX2_append_44 : decode cX2_append 44 = .ok (.lload_n 1, 1) := by decide +kernel
theorem dX2_append_45 : decode cX2_append 45 = .ok (.bipush 8, 2) := by decide +kernel
theorem dX2_append_47 : decode cX2_append 47 = .ok (.iload 4, 2) := by decide +kernel
theorem dX2_append_49 : decode cX2_append 49 = .ok (.imul, 1) := by decide +kernel
theorem dX2_append_50 : decode cX2_append 50 = .ok (.lushr, 1) := by decide +kernel
theorem dX2_append_51 : decode cX2_append 51 = .ok (.ldc2_w 23, 3) := by decide +kernel
theorem dX2_append_54 : decode cX2_append 54 = .ok (.land, 1) := by decide +kernel
theorem dX2_append_55 : decode cX2_append 55 = .ok (.l2i, 1) := by decide +kernel
theorem dX2_append_56 : decode cX2_append 56 = .ok (.i2c, 1) := by decide +kernel
theorem dX2_append_57 : decode cX2_append 57 = .ok (.castore, 1) := by decide +kernel
theorem dX2_append_58 : decode cX2_append 58 = .ok (.aload_n 0, 1) := by decide +kernel
theorem dX2_append_59 : decode cX2_append 59 = .ok (.dup, 1) := by decide +kernel
theorem dX2_append_60 : decode cX2_append 60 = .ok (.getfield 15, 3) := by decide +kernel
theorem dX2_append_63 : decode cX2_append 63 = .ok (.iconst 1, 1) := by decide +kernel
theorem dX2_append_64 : decode cX2_append 64 = .ok (.iadd, 1) := by decide +kernel
theorem dX2_append_65 : decode cX2_append 65 = .ok (.putfield 15, 3) := by decide +kernel
theorem dX2_append_68 : decode cX2_append 68 = .ok (.iinc 4 (-1), 3) := by decide +kernel
theorem dX2_append_71 : decode cX2_append 71 = .ok (.goto (-40), 3) := by decide +kernel
theorem dX2_append_74 : decode cX2_append 74 = .ok (.aload_n 0, 1) := by decide +kernel
theorem dX2_append_75 : decode cX2_append 75 = .ok (.getfield 15, 3) := by decide +kernel
theorem dX2_append_78 : decode cX2_append 78 = .ok (.ireturn, 1) := by decide +kernel
theorem dX2_sizeOf_0 : decode cX2_sizeOf 0 = .ok (.lload_n 0, 1) := by decide +kernel
theorem dX2_sizeOf_1 : decode cX2_sizeOf 1 = .ok (.lstore_n 2, 1) := by decide +kernel
theorem dX2_sizeOf_2 : decode cX2_sizeOf 2 = .ok (.iconst 0, 1) := by decide +kernel
theorem dX2_sizeOf_3 : decode cX2_sizeOf 3 = .ok (.istore 4, 2) := by decide +kernel
theorem dX2_sizeOf_5 : decode cX2_sizeOf 5 = .ok (.iload 4, 2) := by decide +kernel
theorem dX2_sizeOf_7 : decode cX2_sizeOf 7 = .ok (.bipush 8, 2) := by decide +kernel
theorem dX2_sizeOf_9 : decode cX2_sizeOf 9 = .ok (.if_icmp .ge 51, 3) := by decide +kernel
theorem dX2_sizeOf_12 : decode cX2_sizeOf 12 = .ok (.lload_n 2, 1) := by decide +kernel
theorem dX2_sizeOf_13 : decode cX2_sizeOf 13 = .ok (.ldc2_w 23, 3) := by decide +kernel
theorem dX2_sizeOf_16 : decode cX2_sizeOf 16 = .ok (.land, 1) := by decide +kernel
theorem dX2_sizeOf_17 : decode cX2_sizeOf 17 = .ok (.lconst 0, 1) := by decide +kernel
theorem dX2_sizeOf_18 : decode cX2_sizeOf 18 = .ok (.lcmp, 1) := by decide +kernel
theorem dX2_sizeOf_19 : decode cX2_sizeOf 19 = .ok (.ifCond .eq 41, 3) := by decide +kernel
theorem dX2_sizeOf_22 : decode cX2_sizeOf 22 = .ok (.lload_n 2, 1) := by decide +kernel
theorem dX2_sizeOf_23 : decode cX2_sizeOf 23 = .ok (.ldc2_w 23, 3) := by decide +kernel
theorem dX2_sizeOf_26 : decode cX2_sizeOf 26 = .ok (.land, 1) := by decide +kernel
theorem dX2_sizeOf_27 : decode cX2_sizeOf 27 = .ok (.lstore 5, 2) := by decide +kernel
theorem dX2_sizeOf_29 : decode cX2_sizeOf 29 = .ok (.lload 5, 2) := by decide +kernel
theorem dX2_sizeOf_31 : decode cX2_sizeOf 31 = .ok (.ldc2_w 25, 3) := by decide +kernel
theorem dX2_sizeOf_34 : decode cX2_sizeOf 34 = .ok (.lcmp, 1) := by decide +kernel
theorem dX2_sizeOf_35 : decode cX2_sizeOf 35 = .ok (.ifCond .lt 12, 3) := by decide +kernel
theorem dX2_sizeOf_38 : decode cX2_sizeOf 38 = .ok (.lload 5, 2) := by decide +kernel
theorem dX2_sizeOf_40 : decode cX2_sizeOf 40 = .ok (.ldc2_w 27, 3) := by decide +kernel
theorem dX2_sizeOf_43 : decode cX2_sizeOf 43 = .ok (.lcmp, 1) := by decide +kernel
theorem dX2_sizeOf_44 : decode cX2_sizeOf 44 = .ok (.ifCond .le 5, 3) := by decide +kernel
theorem dX2_sizeOf_47 : decode cX2_sizeOf 47 = .ok (.iconst 0, 1) := by decide +kernel
theorem dX2_sizeOf_48 : decode cX2_sizeOf 48 = .ok (.ireturn, 1) := by decide +kernel
theorem dX2_sizeOf_49 : decode cX2_sizeOf 49 = .ok (.lload_n 2, 1) := by decide +kernel
theorem dX2_sizeOf_50 : decode cX2_sizeOf 50 = .ok (.bipush 8, 2) := by decide +kernel
theorem dX2_sizeOf_52 : decode cX2_sizeOf 52 = .ok (.lushr, 1) := by decide +kernel
theorem dX2_sizeOf_53 : decode cX2_sizeOf 53 = .ok (.lstore_n 2, 1) := by decide +kernel
theorem dX2_sizeOf_54 : decode cX2_sizeOf 54 = .ok (.iinc 4 1, 3) := by decide +kernel
theorem dX2_sizeOf_57 : decode cX2_sizeOf 57 = .ok (.goto (-52), 3) := by decide +kernel
theorem dX2_sizeOf_60 : decode cX2_sizeOf 60 = .ok (.lload_n 2, 1) := by decide +kernel
theorem dX2_sizeOf_61 : decode cX2_sizeOf 61 = .ok (.lconst 0, 1) := by decide +kernel
theorem dX2_sizeOf_62 : decode cX2_sizeOf 62 = .ok (.lcmp, 1) := by decide +kernel
theorem dX2_sizeOf_63 : decode cX2_sizeOf 63 = .ok (.ifCond .ne 8, 3) := by decide +kernel
theorem dX2_sizeOf_66 : decode cX2_sizeOf 66 = .ok (.iload 4, 2) := by decide +kernel
theorem dX2_sizeOf_68 : decode cX2_sizeOf 68 = .ok (.goto 4, 3) := by decide +kernel
theorem dX2_sizeOf_71 : decode cX2_sizeOf 71 = .ok (.iconst 0, 1) := by decide +kernel
theorem dX2_sizeOf_72 : decode cX2_sizeOf 72 = .ok (.ireturn, 1) := by decide +kernel
theorem dX3_init_0 : decode cX3_init 0 = .ok (.aload_n 0, 1) := by decide +kernel
theorem dX3_init_1 : decode cX3_init 1 = .ok (.invokespecial 3, 3) := by decide +kernel
theorem dX3_init_4 : decode cX3_init 4 = .ok (.aload_n 0, 1) := by decide +kernel
theorem dX3_init_5 : decode cX3_init 5 = .ok (.iconst 4, 1) := by decide +kernel
theorem dX3_init_6 : decode cX3_init 6 = .ok (.bipush 61, 2) := by decide +kernel
theorem dX3_init_8 : decode cX3_init 8 = .ok (.multianewarray 11 2, 4) := by decide +kernel
theorem dX3_init_12 : decode cX3_init 12 = .ok (.putfield 13, 3) := by decide +kernel
theorem dX3_init_15 : decode cX3_init 15 = .ok (.aload_n 0, 1) := by decide +kernel
theorem dX3_init_16 : decode cX3_init 16 = .ok (.iconst 0, 1) := by decide +kernel
theorem dX3_init_17 : decode cX3_init 17 = .ok (.putfield 16, 3) := by decide +kernel
theorem dX3_init_20 : decode cX3_init 20 = .ok (.aload_n 0, 1) := by decide +kernel
theorem dX3_init_21 : decode cX3_init 21 = .ok (.bipush (-6), 2) := by decide +kernel
theorem dX3_init_23 : decode cX3_init 23 = .ok (.putfield 20, 3) := by decide +kernel
theorem dX3_init_26 : decode cX3_init 26 = .ok (.aload_n 0, 1) := by decide +kernel
theorem dX3_init_27 : decode cX3_init 27 = .ok (.iconst 0, 1) := by decide +kernel
theorem dX3_init_28 : decode cX3_init 28 = .ok (.putfield 23, 3) := by decide +kernel
theorem dX3_init_31 : decode cX3_init 31 = .ok (.aload_n 0, 1) := by decide +kernel
theorem dX3_init_32 : decode cX3_init 32 = .ok (.iconst 0, 1) := by decide +kernel
theorem dX3_init_33 : decode cX3_init 33 = .ok (.putfield 26, 3) := by decide +kernel
theorem dX3_init_36 : decode cX3_init 36 = .ok (.aload_n 0, 1) := by decide +kernel
theorem dX3_init_37 : decode cX3_init 37 = .ok (.iconst 0, 1) := by decide +kernel
theorem dX3_init_38 : decode cX3_init 38 = .ok (.putfield 29, 3) := by decide +kernel
theorem dX3_init_41 : decode cX3_init 41 = .ok (.return_, 1) := by decide +kernel
theorem dX3_copyFrom_0 : decode cX3_copyFrom 0 = .ok (.iconst 0, 1) := by decide +kernel
theorem dX3_copyFrom_1 : decode cX3_copyFrom 1 = .ok (.istore_n 2, 1) := by decide +kernel
theorem dX3_copyFrom_2 : decode cX3_copyFrom 2 = .ok (.iload_n 2, 1) := by decide +kernel
theorem dX3_copyFrom_3 : decode cX3_copyFrom 3 = .ok (.iconst 4, 1) := by decide +kernel
theorem dX3_copyFrom_4 : decode cX3_copyFrom 4 = .ok (.if_icmp .ge 28, 3) := by decide +kernel
theorem dX3_copyFrom_7 : decode cX3_copyFrom 7 = .ok (.aload_n 1, 1) := by decide +kernel
theorem dX3_copyFrom_8 : decode cX3_copyFrom 8 = .ok (.getfield 13, 3) := by decide +kernel
theorem dX3_copyFrom_11 : decode cX3_copyFrom 11 = .ok (.iload_n 2, 1) := by decide +kernel
theorem dX3_copyFrom_12 : decode cX3_copyFrom 12 = .ok (.aaload, 1) := by decide +kernel
theorem dX3_copyFrom_13 : decode cX3_copyFrom 13 = .ok (.iconst 0, 1) := by decide +kernel
theorem dX3_copyFrom_14 : decode cX3_copyFrom 14 = .ok (.aload_n 0, 1) := by decide +kernel
theorem dX3_copyFrom_15 : decode cX3_copyFrom 15 = .ok (.getfield 13, 3) := by decide +kernel
theorem dX3_copyFrom_18 : decode cX3_copyFrom 18 = .ok (.iload_n 2, 1) := by decide +kernel
theorem dX3_copyFrom_19 : decode cX3_copyFrom 19 = .ok (.aaload, 1) := by decide +kernel
theorem dX3_copyFrom_20 : decode cX3_copyFrom 20 = .ok (.iconst 0, 1) := by decide +kernel
theorem dX3_copyFrom_21 : decode cX3_copyFrom 21 = .ok (.bipush 61, 2) := by decide +kernel
theorem dX3_copyFrom_23 : decode cX3_copyFrom 23 = .ok (.invokestatic 32, 3) := by decide +kernel
theorem dX3_copyFrom_26 : decode cX3_copyFrom 26 = .ok (.iinc 2 1, 3) := by decide +kernel
theorem dX3_copyFrom_29 : decode cX3_copyFrom 29 = .ok (.goto (-27), 3) := by decide +kernel
theorem dX3_copyFrom_32 : decode cX3_copyFrom 32 = .ok (.aload_n 0, 1) := by decide +kernel
theorem dX3_copyFrom_33 : decode cX3_copyFrom 33 = .ok (.aload_n 1, 1) := by decide +kernel
theorem dX3_copyFrom_34 : decode cX3_copyFrom 34 = .ok (.getfield 16, 3) := by decide +kernel
theorem dX3_copyFrom_37 : decode cX3_copyFrom 37 = .ok (.putfield 16, 3) := by decide +kernel
theorem dX3_copyFrom_40 : decode cX3_copyFrom 40 = .ok (.aload_n 0, 1) := by decide +kernel
theorem dX3_copyFrom_41 : decode cX3_copyFrom 41 = .ok (.aload_n 1, 1) := by decide +kernel
theorem dX3_copyFrom_42 : decode cX3_copyFrom 42 = .ok (.getfield 20, 3) := by decide +kernel
theorem dX3_copyFrom_45 : decode cX3_copyFrom 45 = .ok (.putfield 20, 3) := by decide +kernel
theorem dX3_copyFrom_48 : decode cX3_copyFrom 48 = .ok (.aload_n 0, 1) := by decide +kernel
theorem dX3_copyFrom_49 : decode cX3_copyFrom 49 = .ok (.aload_n 1, 1) := by decide +kernel
theorem dX3_copyFrom_50 : decode cX3_copyFrom 50 = .ok (.getfield 23, 3) := by decide +kernel
theorem dX3_copyFrom_53 : decode cX3_copyFrom 53 = .ok (.putfield 23, 3) := by decide +kernel
theorem dX3_copyFrom_56 : decode cX3_copyFrom 56 = .ok (.aload_n 0, 1) := by decide +kernel
theorem dX3_copyFrom_57 : decode cX3_copyFrom 57 = .ok (.aload_n 1, 1) := by decide +kernel
theorem dX3_copyFrom_58 : decode cX3_copyFrom 58 = .ok (.getfield 26, 3) := by decide +kernel
theorem dX3_copyFrom_61 : decode cX3_copyFrom 61 = .ok (.putfield 26, 3) := by decide +kernel
theorem dX3_copyFrom_64 : decode cX3_copyFrom 64 = .ok (.aload_n 0, 1) := by decide +kernel
theorem dX3_copyFrom_65 : decode cX3_copyFrom 65 = .ok (.aload_n 1, 1) := by decide +kernel
theorem dX3_copyFrom_66 : decode cX3_copyFrom 66 = .ok (.getfield 29, 3) := by decide +kernel
theorem dX3_copyFrom_69 : decode cX3_copyFrom 69 = .ok (.putfield 29, 3) := by decide +kernel
theorem dX3_copyFrom_72 : decode cX3_copyFrom 72 = .ok (.return_, 1) := by decide +kernel
theorem dX3_hear_0 : decode cX3_hear 0 = .ok (.aload_n 0, 1) := by decide +kernel
theorem dX3_hear_1 : decode cX3_hear 1 = .ok (.getfield 20, 3) := by decide +kernel
theorem dX3_hear_4 : decode cX3_hear 4 = .ok (.bipush (-6), 2) := by decide +kernel
theorem dX3_hear_6 : decode cX3_hear 6 = .ok (.if_icmp .eq 39, 3) := by decide +kernel
theorem dX3_hear_9 : decode cX3_hear 9 = .ok (.aload_n 0, 1) := by decide +kernel
theorem dX3_hear_10 : decode cX3_hear 10 = .ok (.aload_n 0, 1) := by decide +kernel
theorem dX3_hear_11 : decode cX3_hear 11 = .ok (.getfield 20, 3) := by decide +kernel
theorem dX3_hear_14 : decode cX3_hear 14 = .ok (.iload_n 1, 1) := by decide +kernel
theorem dX3_hear_15 : decode cX3_hear 15 = .ok (.iload_n 2, 1) := by decide +kernel
theorem dX3_hear_16 : decode cX3_hear 16 = .ok (.invokevirtual 38, 3) := by decide +kernel
theorem dX3_hear_19 : decode cX3_hear 19 = .ok (.aload_n 0, 1) := by decide +kernel
theorem dX3_hear_20 : decode cX3_hear 20 = .ok (.getfield 16, 3) := by decide +kernel
theorem dX3_hear_23 : decode cX3_hear 23 = .ok (.iload_n 3, 1) := by decide +kernel
theorem dX3_hear_24 : decode cX3_hear 24 = .ok (.if_icmp .le 21, 3) := by decide +kernel
theorem dX3_hear_27 : decode cX3_hear 27 = .ok (.aload_n 0, 1) := by decide +kernel
theorem dX3_hear_28 : decode cX3_hear 28 = .ok (.aload_n 0, 1) := by decide +kernel
theorem dX3_hear_29 : decode cX3_hear 29 = .ok (.invokevirtual 42, 3) := by decide +kernel
theorem dX3_hear_32 : decode cX3_hear 32 = .ok (.invokevirtual 46, 3) := by decide +kernel
theorem dX3_hear_35 : decode cX3_hear 35 = .ok (.aload_n 0, 1) := by decide +kernel
theorem dX3_hear_36 : decode cX3_hear 36 = .ok (.dup, 1) := by decide +kernel
theorem dX3_hear_37 : decode cX3_hear 37 = .ok (.getfield 29, 3) := by decide +kernel
theorem dX3_hear_40 : decode cX3_hear 40 = .ok (.iconst 1, 1) := by decide +kernel
theorem dX3_hear_41 : decode cX3_hear 41 = .ok (.iadd, 1) := by decide +kernel
theorem dX3_hear_42 : decode cX3_hear 42 = .ok (.putfield 29, 3) := by decide +kernel
theorem dX3_hear_45 : decode cX3_hear 45 = .ok (.aload_n 0, 1) := by decide +kernel
theorem dX3_hear_46 : decode cX3_hear 46 = .ok (.iload_n 1, 1) := by decide +kernel
theorem dX3_hear_47 : decode cX3_hear 47 = .ok (.putfield 20, 3) := by decide +kernel
theorem dX3_hear_50 : decode cX3_hear 50 = .ok (.aload_n 0, 1) := by decide +kernel
theorem dX3_hear_51 : decode cX3_hear 51 = .ok (.dup, 1) := by decide +kernel
theorem dX3_hear_52 : decode cX3_hear 52 = .ok (.getfield 23, 3) := by decide +kernel
theorem dX3_hear_55 : decode cX3_hear 55 = .ok (.iconst 1, 1) := by decide +kernel
theorem dX3_hear_56 : decode cX3_hear 56 = .ok (.iadd, 1) := by decide +kernel
theorem dX3_hear_57 : decode cX3_hear 57 = .ok (.putfield 23, 3) := by decide +kernel
theorem dX3_hear_60 : decode cX3_hear 60 = .ok (.aload_n 0, 1) := by decide +kernel
theorem dX3_hear_61 : decode cX3_hear 61 = .ok (.dup, 1) := by decide +kernel
theorem dX3_hear_62 : decode cX3_hear 62 = .ok (.getfield 26, 3) := by decide +kernel
theorem dX3_hear_65 : decode cX3_hear 65 = .ok (.iconst 1, 1) := by decide +kernel
theorem dX3_hear_66 : decode cX3_hear 66 = .ok (.iadd, 1) := by decide +kernel
theorem dX3_hear_67 : decode cX3_hear 67 = .ok (.putfield 26, 3) := by decide +kernel
theorem dX3_hear_70 : decode cX3_hear 70 = .ok (.return_, 1) := by decide +kernel
theorem dX3_grow_0 : decode cX3_grow 0 = .ok (.iload_n 3, 1) := by decide +kernel
theorem dX3_grow_1 : decode cX3_grow 1 = .ok (.istore 4, 2) := by decide +kernel
theorem dX3_grow_3 : decode cX3_grow 3 = .ok (.aload_n 0, 1) := by decide +kernel
theorem dX3_grow_4 : decode cX3_grow 4 = .ok (.iload_n 1, 1) := by decide +kernel
theorem dX3_grow_5 : decode cX3_grow 5 = .ok (.iload_n 2, 1) := by decide +kernel
theorem dX3_grow_6 : decode cX3_grow 6 = .ok (.invokevirtual 50, 3) := by decide +kernel
theorem dX3_grow_9 : decode cX3_grow 9 = .ok (.istore 5, 2) := by decide +kernel
theorem dX3_grow_11 : decode cX3_grow 11 = .ok (.iload 5, 2) := by decide +kernel
theorem dX3_grow_13 : decode cX3_grow 13 = .ok (.bipush (-6), 2) := by decide +kernel
theorem dX3_grow_15 : decode cX3_grow 15 = .ok (.if_icmp .eq 27, 3) := by decide +kernel
theorem dX3_grow_18 : decode cX3_grow 18 = .ok (.bipush 9, 2) := by decide +kernel
theorem dX3_grow_20 : decode cX3_grow 20 = .ok (.aload_n 0, 1) := by decide +kernel
theorem dX3_grow_21 : decode cX3_grow 21 = .ok (.getfield 13, 3) := by decide +kernel
theorem dX3_grow_24 : decode cX3_grow 24 = .ok (.iconst 2, 1) := by decide +kernel
theorem dX3_grow_25 : decode cX3_grow 25 = .ok (.aaload, 1) := by decide +kernel
theorem dX3_grow_26 : decode cX3_grow 26 = .ok (.iload 5, 2) := by decide +kernel
theorem dX3_grow_28 : decode cX3_grow 28 = .ok (.iaload, 1) := by decide +kernel
theorem dX3_grow_29 : decode cX3_grow 29 = .ok (.iload_n 3, 1) := by decide +kernel
theorem dX3_grow_30 : decode cX3_grow 30 = .ok (.iadd, 1) := by decide +kernel
theorem dX3_grow_31 : decode cX3_grow 31 = .ok (.invokestatic 54, 3) := by decide +kernel
theorem dX3_grow_34 : decode cX3_grow 34 = .ok (.istore 4, 2) := by decide +kernel
theorem dX3_grow_36 : decode cX3_grow 36 = .ok (.aload_n 0, 1) := by decide +kernel
theorem dX3_grow_37 : decode cX3_grow 37 = .ok (.iload 5, 2) := by decide +kernel
theorem dX3_grow_39 : decode cX3_grow 39 = .ok (.invokevirtual 46, 3) := by decide +kernel
theorem dX3_grow_42 : decode cX3_grow 42 = .ok (.aload_n 0, 1) := by decide +kernel
theorem dX3_grow_43 : decode cX3_grow 43 = .ok (.getfield 16, 3) := by decide +kernel
theorem dX3_grow_46 : decode cX3_grow 46 = .ok (.bipush 61, 2) := by decide +kernel
theorem dX3_grow_48 : decode cX3_grow 48 = .ok (.if_icmp .ge 26, 3) := by decide +kernel
theorem dX3_grow_51 : decode cX3_grow 51 = .ok (.aload_n 0, 1) := by decide +kernel
theorem dX3_grow_52 : decode cX3_grow 52 = .ok (.aload_n 0, 1) := by decide +kernel
theorem dX3_grow_53 : decode cX3_grow 53 = .ok (.getfield 16, 3) := by decide +kernel
theorem dX3_grow_56 : decode cX3_grow 56 = .ok (.iload_n 1, 1) := by decide +kernel
theorem dX3_grow_57 : decode cX3_grow 57 = .ok (.iload_n 2, 1) := by decide +kernel
theorem dX3_grow_58 : decode cX3_grow 58 = .ok (.iload 4, 2) := by decide +kernel
theorem dX3_grow_60 : decode cX3_grow 60 = .ok (.iconst 1, 1) := by decide +kernel
theorem dX3_grow_61 : decode cX3_grow 61 = .ok (.invokevirtual 59, 3) := by decide +kernel
theorem dX3_grow_64 : decode cX3_grow 64 = .ok (.aload_n 0, 1) := by decide +kernel
theorem dX3_grow_65 : decode cX3_grow 65 = .ok (.dup, 1) := by decide +kernel
theorem dX3_grow_66 : decode cX3_grow 66 = .ok (.getfield 16, 3) := by decide +kernel
theorem dX3_grow_69 : decode cX3_grow 69 = .ok (.iconst 1, 1) := by decide +kernel
theorem dX3_grow_70 : decode cX3_grow 70 = .ok (.iadd, 1) := by decide +kernel
theorem dX3_grow_71 : decode cX3_grow 71 = .ok (.putfield 16, 3) := by decide +kernel
theorem dX3_grow_74 : decode cX3_grow 74 = .ok (.return_, 1) := by decide +kernel
theorem dX3_find_0 : decode cX3_find 0 = .ok (.iconst 0, 1) := by decide +kernel
theorem dX3_find_1 : decode cX3_find 1 = .ok (.istore_n 3, 1) := by decide +kernel
theorem dX3_find_2 : decode cX3_find 2 = .ok (.iload_n 3, 1) := by decide +kernel
theorem dX3_find_3 : decode cX3_find 3 = .ok (.aload_n 0, 1) := by decide +kernel
theorem dX3_find_4 : decode cX3_find 4 = .ok (.getfield 16, 3) := by decide +kernel
theorem dX3_find_7 : decode cX3_find 7 = .ok (.if_icmp .ge 35, 3) := by decide +kernel
theorem dX3_find_10 : decode cX3_find 10 = .ok (.aload_n 0, 1) := by decide +kernel
theorem dX3_find_11 : decode cX3_find 11 = .ok (.getfield 13, 3) := by decide +kernel
theorem dX3_find_14 : decode cX3_find 14 = .ok (.iconst 0, 1) := by decide +kernel
theorem dX3_find_15 : decode cX3_find 15 = .ok (.aaload, 1) := by decide +kernel
theorem dX3_find_16 : decode cX3_find 16 = .ok (.iload_n 3, 1) := by decide +kernel
theorem dX3_find_17 : decode cX3_find 17 = .ok (.iaload, 1) := by decide +kernel
theorem dX3_find_18 : decode cX3_find 18 = .ok (.iload_n 1, 1) := by decide +kernel
theorem dX3_find_19 : decode cX3_find 19 = .ok (.if_icmp .ne 17, 3) := by decide +kernel
theorem dX3_find_22 : decode cX3_find 22 = .ok (.aload_n 0, 1) := by decide +kernel
theorem dX3_find_23 : decode cX3_find 23 = .ok (.getfield 13, 3) := by decide +kernel
theorem dX3_find_26 : decode cX3_find 26 = .ok (.iconst 1, 1) := by decide +kernel
theorem dX3_find_27 : decode cX3_find 27 = .ok (.aaload, 1) := by decide +kernel
theorem dX3_find_28 : decode cX3_find 28 = .ok (.iload_n 3, 1) := by decide +kernel
theorem dX3_find_29 : decode cX3_find 29 = .ok (.iaload, 1) := by decide +kernel
theorem dX3_find_30 : decode cX3_find 30 = .ok (.iload_n 2, 1) := by decide +kernel
theorem dX3_find_31 : decode cX3_find 31 = .ok (.if_icmp .ne 5, 3) := by decide +kernel
theorem dX3_find_34 : decode cX3_find 34 = .ok (.iload_n 3, 1) := by decide +kernel
theorem dX3_find_35 : decode cX3_find 35 = .ok (.ireturn, 1) := by decide +kernel
theorem dX3_find_36 : decode cX3_find 36 = .ok (.iinc 3 1, 3) := by decide +kernel
theorem dX3_find_39 : decode cX3_find 39 = .ok (.goto (-37), 3) := by decide +kernel
theorem dX3_find_42 : decode cX3_find 42 = .ok (.bipush (-6), 2) := by decide +kernel
theorem dX3_find_44 : decode cX3_find 44 = .ok (.ireturn, 1) := by decide +kernel
theorem dX3_weakest_0 : decode cX3_weakest 0 = .ok (.iconst 0, 1) := by decide +kernel
theorem dX3_weakest_1 : decode cX3_weakest 1 = .ok (.istore_n 1, 1) := by decide +kernel
theorem dX3_weakest_2 : decode cX3_weakest 2 = .ok (.iconst 1, 1) := by decide +kernel
theorem dX3_weakest_3 : decode cX3_weakest 3 = .ok (.istore_n 2, 1) := by decide +kernel
theorem dX3_weakest_4 : decode cX3_weakest 4 = .ok (.iload_n 2, 1) := by decide +kernel
theorem dX3_weakest_5 : decode cX3_weakest 5 = .ok (.aload_n 0, 1) := by decide +kernel
theorem dX3_weakest_6 : decode cX3_weakest 6 = .ok (.getfield 16, 3) := by decide +kernel
theorem dX3_weakest_9 : decode cX3_weakest 9 = .ok (.if_icmp .ge 30, 3) := by decide +kernel
theorem dX3_weakest_12 : decode cX3_weakest 12 = .ok (.aload_n 0, 1) := by decide +kernel
theorem dX3_weakest_13 : decode cX3_weakest 13 = .ok (.getfield 13, 3) := by decide +kernel
theorem dX3_weakest_16 : decode cX3_weakest 16 = .ok (.iconst 2, 1) := by decide +kernel
theorem dX3_weakest_17 : decode cX3_weakest 17 = .ok (.aaload, 1) := by decide +kernel
theorem dX3_weakest_18 : decode cX3_weakest 18 = .ok (.iload_n 2, 1) := by decide +kernel
theorem dX3_weakest_19 : decode cX3_weakest 19 = .ok (.iaload, 1) := by decide +kernel
theorem dX3_weakest_20 : decode cX3_weakest 20 = .ok (.aload_n 0, 1) := by decide +kernel
theorem dX3_weakest_21 : decode cX3_weakest 21 = .ok (.getfield 13, 3) := by decide +kernel
theorem dX3_weakest_24 : decode cX3_weakest 24 = .ok (.iconst 2, 1) := by decide +kernel
theorem dX3_weakest_25 : decode cX3_weakest 25 = .ok (.aaload, 1) := by decide +kernel
theorem dX3_weakest_26 : decode cX3_weakest 26 = .ok (.iload_n 1, 1) := by decide +kernel
theorem dX3_weakest_27 : decode cX3_weakest 27 = .ok (.iaload, 1) := by decide +kernel
theorem dX3_weakest_28 : decode cX3_weakest 28 = .ok (.if_icmp .ge 5, 3) := by decide +kernel
theorem dX3_weakest_31 : decode cX3_weakest 31 = .ok (.iload_n 2, 1) := by decide +kernel
theorem dX3_weakest_32 : decode cX3_weakest 32 = .ok (.istore_n 1, 1) := by decide +kernel
theorem dX3_weakest_33 : decode cX3_weakest 33 = .ok (.iinc 2 1, 3) := by decide +kernel
theorem dX3_weakest_36 : decode cX3_weakest 36 = .ok (.goto (-32), 3) := by decide +kernel
theorem dX3_weakest_39 : decode cX3_weakest 39 = .ok (.iload_n 1, 1) := by decide +kernel
theorem dX3_weakest_40 : decode cX3_weakest 40 = .ok (.ireturn, 1) := by decide +kernel
theorem dX3_remove_0 : decode cX3_remove 0 = .ok (.iload_n 1, 1) := by decide +kernel
theorem dX3_remove_1 : decode cX3_remove 1 = .ok (.ifCond .lt 11, 3) := by decide +kernel
theorem dX3_remove_4 : decode cX3_remove 4 = .ok (.iload_n 1, 1) := by decide +kernel
theorem dX3_remove_5 : decode cX3_remove 5 = .ok (.aload_n 0, 1) := by decide +kernel
theorem dX3_remove_6 : decode cX3_remove 6 = .ok (.getfield 16, 3) := by decide +kernel
theorem dX3_remove_9 : decode cX3_remove 9 = .ok (.if_icmp .lt 4, 3) := by decide +kernel
theorem dX3_remove_12 : decode cX3_remove 12 = .ok (.return_, 1) := by decide +kernel
theorem dX3_remove_13 : decode cX3_remove 13 = .ok (.iconst 0, 1) := by decide +kernel
theorem dX3_remove_14 : decode cX3_remove 14 = .ok (.istore_n 2, 1) := by decide +kernel
theorem dX3_remove_15 : decode cX3_remove 15 = .ok (.iload_n 2, 1) := by decide +kernel
theorem dX3_remove_16 : decode cX3_remove 16 = .ok (.iconst 4, 1) := by decide +kernel
theorem dX3_remove_17 : decode cX3_remove 17 = .ok (.if_icmp .ge 36, 3) := by decide +kernel
theorem dX3_remove_20 : decode cX3_remove 20 = .ok (.aload_n 0, 1) := by decide +kernel
theorem dX3_remove_21 : decode cX3_remove 21 = .ok (.getfield 13, 3) := by decide +kernel
theorem dX3_remove_24 : decode cX3_remove 24 = .ok (.iload_n 2, 1) := by decide +kernel
theorem dX3_remove_25 : decode cX3_remove 25 = .ok (.aaload, 1) := by decide +kernel
theorem dX3_remove_26 : decode cX3_remove 26 = .ok (.iload_n 1, 1) := by decide +kernel
theorem dX3_remove_27 : decode cX3_remove 27 = .ok (.iconst 1, 1) := by decide +kernel
theorem dX3_remove_28 : decode cX3_remove 28 = .ok (.iadd, 1) := by decide +kernel
theorem dX3_remove_29 : decode cX3_remove 29 = .ok (.aload_n 0, 1) := by decide +kernel
theorem dX3_remove_30 : decode cX3_remove 30 = .ok (.getfield 13, 3) := by decide +kernel
theorem dX3_remove_33 : decode cX3_remove 33 = .ok (.iload_n 2, 1) := by decide +kernel
theorem dX3_remove_34 : decode cX3_remove 34 = .ok (.aaload, 1) := by decide +kernel
theorem dX3_remove_35 : decode cX3_remove 35 = .ok (.iload_n 1, 1) := by decide +kernel
theorem dX3_remove_36 : decode cX3_remove 36 = .ok (.aload_n 0, 1) := by decide +kernel
theorem dX3_remove_37 : decode cX3_remove 37 = .ok (.getfield 16, 3) := by decide +kernel
theorem dX3_remove_40 : decode cX3_remove 40 = .ok (.iload_n 1, 1) := by decide +kernel
theorem dX3_remove_41 : decode cX3_remove 41 = .ok (.isub, 1) := by decide +kernel
theorem dX3_remove_42 : decode cX3_remove 42 = .ok (.iconst 1, 1) := by decide +kernel
theorem dX3_remove_43 : decode cX3_remove 43 = .ok (.isub, 1) := by decide +kernel
theorem dX3_remove_44 : decode cX3_remove 44 = .ok (.invokestatic 32, 3) := by decide +kernel
theorem dX3_remove_47 : decode cX3_remove 47 = .ok (.iinc 2 1, 3) := by decide +kernel
theorem dX3_remove_50 : decode cX3_remove 50 = .ok (.goto (-35), 3) := by decide +kernel
theorem dX3_remove_53 : decode cX3_remove 53 = .ok (.aload_n 0, 1) := by decide +kernel
theorem dX3_remove_54 : decode cX3_remove 54 = .ok (.dup, 1) := by decide +kernel
theorem dX3_remove_55 : decode cX3_remove 55 = .ok (.getfield 16, 3) := by decide +kernel
theorem dX3_remove_58 : decode cX3_remove 58 = .ok (.iconst 1, 1) := by decide +kernel
theorem dX3_remove_59 : decode cX3_remove 59 = .ok (.isub, 1) := by decide +kernel
theorem dX3_remove_60 : decode cX3_remove 60 = .ok (.putfield 16, 3) := by decide +kernel
theorem dX3_remove_63 : decode cX3_remove 63 = .ok (.return_, 1) := by decide +kernel
theorem dX3_write_0 : decode cX3_write 0 = .ok (.aload_n 0, 1) := by decide +kernel
theorem dX3_write_1 : decode cX3_write 1 = .ok (.getfield 13, 3) := by decide +kernel
theorem dX3_write_4 : decode cX3_write 4 = .ok (.iconst 0, 1) := by decide +kernel
theorem dX3_write_5 : decode cX3_write 5 = .ok (.aaload, 1) := by decide +kernel
theorem dX3_write_6 : decode cX3_write 6 = .ok (.iload_n 1, 1) := by decide +kernel
theorem dX3_write_7 : decode cX3_write 7 = .ok (.iload_n 2, 1) := by decide +kernel
theorem dX3_write_8 : decode cX3_write 8 = .ok (.iastore, 1) := by decide +kernel
theorem dX3_write_9 : decode cX3_write 9 = .ok (.aload_n 0, 1) := by decide +kernel
theorem dX3_write_10 : decode cX3_write 10 = .ok (.getfield 13, 3) := by decide +kernel
theorem dX3_write_13 : decode cX3_write 13 = .ok (.iconst 1, 1) := by decide +kernel
theorem dX3_write_14 : decode cX3_write 14 = .ok (.aaload, 1) := by decide +kernel
theorem dX3_write_15 : decode cX3_write 15 = .ok (.iload_n 1, 1) := by decide +kernel
theorem dX3_write_16 : decode cX3_write 16 = .ok (.iload_n 3, 1) := by decide +kernel
theorem dX3_write_17 : decode cX3_write 17 = .ok (.iastore, 1) := by decide +kernel
theorem dX3_write_18 : decode cX3_write 18 = .ok (.aload_n 0, 1) := by decide +kernel
theorem dX3_write_19 : decode cX3_write 19 = .ok (.getfield 13, 3) := by decide +kernel
theorem dX3_write_22 : decode cX3_write 22 = .ok (.iconst 2, 1) := by decide +kernel
theorem dX3_write_23 : decode cX3_write 23 = .ok (.aaload, 1) := by decide +kernel
theorem dX3_write_24 : decode cX3_write 24 = .ok (.iload_n 1, 1) := by decide +kernel
theorem dX3_write_25 : decode cX3_write 25 = .ok (.iload 4, 2) := by decide +kernel
theorem dX3_write_27 : decode cX3_write 27 = .ok (.iastore, 1) := by decide +kernel
theorem dX3_write_28 : decode cX3_write 28 = .ok (.aload_n 0, 1) := by decide +kernel
theorem dX3_write_29 : decode cX3_write 29 = .ok (.getfield 13, 3) := by decide +kernel
theorem dX3_write_32 : decode cX3_write 32 = .ok (.iconst 3, 1) := by decide +kernel
theorem dX3_write_33 : decode cX3_write 33 = .ok (.aaload, 1) := by decide +kernel
theorem dX3_write_34 : decode cX3_write 34 = .ok (.iload_n 1, 1) := by decide +kernel
theorem dX3_write_35 : decode cX3_write 35 = .ok (.iload 5, 2) := by decide +kernel
theorem dX3_write_37 : decode cX3_write 37 = .ok (.iastore, 1) := by decide +kernel
theorem dX3_write_38 : decode cX3_write 38 = .ok (.return_, 1) := by decide +kernel
theorem dX3_sleep_0 : decode cX3_sleep 0 = .ok (.iconst 0, 1) := by decide +kernel
theorem dX3_sleep_1 : decode cX3_sleep 1 = .ok (.istore_n 2, 1) := by decide +kernel
theorem dX3_sleep_2 : decode cX3_sleep 2 = .ok (.iconst 0, 1) := by decide +kernel
theorem dX3_sleep_3 : decode cX3_sleep 3 = .ok (.istore_n 3, 1) := by decide +kernel
theorem dX3_sleep_4 : decode cX3_sleep 4 = .ok (.iload_n 3, 1) := by decide +kernel
theorem dX3_sleep_5 : decode cX3_sleep 5 = .ok (.aload_n 0, 1) := by decide +kernel
theorem dX3_sleep_6 : decode cX3_sleep 6 = .ok (.getfield 16, 3) := by decide +kernel
theorem dX3_sleep_9 : decode cX3_sleep 9 = .ok (.if_icmp .ge 70, 3) := by decide +kernel
theorem dX3_sleep_12 : decode cX3_sleep 12 = .ok (.aload_n 0, 1) := by decide +kernel
theorem dX3_sleep_13 : decode cX3_sleep 13 = .ok (.getfield 13, 3) := by decide +kernel
theorem dX3_sleep_16 : decode cX3_sleep 16 = .ok (.iconst 2, 1) := by decide +kernel
theorem dX3_sleep_17 : decode cX3_sleep 17 = .ok (.aaload, 1) := by decide +kernel
theorem dX3_sleep_18 : decode cX3_sleep 18 = .ok (.iload_n 3, 1) := by decide +kernel
theorem dX3_sleep_19 : decode cX3_sleep 19 = .ok (.iaload, 1) := by decide +kernel
theorem dX3_sleep_20 : decode cX3_sleep 20 = .ok (.aload_n 0, 1) := by decide +kernel
theorem dX3_sleep_21 : decode cX3_sleep 21 = .ok (.getfield 13, 3) := by decide +kernel
theorem dX3_sleep_24 : decode cX3_sleep 24 = .ok (.iconst 3, 1) := by decide +kernel
theorem dX3_sleep_25 : decode cX3_sleep 25 = .ok (.aaload, 1) := by decide +kernel
theorem dX3_sleep_26 : decode cX3_sleep 26 = .ok (.iload_n 3, 1) := by decide +kernel
theorem dX3_sleep_27 : decode cX3_sleep 27 = .ok (.iaload, 1) := by decide +kernel
theorem dX3_sleep_28 : decode cX3_sleep 28 = .ok (.iconst 1, 1) := by decide +kernel
theorem dX3_sleep_29 : decode cX3_sleep 29 = .ok (.if_icmp .ne 7, 3) := by decide +kernel
theorem dX3_sleep_32 : decode cX3_sleep 32 = .ok (.iconst 0, 1) := by decide +kernel
theorem dX3_sleep_33 : decode cX3_sleep 33 = .ok (.goto 4, 3) := by decide +kernel
theorem dX3_sleep_36 : decode cX3_sleep 36 = .ok (.iload_n 1, 1) := by decide +kernel
theorem dX3_sleep_37 : decode cX3_sleep 37 = .ok (.isub, 1) := by decide +kernel
theorem dX3_sleep_38 : decode cX3_sleep 38 = .ok (.istore 4, 2) := by decide +kernel
theorem dX3_sleep_40 : decode cX3_sleep 40 = .ok (.iload 4, 2) := by decide +kernel
theorem dX3_sleep_42 : decode cX3_sleep 42 = .ok (.iconst 1, 1) := by decide +kernel
theorem dX3_sleep_43 : decode cX3_sleep 43 = .ok (.if_icmp .lt 30, 3) := by decide +kernel
theorem dX3_sleep_46 : decode cX3_sleep 46 = .ok (.aload_n 0, 1) := by decide +kernel
theorem dX3_sleep_47 : decode cX3_sleep 47 = .ok (.iload_n 2, 1) := by decide +kernel
theorem dX3_sleep_48 : decode cX3_sleep 48 = .ok (.aload_n 0, 1) := by decide +kernel
theorem dX3_sleep_49 : decode cX3_sleep 49 = .ok (.getfield 13, 3) := by decide +kernel
theorem dX3_sleep_52 : decode cX3_sleep 52 = .ok (.iconst 0, 1) := by decide +kernel
theorem dX3_sleep_53 : decode cX3_sleep 53 = .ok (.aaload, 1) := by decide +kernel
theorem dX3_sleep_54 : decode cX3_sleep 54 = .ok (.iload_n 3, 1) := by decide +kernel
theorem dX3_sleep_55 : decode cX3_sleep 55 = .ok (.iaload, 1) := by decide +kernel
theorem dX3_sleep_56 : decode cX3_sleep 56 = .ok (.aload_n 0, 1) := by decide +kernel
theorem dX3_sleep_57 : decode cX3_sleep 57 = .ok (.getfield 13, 3) := by decide +kernel
theorem dX3_sleep_60 : decode cX3_sleep 60 = .ok (.iconst 1, 1) := by decide +kernel
theorem dX3_sleep_61 : decode cX3_sleep 61 = .ok (.aaload, 1) := by decide +kernel
theorem dX3_sleep_62 : decode cX3_sleep 62 = .ok (.iload_n 3, 1) := by decide +kernel
theorem dX3_sleep_63 : decode cX3_sleep 63 = .ok (.iaload, 1) := by decide +kernel
theorem dX3_sleep_64 : decode cX3_sleep 64 = .ok (.iload 4, 2) := by decide +kernel
theorem dX3_sleep_66 : decode cX3_sleep 66 = .ok (.iconst 0, 1) := by decide +kernel
theorem dX3_sleep_67 : decode cX3_sleep 67 = .ok (.invokevirtual 59, 3) := by decide +kernel
theorem dX3_sleep_70 : decode cX3_sleep 70 = .ok (.iinc 2 1, 3) := by decide +kernel
theorem dX3_sleep_73 : decode cX3_sleep 73 = .ok (.iinc 3 1, 3) := by decide +kernel
theorem dX3_sleep_76 : decode cX3_sleep 76 = .ok (.goto (-72), 3) := by decide +kernel
theorem dX3_sleep_79 : decode cX3_sleep 79 = .ok (.aload_n 0, 1) := by decide +kernel
theorem dX3_sleep_80 : decode cX3_sleep 80 = .ok (.getfield 16, 3) := by decide +kernel
theorem dX3_sleep_83 : decode cX3_sleep 83 = .ok (.iload_n 2, 1) := by decide +kernel
theorem dX3_sleep_84 : decode cX3_sleep 84 = .ok (.isub, 1) := by decide +kernel
theorem dX3_sleep_85 : decode cX3_sleep 85 = .ok (.istore_n 3, 1) := by decide +kernel
theorem dX3_sleep_86 : decode cX3_sleep 86 = .ok (.aload_n 0, 1) := by decide +kernel
theorem dX3_sleep_87 : decode cX3_sleep 87 = .ok (.iload_n 2, 1) := by decide +kernel
theorem dX3_sleep_88 : decode cX3_sleep 88 = .ok (.putfield 16, 3) := by decide +kernel
theorem dX3_sleep_91 : decode cX3_sleep 91 = .ok (.aload_n 0, 1) := by decide +kernel
theorem dX3_sleep_92 : decode cX3_sleep 92 = .ok (.dup, 1) := by decide +kernel
theorem dX3_sleep_93 : decode cX3_sleep 93 = .ok (.getfield 29, 3) := by decide +kernel
theorem dX3_sleep_96 : decode cX3_sleep 96 = .ok (.iload_n 3, 1) := by decide +kernel
theorem dX3_sleep_97 : decode cX3_sleep 97 = .ok (.iadd, 1) := by decide +kernel
theorem dX3_sleep_98 : decode cX3_sleep 98 = .ok (.putfield 29, 3) := by decide +kernel
theorem dX3_sleep_101 : decode cX3_sleep 101 = .ok (.aload_n 0, 1) := by decide +kernel
theorem dX3_sleep_102 : decode cX3_sleep 102 = .ok (.bipush (-6), 2) := by decide +kernel
theorem dX3_sleep_104 : decode cX3_sleep 104 = .ok (.putfield 20, 3) := by decide +kernel
theorem dX3_sleep_107 : decode cX3_sleep 107 = .ok (.aload_n 0, 1) := by decide +kernel
theorem dX3_sleep_108 : decode cX3_sleep 108 = .ok (.iconst 0, 1) := by decide +kernel
theorem dX3_sleep_109 : decode cX3_sleep 109 = .ok (.putfield 23, 3) := by decide +kernel
theorem dX3_sleep_112 : decode cX3_sleep 112 = .ok (.iload_n 3, 1) := by decide +kernel
theorem dX3_sleep_113 : decode cX3_sleep 113 = .ok (.ireturn, 1) := by decide +kernel
theorem dX3_nextBehind_0 : decode cX3_nextBehind 0 = .ok (.bipush (-6), 2) := by decide +kernel
theorem dX3_nextBehind_2 : decode cX3_nextBehind 2 = .ok (.istore_n 2, 1) := by decide +kernel
theorem dX3_nextBehind_3 : decode cX3_nextBehind 3 = .ok (.iconst 0, 1) := by decide +kernel
theorem dX3_nextBehind_4 : decode cX3_nextBehind 4 = .ok (.istore_n 3, 1) := by decide +kernel
theorem dX3_nextBehind_5 : decode cX3_nextBehind 5 = .ok (.aload_n 0, 1) := by decide +kernel
theorem dX3_nextBehind_6 : decode cX3_nextBehind 6 = .ok (.getfield 16, 3) := by decide +kernel
theorem dX3_nextBehind_9 : decode cX3_nextBehind 9 = .ok (.iconst 1, 1) := by decide +kernel
theorem dX3_nextBehind_10 : decode cX3_nextBehind 10 = .ok (.isub, 1) := by decide +kernel
theorem dX3_nextBehind_11 : decode cX3_nextBehind 11 = .ok (.istore 4, 2) := by decide +kernel
theorem dX3_nextBehind_13 : decode cX3_nextBehind 13 = .ok (.iload 4, 2) := by decide +kernel
theorem dX3_nextBehind_15 : decode cX3_nextBehind 15 = .ok (.ifCond .lt 55, 3) := by decide +kernel
theorem dX3_nextBehind_18 : decode cX3_nextBehind 18 = .ok (.aload_n 0, 1) := by decide +kernel
theorem dX3_nextBehind_19 : decode cX3_nextBehind 19 = .ok (.getfield 13, 3) := by decide +kernel
theorem dX3_nextBehind_22 : decode cX3_nextBehind 22 = .ok (.iconst 0, 1) := by decide +kernel
theorem dX3_nextBehind_23 : decode cX3_nextBehind 23 = .ok (.aaload, 1) := by decide +kernel
theorem dX3_nextBehind_24 : decode cX3_nextBehind 24 = .ok (.iload 4, 2) := by decide +kernel
theorem dX3_nextBehind_26 : decode cX3_nextBehind 26 = .ok (.iaload, 1) := by decide +kernel
theorem dX3_nextBehind_27 : decode cX3_nextBehind 27 = .ok (.iload_n 1, 1) := by decide +kernel
theorem dX3_nextBehind_28 : decode cX3_nextBehind 28 = .ok (.if_icmp .ne 36, 3) := by decide +kernel
theorem dX3_nextBehind_31 : decode cX3_nextBehind 31 = .ok (.aload_n 0, 1) := by decide +kernel
theorem dX3_nextBehind_32 : decode cX3_nextBehind 32 = .ok (.getfield 13, 3) := by decide +kernel
theorem dX3_nextBehind_35 : decode cX3_nextBehind 35 = .ok (.iconst 2, 1) := by decide +kernel
theorem dX3_nextBehind_36 : decode cX3_nextBehind 36 = .ok (.aaload, 1) := by decide +kernel
theorem dX3_nextBehind_37 : decode cX3_nextBehind 37 = .ok (.iload 4, 2) := by decide +kernel
theorem dX3_nextBehind_39 : decode cX3_nextBehind 39 = .ok (.iaload, 1) := by decide +kernel
theorem dX3_nextBehind_40 : decode cX3_nextBehind 40 = .ok (.iload_n 3, 1) := by decide +kernel
theorem dX3_nextBehind_41 : decode cX3_nextBehind 41 = .ok (.if_icmp .le 23, 3) := by decide +kernel
theorem dX3_nextBehind_44 : decode cX3_nextBehind 44 = .ok (.aload_n 0, 1) := by decide +kernel
theorem dX3_nextBehind_45 : decode cX3_nextBehind 45 = .ok (.getfield 13, 3) := by decide +kernel
theorem dX3_nextBehind_48 : decode cX3_nextBehind 48 = .ok (.iconst 1, 1) := by decide +kernel
theorem dX3_nextBehind_49 : decode cX3_nextBehind 49 = .ok (.aaload, 1) := by decide +kernel
theorem dX3_nextBehind_50 : decode cX3_nextBehind 50 = .ok (.iload 4, 2) := by decide +kernel
theorem dX3_nextBehind_52 : decode cX3_nextBehind 52 = .ok (.iaload, 1) := by decide +kernel
theorem dX3_nextBehind_53 : decode cX3_nextBehind 53 = .ok (.istore_n 2, 1) := by decide +kernel
theorem dX3_nextBehind_54 : decode cX3_nextBehind 54 = .ok (.aload_n 0, 1) := by decide +kernel
theorem dX3_nextBehind_55 : decode cX3_nextBehind 55 = .ok (.getfield 13, 3) := by decide +kernel
theorem dX3_nextBehind_58 : decode cX3_nextBehind 58 = .ok (.iconst 2, 1) := by decide +kernel
theorem dX3_nextBehind_59 : decode cX3_nextBehind 59 = .ok (.aaload, 1) := by decide +kernel
theorem dX3_nextBehind_60 : decode cX3_nextBehind 60 = .ok (.iload 4, 2) := by decide +kernel
theorem dX3_nextBehind_62 : decode cX3_nextBehind 62 = .ok (.iaload, 1) := by decide +kernel
theorem dX3_nextBehind_63 : decode cX3_nextBehind 63 = .ok (.istore_n 3, 1) := by decide +kernel
theorem dX3_nextBehind_64 : decode cX3_nextBehind 64 = .ok (.iinc 4 (-1), 3) := by decide +kernel
theorem dX3_nextBehind_67 : decode cX3_nextBehind 67 = .ok (.goto (-54), 3) := by decide +kernel
theorem dX3_nextBehind_70 : decode cX3_nextBehind 70 = .ok (.iload_n 2, 1) := by decide +kernel
theorem dX3_nextBehind_71 : decode cX3_nextBehind 71 = .ok (.ireturn, 1) := by decide +kernel
theorem dX3_strengthInAll_0 : decode cX3_strengthInAll 0 = .ok (.iconst 0, 1) := by decide +kernel
theorem dX3_strengthInAll_1 : decode cX3_strengthInAll 1 = .ok (.istore_n 1, 1) := by decide +kernel
theorem dX3_strengthInAll_2 : decode cX3_strengthInAll 2 = .ok (.iconst 0, 1) := by decide +kernel
theorem dX3_strengthInAll_3 : decode cX3_strengthInAll 3 = .ok (.istore_n 2, 1) := by decide +kernel
theorem dX3_strengthInAll_4 : decode cX3_strengthInAll 4 = .ok (.iload_n 2, 1) := by decide +kernel
theorem dX3_strengthInAll_5 : decode cX3_strengthInAll 5 = .ok (.aload_n 0, 1) := by decide +kernel
theorem dX3_strengthInAll_6 : decode cX3_strengthInAll 6 = .ok (.getfield 16, 3) := by decide +kernel
theorem dX3_strengthInAll_9 : decode cX3_strengthInAll 9 = .ok (.if_icmp .ge 20, 3) := by decide +kernel
theorem dX3_strengthInAll_12 : decode cX3_strengthInAll 12 = .ok (.iload_n 1, 1) := by decide +kernel
theorem dX3_strengthInAll_13 : decode cX3_strengthInAll 13 = .ok (.aload_n 0, 1) := by decide +kernel
theorem dX3_strengthInAll_14 : decode cX3_strengthInAll 14 = .ok (.getfield 13, 3) := by decide +kernel
theorem dX3_strengthInAll_17 : decode cX3_strengthInAll 17 = .ok (.iconst 2, 1) := by decide +kernel
theorem dX3_strengthInAll_18 : decode cX3_strengthInAll 18 = .ok (.aaload, 1) := by decide +kernel
theorem dX3_strengthInAll_19 : decode cX3_strengthInAll 19 = .ok (.iload_n 2, 1) := by decide +kernel
theorem dX3_strengthInAll_20 : decode cX3_strengthInAll 20 = .ok (.iaload, 1) := by decide +kernel
theorem dX3_strengthInAll_21 : decode cX3_strengthInAll 21 = .ok (.iadd, 1) := by decide +kernel
theorem dX3_strengthInAll_22 : decode cX3_strengthInAll 22 = .ok (.istore_n 1, 1) := by decide +kernel
theorem dX3_strengthInAll_23 : decode cX3_strengthInAll 23 = .ok (.iinc 2 1, 3) := by decide +kernel
theorem dX3_strengthInAll_26 : decode cX3_strengthInAll 26 = .ok (.goto (-22), 3) := by decide +kernel
theorem dX3_strengthInAll_29 : decode cX3_strengthInAll 29 = .ok (.iload_n 1, 1) := by decide +kernel
theorem dX3_strengthInAll_30 : decode cX3_strengthInAll 30 = .ok (.ireturn, 1) := by decide +kernel
theorem dX3_ofLink_0 : decode cX3_ofLink 0 = .ok (.iload_n 1, 1) := by decide +kernel
theorem dX3_ofLink_1 : decode cX3_ofLink 1 = .ok (.ifCond .lt 20, 3) := by decide +kernel
theorem dX3_ofLink_4 : decode cX3_ofLink 4 = .ok (.iload_n 1, 1) := by decide +kernel
theorem dX3_ofLink_5 : decode cX3_ofLink 5 = .ok (.aload_n 0, 1) := by decide +kernel
theorem dX3_ofLink_6 : decode cX3_ofLink 6 = .ok (.getfield 16, 3) := by decide +kernel
theorem dX3_ofLink_9 : decode cX3_ofLink 9 = .ok (.if_icmp .ge 12, 3) := by decide +kernel
theorem dX3_ofLink_12 : decode cX3_ofLink 12 = .ok (.iload_n 2, 1) := by decide +kernel
theorem dX3_ofLink_13 : decode cX3_ofLink 13 = .ok (.ifCond .lt 8, 3) := by decide +kernel
theorem dX3_ofLink_16 : decode cX3_ofLink 16 = .ok (.iload_n 2, 1) := by decide +kernel
theorem dX3_ofLink_17 : decode cX3_ofLink 17 = .ok (.iconst 4, 1) := by decide +kernel
theorem dX3_ofLink_18 : decode cX3_ofLink 18 = .ok (.if_icmp .lt 6, 3) := by decide +kernel
theorem dX3_ofLink_21 : decode cX3_ofLink 21 = .ok (.bipush (-6), 2) := by decide +kernel
theorem dX3_ofLink_23 : decode cX3_ofLink 23 = .ok (.ireturn, 1) := by decide +kernel
theorem dX3_ofLink_24 : decode cX3_ofLink 24 = .ok (.aload_n 0, 1) := by decide +kernel
theorem dX3_ofLink_25 : decode cX3_ofLink 25 = .ok (.getfield 13, 3) := by decide +kernel
theorem dX3_ofLink_28 : decode cX3_ofLink 28 = .ok (.iload_n 2, 1) := by decide +kernel
theorem dX3_ofLink_29 : decode cX3_ofLink 29 = .ok (.aaload, 1) := by decide +kernel
theorem dX3_ofLink_30 : decode cX3_ofLink 30 = .ok (.aload_n 0, 1) := by decide +kernel
theorem dX3_ofLink_31 : decode cX3_ofLink 31 = .ok (.getfield 16, 3) := by decide +kernel
theorem dX3_ofLink_34 : decode cX3_ofLink 34 = .ok (.iconst 1, 1) := by decide +kernel
theorem dX3_ofLink_35 : decode cX3_ofLink 35 = .ok (.isub, 1) := by decide +kernel
theorem dX3_ofLink_36 : decode cX3_ofLink 36 = .ok (.iload_n 1, 1) := by decide +kernel
theorem dX3_ofLink_37 : decode cX3_ofLink 37 = .ok (.isub, 1) := by decide +kernel
theorem dX3_ofLink_38 : decode cX3_ofLink 38 = .ok (.iaload, 1) := by decide +kernel
theorem dX3_ofLink_39 : decode cX3_ofLink 39 = .ok (.ireturn, 1) := by decide +kernel
theorem dX4_init_0 : decode cX4_init 0 = .ok (.aload_n 0, 1) := by decide +kernel
theorem dX4_init_1 : decode cX4_init 1 = .ok (.invokespecial 3, 3) := by decide +kernel
theorem dX4_init_4 : decode cX4_init 4 = .ok (.aload_n 0, 1) := by decide +kernel
theorem dX4_init_5 : decode cX4_init 5 = .ok (.new 9, 3) := by decide +kernel
theorem dX4_init_8 : decode cX4_init 8 = .ok (.dup, 1) := by decide +kernel
theorem dX4_init_9 : decode cX4_init 9 = .ok (.invokespecial 11, 3) := by decide +kernel
theorem dX4_init_12 : decode cX4_init 12 = .ok (.putfield 12, 3) := by decide +kernel
theorem dX4_init_15 : decode cX4_init 15 = .ok (.aload_n 0, 1) := by decide +kernel
theorem dX4_init_16 : decode cX4_init 16 = .ok (.iconst 0, 1) := by decide +kernel
theorem dX4_init_17 : decode cX4_init 17 = .ok (.putfield 18, 3) := by decide +kernel
theorem dX4_init_20 : decode cX4_init 20 = .ok (.aload_n 0, 1) := by decide +kernel
theorem dX4_init_21 : decode cX4_init 21 = .ok (.iconst 1, 1) := by decide +kernel
theorem dX4_init_22 : decode cX4_init 22 = .ok (.putfield 22, 3) := by decide +kernel
theorem dX4_init_25 : decode cX4_init 25 = .ok (.aload_n 0, 1) := by decide +kernel
theorem dX4_init_26 : decode cX4_init 26 = .ok (.iconst 0, 1) := by decide +kernel
theorem dX4_init_27 : decode cX4_init 27 = .ok (.putfield 26, 3) := by decide +kernel
theorem dX4_init_30 : decode cX4_init 30 = .ok (.aload_n 0, 1) := by decide +kernel
theorem dX4_init_31 : decode cX4_init 31 = .ok (.iconst 0, 1) := by decide +kernel
theorem dX4_init_32 : decode cX4_init 32 = .ok (.putfield 30, 3) := by decide +kernel
theorem dX4_init_35 : decode cX4_init 35 = .ok (.aload_n 0, 1) := by decide +kernel
theorem dX4_init_36 : decode cX4_init 36 = .ok (.iconst 0, 1) := by decide +kernel
theorem dX4_init_37 : decode cX4_init 37 = .ok (.putfield 33, 3) := by decide +kernel
theorem dX4_init_40 : decode cX4_init 40 = .ok (.aload_n 0, 1) := by decide +kernel
theorem dX4_init_41 : decode cX4_init 41 = .ok (.iconst 0, 1) := by decide +kernel
theorem dX4_init_42 : decode cX4_init 42 = .ok (.putfield 36, 3) := by decide +kernel
theorem dX4_init_45 : decode cX4_init 45 = .ok (.aload_n 0, 1) := by decide +kernel
theorem dX4_init_46 : decode cX4_init 46 = .ok (.bipush 20, 2) := by decide +kernel
theorem dX4_init_48 : decode cX4_init 48 = .ok (.newarray .int, 2) := by decide +kernel
theorem dX4_init_50 : decode cX4_init 50 = .ok (.putfield 39, 3) := by decide +kernel
theorem dX4_init_53 : decode cX4_init 53 = .ok (.aload_n 0, 1) := by decide +kernel
theorem dX4_init_54 : decode cX4_init 54 = .ok (.iconst 0, 1) := by decide +kernel
theorem dX4_init_55 : decode cX4_init 55 = .ok (.putfield 43, 3) := by decide +kernel
theorem dX4_init_58 : decode cX4_init 58 = .ok (.return_, 1) := by decide +kernel
theorem dX4_start_0 : decode cX4_start 0 = .ok (.aload_n 0, 1) := by decide +kernel
theorem dX4_start_1 : decode cX4_start 1 = .ok (.iconst 0, 1) := by decide +kernel
theorem dX4_start_2 : decode cX4_start 2 = .ok (.putfield 18, 3) := by decide +kernel
theorem dX4_start_5 : decode cX4_start 5 = .ok (.aload_n 0, 1) := by decide +kernel
theorem dX4_start_6 : decode cX4_start 6 = .ok (.iconst 1, 1) := by decide +kernel
theorem dX4_start_7 : decode cX4_start 7 = .ok (.putfield 22, 3) := by decide +kernel
theorem dX4_start_10 : decode cX4_start 10 = .ok (.return_, 1) := by decide +kernel
theorem dX4_findFault_0 : decode cX4_findFault 0 = .ok (.aload_n 0, 1) := by decide +kernel
theorem dX4_findFault_1 : decode cX4_findFault 1 = .ok (.invokevirtual 46, 3) := by decide +kernel
theorem dX4_findFault_4 : decode cX4_findFault 4 = .ok (.iconst 0, 1) := by decide +kernel
theorem dX4_findFault_5 : decode cX4_findFault 5 = .ok (.istore_n 1, 1) := by decide +kernel
theorem dX4_findFault_6 : decode cX4_findFault 6 = .ok (.iload_n 1, 1) := by decide +kernel
theorem dX4_findFault_7 : decode cX4_findFault 7 = .ok (.bipush 80, 2) := by decide +kernel
theorem dX4_findFault_9 : decode cX4_findFault 9 = .ok (.if_icmp .ge 28, 3) := by decide +kernel
theorem dX4_findFault_12 : decode cX4_findFault 12 = .ok (.aload_n 0, 1) := by decide +kernel
theorem dX4_findFault_13 : decode cX4_findFault 13 = .ok (.getfield 22, 3) := by decide +kernel
theorem dX4_findFault_16 : decode cX4_findFault 16 = .ok (.ifCond .eq 21, 3) := by decide +kernel
theorem dX4_findFault_19 : decode cX4_findFault 19 = .ok (.aload_n 0, 1) := by decide +kernel
theorem dX4_findFault_20 : decode cX4_findFault 20 = .ok (.invokevirtual 49, 3) := by decide +kernel
theorem dX4_findFault_23 : decode cX4_findFault 23 = .ok (.ifCond .ne 8, 3) := by decide +kernel
theorem dX4_findFault_26 : decode cX4_findFault 26 = .ok (.aload_n 0, 1) := by decide +kernel
theorem dX4_findFault_27 : decode cX4_findFault 27 = .ok (.getfield 18, 3) := by decide +kernel
theorem dX4_findFault_30 : decode cX4_findFault 30 = .ok (.ireturn, 1) := by decide +kernel
theorem dX4_findFault_31 : decode cX4_findFault 31 = .ok (.iinc 1 1, 3) := by decide +kernel
theorem dX4_findFault_34 : decode cX4_findFault 34 = .ok (.goto (-28), 3) := by decide +kernel
theorem dX4_findFault_37 : decode cX4_findFault 37 = .ok (.bipush (-6), 2) := by decide +kernel
theorem dX4_findFault_39 : decode cX4_findFault 39 = .ok (.ireturn, 1) := by decide +kernel
theorem dX4_readNext_0 : decode cX4_readNext 0 = .ok (.aload_n 0, 1) := by decide +kernel
theorem dX4_readNext_1 : decode cX4_readNext 1 = .ok (.getfield 22, 3) := by decide +kernel
theorem dX4_readNext_4 : decode cX4_readNext 4 = .ok (.ifCond .eq 10, 3) := by decide +kernel
theorem dX4_readNext_7 : decode cX4_readNext 7 = .ok (.aload_n 0, 1) := by decide +kernel
theorem dX4_readNext_8 : decode cX4_readNext 8 = .ok (.invokevirtual 53, 3) := by decide +kernel
theorem dX4_readNext_11 : decode cX4_readNext 11 = .ok (.ifCond .ne 5, 3) := by decide +kernel
theorem dX4_readNext_14 : decode cX4_readNext 14 = .ok (.iconst 0, 1) := by decide +kernel
theorem dX4_readNext_15 : decode cX4_readNext 15 = .ok (.ireturn, 1) := by decide +kernel
theorem dX4_readNext_16 : decode cX4_readNext 16 = .ok (.aload_n 0, 1) := by decide +kernel
theorem dX4_readNext_17 : decode cX4_readNext 17 = .ok (.aload_n 0, 1) := by decide +kernel
theorem dX4_readNext_18 : decode cX4_readNext 18 = .ok (.bipush 59, 2) := by decide +kernel
theorem dX4_readNext_20 : decode cX4_readNext 20 = .ok (.invokevirtual 56, 3) := by decide +kernel
theorem dX4_readNext_23 : decode cX4_readNext 23 = .ok (.putfield 22, 3) := by decide +kernel
theorem dX4_readNext_26 : decode cX4_readNext 26 = .ok (.aload_n 0, 1) := by decide +kernel
theorem dX4_readNext_27 : decode cX4_readNext 27 = .ok (.getfield 22, 3) := by decide +kernel
theorem dX4_readNext_30 : decode cX4_readNext 30 = .ok (.ifCond .ne 17, 3) := by decide +kernel
theorem dX4_readNext_33 : decode cX4_readNext 33 = .ok (.aload_n 0, 1) := by decide +kernel
theorem dX4_readNext_34 : decode cX4_readNext 34 = .ok (.getfield 18, 3) := by decide +kernel
theorem dX4_readNext_37 : decode cX4_readNext 37 = .ok (.aload_n 0, 1) := by decide +kernel
theorem dX4_readNext_38 : decode cX4_readNext 38 = .ok (.getfield 12, 3) := by decide +kernel
theorem dX4_readNext_41 : decode cX4_readNext 41 = .ok (.getfield 60, 3) := by decide +kernel
theorem dX4_readNext_44 : decode cX4_readNext 44 = .ok (.if_icmp .lt 7, 3) := by decide +kernel
theorem dX4_readNext_47 : decode cX4_readNext 47 = .ok (.iconst 1, 1) := by decide +kernel
theorem dX4_readNext_48 : decode cX4_readNext 48 = .ok (.goto 4, 3) := by decide +kernel
theorem dX4_readNext_51 : decode cX4_readNext 51 = .ok (.iconst 0, 1) := by decide +kernel
theorem dX4_readNext_52 : decode cX4_readNext 52 = .ok (.ireturn, 1) := by decide +kernel
theorem dX4_readOrder_0 : decode cX4_readOrder 0 = .ok (.aload_n 0, 1) := by decide +kernel
theorem dX4_readOrder_1 : decode cX4_readOrder 1 = .ok (.aload_n 0, 1) := by decide +kernel
theorem dX4_readOrder_2 : decode cX4_readOrder 2 = .ok (.getfield 12, 3) := by decide +kernel
theorem dX4_readOrder_5 : decode cX4_readOrder 5 = .ok (.aload_n 0, 1) := by decide +kernel
theorem dX4_readOrder_6 : decode cX4_readOrder 6 = .ok (.getfield 18, 3) := by decide +kernel
theorem dX4_readOrder_9 : decode cX4_readOrder 9 = .ok (.invokevirtual 63, 3) := by decide +kernel
theorem dX4_readOrder_12 : decode cX4_readOrder 12 = .ok (.putfield 26, 3) := by decide +kernel
theorem dX4_readOrder_15 : decode cX4_readOrder 15 = .ok (.aload_n 0, 1) := by decide +kernel
theorem dX4_readOrder_16 : decode cX4_readOrder 16 = .ok (.getfield 26, 3) := by decide +kernel
theorem dX4_readOrder_19 : decode cX4_readOrder 19 = .ok (.tableswitch 181 66 83 #[100, 181, 181, 181, 181, 181, 127, 181, 181, 181, 112, 181, 100, 181, 142, 181, 181, 85], 85) := by decide +kernel
theorem dX4_readOrder_104 : decode cX4_readOrder 104 = .ok (.aload_n 0, 1) := by decide +kernel
theorem dX4_readOrder_105 : decode cX4_readOrder 105 = .ok (.dup, 1) := by decide +kernel
theorem dX4_readOrder_106 : decode cX4_readOrder 106 = .ok (.getfield 18, 3) := by decide +kernel
theorem dX4_readOrder_109 : decode cX4_readOrder 109 = .ok (.iconst 1, 1) := by decide +kernel
theorem dX4_readOrder_110 : decode cX4_readOrder 110 = .ok (.iadd, 1) := by decide +kernel
theorem dX4_readOrder_111 : decode cX4_readOrder 111 = .ok (.putfield 18, 3) := by decide +kernel
theorem dX4_readOrder_114 : decode cX4_readOrder 114 = .ok (.aload_n 0, 1) := by decide +kernel
theorem dX4_readOrder_115 : decode cX4_readOrder 115 = .ok (.invokevirtual 67, 3) := by decide +kernel
theorem dX4_readOrder_118 : decode cX4_readOrder 118 = .ok (.ireturn, 1) := by decide +kernel
theorem dX4_readOrder_119 : decode cX4_readOrder 119 = .ok (.aload_n 0, 1) := by decide +kernel
theorem dX4_readOrder_120 : decode cX4_readOrder 120 = .ok (.dup, 1) := by decide +kernel
theorem dX4_readOrder_121 : decode cX4_readOrder 121 = .ok (.getfield 18, 3) := by decide +kernel
theorem dX4_readOrder_124 : decode cX4_readOrder 124 = .ok (.iconst 1, 1) := by decide +kernel
theorem dX4_readOrder_125 : decode cX4_readOrder 125 = .ok (.iadd, 1) := by decide +kernel
theorem dX4_readOrder_126 : decode cX4_readOrder 126 = .ok (.putfield 18, 3) := by decide +kernel
theorem dX4_readOrder_129 : decode cX4_readOrder 129 = .ok (.iconst 1, 1) := by decide +kernel
theorem dX4_readOrder_130 : decode cX4_readOrder 130 = .ok (.ireturn, 1) := by decide +kernel
theorem dX4_readOrder_131 : decode cX4_readOrder 131 = .ok (.aload_n 0, 1) := by decide +kernel
theorem dX4_readOrder_132 : decode cX4_readOrder 132 = .ok (.dup, 1) := by decide +kernel
theorem dX4_readOrder_133 : decode cX4_readOrder 133 = .ok (.getfield 18, 3) := by decide +kernel
theorem dX4_readOrder_136 : decode cX4_readOrder 136 = .ok (.iconst 1, 1) := by decide +kernel
theorem dX4_readOrder_137 : decode cX4_readOrder 137 = .ok (.iadd, 1) := by decide +kernel
theorem dX4_readOrder_138 : decode cX4_readOrder 138 = .ok (.putfield 18, 3) := by decide +kernel
theorem dX4_readOrder_141 : decode cX4_readOrder 141 = .ok (.aload_n 0, 1) := by decide +kernel
theorem dX4_readOrder_142 : decode cX4_readOrder 142 = .ok (.invokevirtual 70, 3) := by decide +kernel
theorem dX4_readOrder_145 : decode cX4_readOrder 145 = .ok (.ireturn, 1) := by decide +kernel
theorem dX4_readOrder_146 : decode cX4_readOrder 146 = .ok (.aload_n 0, 1) := by decide +kernel
theorem dX4_readOrder_147 : decode cX4_readOrder 147 = .ok (.dup, 1) := by decide +kernel
theorem dX4_readOrder_148 : decode cX4_readOrder 148 = .ok (.getfield 18, 3) := by decide +kernel
theorem dX4_readOrder_151 : decode cX4_readOrder 151 = .ok (.iconst 1, 1) := by decide +kernel
theorem dX4_readOrder_152 : decode cX4_readOrder 152 = .ok (.iadd, 1) := by decide +kernel
theorem dX4_readOrder_153 : decode cX4_readOrder 153 = .ok (.putfield 18, 3) := by decide +kernel
theorem dX4_readOrder_156 : decode cX4_readOrder 156 = .ok (.aload_n 0, 1) := by decide +kernel
theorem dX4_readOrder_157 : decode cX4_readOrder 157 = .ok (.invokevirtual 73, 3) := by decide +kernel
theorem dX4_readOrder_160 : decode cX4_readOrder 160 = .ok (.ireturn, 1) := by decide +kernel
theorem dX4_readOrder_161 : decode cX4_readOrder 161 = .ok (.aload_n 0, 1) := by decide +kernel
theorem dX4_readOrder_162 : decode cX4_readOrder 162 = .ok (.dup, 1) := by decide +kernel
theorem dX4_readOrder_163 : decode cX4_readOrder 163 = .ok (.getfield 18, 3) := by decide +kernel
theorem dX4_readOrder_166 : decode cX4_readOrder 166 = .ok (.iconst 1, 1) := by decide +kernel
theorem dX4_readOrder_167 : decode cX4_readOrder 167 = .ok (.iadd, 1) := by decide +kernel
theorem dX4_readOrder_168 : decode cX4_readOrder 168 = .ok (.putfield 18, 3) := by decide +kernel
theorem dX4_readOrder_171 : decode cX4_readOrder 171 = .ok (.aload_n 0, 1) := by decide +kernel
theorem dX4_readOrder_172 : decode cX4_readOrder 172 = .ok (.invokevirtual 73, 3) := by decide +kernel
theorem dX4_readOrder_175 : decode cX4_readOrder 175 = .ok (.ifCond .eq 23, 3) := by decide +kernel
theorem dX4_readOrder_178 : decode cX4_readOrder 178 = .ok (.aload_n 0, 1) := by decide +kernel
theorem dX4_readOrder_179 : decode cX4_readOrder 179 = .ok (.bipush 42, 2) := by decide +kernel
theorem dX4_readOrder_181 : decode cX4_readOrder 181 = .ok (.invokevirtual 56, 3) := by decide +kernel
theorem dX4_readOrder_184 : decode cX4_readOrder 184 = .ok (.ifCond .eq 14, 3) := by decide +kernel
theorem dX4_readOrder_187 : decode cX4_readOrder 187 = .ok (.aload_n 0, 1) := by decide +kernel
theorem dX4_readOrder_188 : decode cX4_readOrder 188 = .ok (.invokevirtual 76, 3) := by decide +kernel
theorem dX4_readOrder_191 : decode cX4_readOrder 191 = .ok (.ifCond .eq 7, 3) := by decide +kernel
theorem dX4_readOrder_194 : decode cX4_readOrder 194 = .ok (.iconst 1, 1) := by decide +kernel
theorem dX4_readOrder_195 : decode cX4_readOrder 195 = .ok (.goto 4, 3) := by decide +kernel
theorem dX4_readOrder_198 : decode cX4_readOrder 198 = .ok (.iconst 0, 1) := by decide +kernel
theorem dX4_readOrder_199 : decode cX4_readOrder 199 = .ok (.ireturn, 1) := by decide +kernel
theorem dX4_readOrder_200 : decode cX4_readOrder 200 = .ok (.iconst 0, 1) := by decide +kernel
theorem dX4_readOrder_201 : decode cX4_readOrder 201 = .ok (.ireturn, 1) := by decide +kernel
theorem dX4_readBars_0 : decode cX4_readBars 0 = .ok (.aload_n 0, 1) := by decide +kernel
theorem dX4_readBars_1 : decode cX4_readBars 1 = .ok (.iconst 0, 1) := by decide +kernel
theorem dX4_readBars_2 : decode cX4_readBars 2 = .ok (.putfield 43, 3) := by decide +kernel
theorem dX4_readBars_5 : decode cX4_readBars 5 = .ok (.aload_n 0, 1) := by decide +kernel
theorem dX4_readBars_6 : decode cX4_readBars 6 = .ok (.getfield 43, 3) := by decide +kernel
theorem dX4_readBars_9 : decode cX4_readBars 9 = .ok (.bipush 20, 2) := by decide +kernel
theorem dX4_readBars_11 : decode cX4_readBars 11 = .ok (.if_icmp .ge 81, 3) := by decide +kernel
theorem dX4_readBars_14 : decode cX4_readBars 14 = .ok (.aload_n 0, 1) := by decide +kernel
theorem dX4_readBars_15 : decode cX4_readBars 15 = .ok (.getfield 12, 3) := by decide +kernel
theorem dX4_readBars_18 : decode cX4_readBars 18 = .ok (.aload_n 0, 1) := by decide +kernel
theorem dX4_readBars_19 : decode cX4_readBars 19 = .ok (.getfield 18, 3) := by decide +kernel
theorem dX4_readBars_22 : decode cX4_readBars 22 = .ok (.invokevirtual 63, 3) := by decide +kernel
theorem dX4_readBars_25 : decode cX4_readBars 25 = .ok (.bipush 97, 2) := by decide +kernel
theorem dX4_readBars_27 : decode cX4_readBars 27 = .ok (.if_icmp .lt 65, 3) := by decide +kernel
theorem dX4_readBars_30 : decode cX4_readBars 30 = .ok (.aload_n 0, 1) := by decide +kernel
theorem dX4_readBars_31 : decode cX4_readBars 31 = .ok (.getfield 12, 3) := by decide +kernel
theorem dX4_readBars_34 : decode cX4_readBars 34 = .ok (.aload_n 0, 1) := by decide +kernel
theorem dX4_readBars_35 : decode cX4_readBars 35 = .ok (.getfield 18, 3) := by decide +kernel
theorem dX4_readBars_38 : decode cX4_readBars 38 = .ok (.invokevirtual 63, 3) := by decide +kernel
theorem dX4_readBars_41 : decode cX4_readBars 41 = .ok (.bipush 122, 2) := by decide +kernel
theorem dX4_readBars_43 : decode cX4_readBars 43 = .ok (.if_icmp .gt 49, 3) := by decide +kernel
theorem dX4_readBars_46 : decode cX4_readBars 46 = .ok (.aload_n 0, 1) := by decide +kernel
theorem dX4_readBars_47 : decode cX4_readBars 47 = .ok (.getfield 39, 3) := by decide +kernel
theorem dX4_readBars_50 : decode cX4_readBars 50 = .ok (.aload_n 0, 1) := by decide +kernel
theorem dX4_readBars_51 : decode cX4_readBars 51 = .ok (.getfield 43, 3) := by decide +kernel
theorem dX4_readBars_54 : decode cX4_readBars 54 = .ok (.aload_n 0, 1) := by decide +kernel
theorem dX4_readBars_55 : decode cX4_readBars 55 = .ok (.getfield 12, 3) := by decide +kernel
theorem dX4_readBars_58 : decode cX4_readBars 58 = .ok (.aload_n 0, 1) := by decide +kernel
theorem dX4_readBars_59 : decode cX4_readBars 59 = .ok (.getfield 18, 3) := by decide +kernel
theorem dX4_readBars_62 : decode cX4_readBars 62 = .ok (.invokevirtual 63, 3) := by decide +kernel
theorem dX4_readBars_65 : decode cX4_readBars 65 = .ok (.bipush 97, 2) := by decide +kernel
theorem dX4_readBars_67 : decode cX4_readBars 67 = .ok (.isub, 1) := by decide +kernel
theorem dX4_readBars_68 : decode cX4_readBars 68 = .ok (.iastore, 1) := by decide +kernel
theorem dX4_readBars_69 : decode cX4_readBars 69 = .ok (.aload_n 0, 1) := by decide +kernel
theorem dX4_readBars_70 : decode cX4_readBars 70 = .ok (.dup, 1) := by decide +kernel
theorem dX4_readBars_71 : decode cX4_readBars 71 = .ok (.getfield 43, 3) := by decide +kernel
theorem dX4_readBars_74 : decode cX4_readBars 74 = .ok (.iconst 1, 1) := by decide +kernel
theorem dX4_readBars_75 : decode cX4_readBars 75 = .ok (.iadd, 1) := by decide +kernel
theorem dX4_readBars_76 : decode cX4_readBars 76 = .ok (.putfield 43, 3) := by decide +kernel
theorem dX4_readBars_79 : decode cX4_readBars 79 = .ok (.aload_n 0, 1) := by decide +kernel
theorem dX4_readBars_80 : decode cX4_readBars 80 = .ok (.dup, 1) := by decide +kernel
theorem dX4_readBars_81 : decode cX4_readBars 81 = .ok (.getfield 18, 3) := by decide +kernel
theorem dX4_readBars_84 : decode cX4_readBars 84 = .ok (.iconst 1, 1) := by decide +kernel
theorem dX4_readBars_85 : decode cX4_readBars 85 = .ok (.iadd, 1) := by decide +kernel
theorem dX4_readBars_86 : decode cX4_readBars 86 = .ok (.putfield 18, 3) := by decide +kernel
theorem dX4_readBars_89 : decode cX4_readBars 89 = .ok (.goto (-84), 3) := by decide +kernel
theorem dX4_readBars_92 : decode cX4_readBars 92 = .ok (.aload_n 0, 1) := by decide +kernel
theorem dX4_readBars_93 : decode cX4_readBars 93 = .ok (.getfield 43, 3) := by decide +kernel
theorem dX4_readBars_96 : decode cX4_readBars 96 = .ok (.ifCond .le 7, 3) := by decide +kernel
theorem dX4_readBars_99 : decode cX4_readBars 99 = .ok (.iconst 1, 1) := by decide +kernel
theorem dX4_readBars_100 : decode cX4_readBars 100 = .ok (.goto 4, 3) := by decide +kernel
theorem dX4_readBars_103 : decode cX4_readBars 103 = .ok (.iconst 0, 1) := by decide +kernel
theorem dX4_readBars_104 : decode cX4_readBars 104 = .ok (.ireturn, 1) := by decide +kernel
theorem dX4_readLesson_0 : decode cX4_readLesson 0 = .ok (.aload_n 0, 1) := by decide +kernel
theorem dX4_readLesson_1 : decode cX4_readLesson 1 = .ok (.invokevirtual 73, 3) := by decide +kernel
theorem dX4_readLesson_4 : decode cX4_readLesson 4 = .ok (.ifCond .eq 19, 3) := by decide +kernel
theorem dX4_readLesson_7 : decode cX4_readLesson 7 = .ok (.aload_n 0, 1) := by decide +kernel
theorem dX4_readLesson_8 : decode cX4_readLesson 8 = .ok (.bipush 46, 2) := by decide +kernel
theorem dX4_readLesson_10 : decode cX4_readLesson 10 = .ok (.invokevirtual 56, 3) := by decide +kernel
theorem dX4_readLesson_13 : decode cX4_readLesson 13 = .ok (.ifCond .eq 10, 3) := by decide +kernel
theorem dX4_readLesson_16 : decode cX4_readLesson 16 = .ok (.aload_n 0, 1) := by decide +kernel
theorem dX4_readLesson_17 : decode cX4_readLesson 17 = .ok (.invokevirtual 79, 3) := by decide +kernel
theorem dX4_readLesson_20 : decode cX4_readLesson 20 = .ok (.ifCond .ne 5, 3) := by decide +kernel
theorem dX4_readLesson_23 : decode cX4_readLesson 23 = .ok (.iconst 0, 1) := by decide +kernel
theorem dX4_readLesson_24 : decode cX4_readLesson 24 = .ok (.ireturn, 1) := by decide +kernel
theorem dX4_readLesson_25 : decode cX4_readLesson 25 = .ok (.aload_n 0, 1) := by decide +kernel
theorem dX4_readLesson_26 : decode cX4_readLesson 26 = .ok (.aload_n 0, 1) := by decide +kernel
theorem dX4_readLesson_27 : decode cX4_readLesson 27 = .ok (.invokevirtual 82, 3) := by decide +kernel
theorem dX4_readLesson_30 : decode cX4_readLesson 30 = .ok (.putfield 33, 3) := by decide +kernel
theorem dX4_readLesson_33 : decode cX4_readLesson 33 = .ok (.aload_n 0, 1) := by decide +kernel
theorem dX4_readLesson_34 : decode cX4_readLesson 34 = .ok (.iconst 0, 1) := by decide +kernel
theorem dX4_readLesson_35 : decode cX4_readLesson 35 = .ok (.putfield 36, 3) := by decide +kernel
theorem dX4_readLesson_38 : decode cX4_readLesson 38 = .ok (.aload_n 0, 1) := by decide +kernel
theorem dX4_readLesson_39 : decode cX4_readLesson 39 = .ok (.bipush 47, 2) := by decide +kernel
theorem dX4_readLesson_41 : decode cX4_readLesson 41 = .ok (.invokevirtual 56, 3) := by decide +kernel
theorem dX4_readLesson_44 : decode cX4_readLesson 44 = .ok (.ifCond .eq 10, 3) := by decide +kernel
theorem dX4_readLesson_47 : decode cX4_readLesson 47 = .ok (.aload_n 0, 1) := by decide +kernel
theorem dX4_readLesson_48 : decode cX4_readLesson 48 = .ok (.invokevirtual 76, 3) := by decide +kernel
theorem dX4_readLesson_51 : decode cX4_readLesson 51 = .ok (.ifCond .eq 7, 3) := by decide +kernel
theorem dX4_readLesson_54 : decode cX4_readLesson 54 = .ok (.iconst 1, 1) := by decide +kernel
theorem dX4_readLesson_55 : decode cX4_readLesson 55 = .ok (.goto 4, 3) := by decide +kernel
theorem dX4_readLesson_58 : decode cX4_readLesson 58 = .ok (.iconst 0, 1) := by decide +kernel
theorem dX4_readLesson_59 : decode cX4_readLesson 59 = .ok (.ireturn, 1) := by decide +kernel
theorem dX4_readParrot_0 : decode cX4_readParrot 0 = .ok (.aload_n 0, 1) := by decide +kernel
theorem dX4_readParrot_1 : decode cX4_readParrot 1 = .ok (.invokevirtual 79, 3) := by decide +kernel
theorem dX4_readParrot_4 : decode cX4_readParrot 4 = .ok (.ifCond .ne 5, 3) := by decide +kernel
theorem dX4_readParrot_7 : decode cX4_readParrot 7 = .ok (.iconst 0, 1) := by decide +kernel
theorem dX4_readParrot_8 : decode cX4_readParrot 8 = .ok (.ireturn, 1) := by decide +kernel
theorem dX4_readParrot_9 : decode cX4_readParrot 9 = .ok (.aload_n 0, 1) := by decide +kernel
theorem dX4_readParrot_10 : decode cX4_readParrot 10 = .ok (.aload_n 0, 1) := by decide +kernel
theorem dX4_readParrot_11 : decode cX4_readParrot 11 = .ok (.invokevirtual 82, 3) := by decide +kernel
theorem dX4_readParrot_14 : decode cX4_readParrot 14 = .ok (.putfield 30, 3) := by decide +kernel
theorem dX4_readParrot_17 : decode cX4_readParrot 17 = .ok (.iconst 1, 1) := by decide +kernel
theorem dX4_readParrot_18 : decode cX4_readParrot 18 = .ok (.ireturn, 1) := by decide +kernel
theorem dX4_readNumber_0 : decode cX4_readNumber 0 = .ok (.aload_n 0, 1) := by decide +kernel
theorem dX4_readNumber_1 : decode cX4_readNumber 1 = .ok (.invokevirtual 79, 3) := by decide +kernel
theorem dX4_readNumber_4 : decode cX4_readNumber 4 = .ok (.ifCond .ne 5, 3) := by decide +kernel
theorem dX4_readNumber_7 : decode cX4_readNumber 7 = .ok (.iconst 0, 1) := by decide +kernel
theorem dX4_readNumber_8 : decode cX4_readNumber 8 = .ok (.ireturn, 1) := by decide +kernel
theorem dX4_readNumber_9 : decode cX4_readNumber 9 = .ok (.aload_n 0, 1) := by decide +kernel
theorem dX4_readNumber_10 : decode cX4_readNumber 10 = .ok (.aload_n 0, 1) := by decide +kernel
theorem dX4_readNumber_11 : decode cX4_readNumber 11 = .ok (.invokevirtual 82, 3) := by decide +kernel
theorem dX4_readNumber_14 : decode cX4_readNumber 14 = .ok (.putfield 36, 3) := by decide +kernel
theorem dX4_readNumber_17 : decode cX4_readNumber 17 = .ok (.aload_n 0, 1) := by decide +kernel
theorem dX4_readNumber_18 : decode cX4_readNumber 18 = .ok (.getfield 36, 3) := by decide +kernel
theorem dX4_readNumber_21 : decode cX4_readNumber 21 = .ok (.ifCond .le 26, 3) := by decide +kernel
theorem dX4_readNumber_24 : decode cX4_readNumber 24 = .ok (.aload_n 0, 1) := by decide +kernel
theorem dX4_readNumber_25 : decode cX4_readNumber 25 = .ok (.invokevirtual 79, 3) := by decide +kernel
theorem dX4_readNumber_28 : decode cX4_readNumber 28 = .ok (.ifCond .eq 19, 3) := by decide +kernel
theorem dX4_readNumber_31 : decode cX4_readNumber 31 = .ok (.aload_n 0, 1) := by decide +kernel
theorem dX4_readNumber_32 : decode cX4_readNumber 32 = .ok (.bipush 10, 2) := by decide +kernel
theorem dX4_readNumber_34 : decode cX4_readNumber 34 = .ok (.aload_n 0, 1) := by decide +kernel
theorem dX4_readNumber_35 : decode cX4_readNumber 35 = .ok (.getfield 36, 3) := by decide +kernel
theorem dX4_readNumber_38 : decode cX4_readNumber 38 = .ok (.imul, 1) := by decide +kernel
theorem dX4_readNumber_39 : decode cX4_readNumber 39 = .ok (.aload_n 0, 1) := by decide +kernel
theorem dX4_readNumber_40 : decode cX4_readNumber 40 = .ok (.invokevirtual 82, 3) := by decide +kernel
theorem dX4_readNumber_43 : decode cX4_readNumber 43 = .ok (.iadd, 1) := by decide +kernel
theorem dX4_readNumber_44 : decode cX4_readNumber 44 = .ok (.putfield 36, 3) := by decide +kernel
theorem dX4_readNumber_47 : decode cX4_readNumber 47 = .ok (.iconst 1, 1) := by decide +kernel
theorem dX4_readNumber_48 : decode cX4_readNumber 48 = .ok (.ireturn, 1) := by decide +kernel
theorem dX4_isDigit_0 : decode cX4_isDigit 0 = .ok (.aload_n 0, 1) := by decide +kernel
theorem dX4_isDigit_1 : decode cX4_isDigit 1 = .ok (.getfield 12, 3) := by decide +kernel
theorem dX4_isDigit_4 : decode cX4_isDigit 4 = .ok (.aload_n 0, 1) := by decide +kernel
theorem dX4_isDigit_5 : decode cX4_isDigit 5 = .ok (.getfield 18, 3) := by decide +kernel
theorem dX4_isDigit_8 : decode cX4_isDigit 8 = .ok (.invokevirtual 63, 3) := by decide +kernel
theorem dX4_isDigit_11 : decode cX4_isDigit 11 = .ok (.bipush 48, 2) := by decide +kernel
theorem dX4_isDigit_13 : decode cX4_isDigit 13 = .ok (.if_icmp .lt 23, 3) := by decide +kernel
theorem dX4_isDigit_16 : decode cX4_isDigit 16 = .ok (.aload_n 0, 1) := by decide +kernel
theorem dX4_isDigit_17 : decode cX4_isDigit 17 = .ok (.getfield 12, 3) := by decide +kernel
theorem dX4_isDigit_20 : decode cX4_isDigit 20 = .ok (.aload_n 0, 1) := by decide +kernel
theorem dX4_isDigit_21 : decode cX4_isDigit 21 = .ok (.getfield 18, 3) := by decide +kernel
theorem dX4_isDigit_24 : decode cX4_isDigit 24 = .ok (.invokevirtual 63, 3) := by decide +kernel
theorem dX4_isDigit_27 : decode cX4_isDigit 27 = .ok (.bipush 57, 2) := by decide +kernel
theorem dX4_isDigit_29 : decode cX4_isDigit 29 = .ok (.if_icmp .gt 7, 3) := by decide +kernel
theorem dX4_isDigit_32 : decode cX4_isDigit 32 = .ok (.iconst 1, 1) := by decide +kernel
theorem dX4_isDigit_33 : decode cX4_isDigit 33 = .ok (.goto 4, 3) := by decide +kernel
theorem dX4_isDigit_36 : decode cX4_isDigit 36 = .ok (.iconst 0, 1) := by decide +kernel
theorem dX4_isDigit_37 : decode cX4_isDigit 37 = .ok (.ireturn, 1) := by decide +kernel
theorem dX4_takeDigit_0 : decode cX4_takeDigit 0 = .ok (.aload_n 0, 1) := by decide +kernel
theorem dX4_takeDigit_1 : decode cX4_takeDigit 1 = .ok (.getfield 12, 3) := by decide +kernel
theorem dX4_takeDigit_4 : decode cX4_takeDigit 4 = .ok (.aload_n 0, 1) := by decide +kernel
theorem dX4_takeDigit_5 : decode cX4_takeDigit 5 = .ok (.getfield 18, 3) := by decide +kernel
theorem dX4_takeDigit_8 : decode cX4_takeDigit 8 = .ok (.invokevirtual 63, 3) := by decide +kernel
theorem dX4_takeDigit_11 : decode cX4_takeDigit 11 = .ok (.bipush 48, 2) := by decide +kernel
theorem dX4_takeDigit_13 : decode cX4_takeDigit 13 = .ok (.isub, 1) := by decide +kernel
theorem dX4_takeDigit_14 : decode cX4_takeDigit 14 = .ok (.istore_n 1, 1) := by decide +kernel
theorem dX4_takeDigit_15 : decode cX4_takeDigit 15 = .ok (.aload_n 0, 1) := by decide +kernel
theorem dX4_takeDigit_16 : decode cX4_takeDigit 16 = .ok (.dup, 1) := by decide +kernel
theorem dX4_takeDigit_17 : decode cX4_takeDigit 17 = .ok (.getfield 18, 3) := by decide +kernel
theorem dX4_takeDigit_20 : decode cX4_takeDigit 20 = .ok (.iconst 1, 1) := by decide +kernel
theorem dX4_takeDigit_21 : decode cX4_takeDigit 21 = .ok (.iadd, 1) := by decide +kernel
theorem dX4_takeDigit_22 : decode cX4_takeDigit 22 = .ok (.putfield 18, 3) := by decide +kernel
theorem dX4_takeDigit_25 : decode cX4_takeDigit 25 = .ok (.iload_n 1, 1) := by decide +kernel
theorem dX4_takeDigit_26 : decode cX4_takeDigit 26 = .ok (.ireturn, 1) := by decide +kernel
theorem dX4_take_0 : decode cX4_take 0 = .ok (.aload_n 0, 1) := by decide +kernel
theorem dX4_take_1 : decode cX4_take 1 = .ok (.getfield 12, 3) := by decide +kernel
theorem dX4_take_4 : decode cX4_take 4 = .ok (.aload_n 0, 1) := by decide +kernel
theorem dX4_take_5 : decode cX4_take 5 = .ok (.getfield 18, 3) := by decide +kernel
theorem dX4_take_8 : decode cX4_take 8 = .ok (.invokevirtual 63, 3) := by decide +kernel
theorem dX4_take_11 : decode cX4_take 11 = .ok (.iload_n 1, 1) := by decide +kernel
theorem dX4_take_12 : decode cX4_take 12 = .ok (.if_icmp .eq 5, 3) := by decide +kernel
theorem dX4_take_15 : decode cX4_take 15 = .ok (.iconst 0, 1) := by decide +kernel
theorem dX4_take_16 : decode cX4_take 16 = .ok (.ireturn, 1) := by decide +kernel
theorem dX4_take_17 : decode cX4_take 17 = .ok (.aload_n 0, 1) := by decide +kernel
theorem dX4_take_18 : decode cX4_take 18 = .ok (.dup, 1) := by decide +kernel
theorem dX4_take_19 : decode cX4_take 19 = .ok (.getfield 18, 3) := by decide +kernel
theorem dX4_take_22 : decode cX4_take 22 = .ok (.iconst 1, 1) := by decide +kernel
theorem dX4_take_23 : decode cX4_take 23 = .ok (.iadd, 1) := by decide +kernel
theorem dX4_take_24 : decode cX4_take 24 = .ok (.putfield 18, 3) := by decide +kernel
theorem dX4_take_27 : decode cX4_take 27 = .ok (.iconst 1, 1) := by decide +kernel
theorem dX4_take_28 : decode cX4_take 28 = .ok (.ireturn, 1) := by decide +kernel
theorem dX5_init_0 : decode cX5_init 0 = .ok (.aload_n 0, 1) := by decide +kernel
theorem dX5_init_1 : decode cX5_init 1 = .ok (.invokespecial 3, 3) := by decide +kernel
theorem dX5_init_4 : decode cX5_init 4 = .ok (.aload_n 0, 1) := by decide +kernel
theorem dX5_init_5 : decode cX5_init 5 = .ok (.bipush 8, 2) := by decide +kernel
theorem dX5_init_7 : decode cX5_init 7 = .ok (.bipush 20, 2) := by decide +kernel
theorem dX5_init_9 : decode cX5_init 9 = .ok (.multianewarray 9 2, 4) := by decide +kernel
theorem dX5_init_13 : decode cX5_init 13 = .ok (.putfield 11, 3) := by decide +kernel
theorem dX5_init_16 : decode cX5_init 16 = .ok (.aload_n 0, 1) := by decide +kernel
theorem dX5_init_17 : decode cX5_init 17 = .ok (.bipush 8, 2) := by decide +kernel
theorem dX5_init_19 : decode cX5_init 19 = .ok (.newarray .int, 2) := by decide +kernel
theorem dX5_init_21 : decode cX5_init 21 = .ok (.putfield 16, 3) := by decide +kernel
theorem dX5_init_24 : decode cX5_init 24 = .ok (.aload_n 0, 1) := by decide +kernel
theorem dX5_init_25 : decode cX5_init 25 = .ok (.bipush 8, 2) := by decide +kernel
theorem dX5_init_27 : decode cX5_init 27 = .ok (.newarray .int, 2) := by decide +kernel
theorem dX5_init_29 : decode cX5_init 29 = .ok (.putfield 20, 3) := by decide +kernel
theorem dX5_init_32 : decode cX5_init 32 = .ok (.aload_n 0, 1) := by decide +kernel
theorem dX5_init_33 : decode cX5_init 33 = .ok (.iconst 0, 1) := by decide +kernel
theorem dX5_init_34 : decode cX5_init 34 = .ok (.putfield 23, 3) := by decide +kernel
theorem dX5_init_37 : decode cX5_init 37 = .ok (.return_, 1) := by decide +kernel
theorem dX5_copyFrom_0 : decode cX5_copyFrom 0 = .ok (.iconst 0, 1) := by decide +kernel
theorem dX5_copyFrom_1 : decode cX5_copyFrom 1 = .ok (.istore_n 2, 1) := by decide +kernel
theorem dX5_copyFrom_2 : decode cX5_copyFrom 2 = .ok (.iload_n 2, 1) := by decide +kernel
theorem dX5_copyFrom_3 : decode cX5_copyFrom 3 = .ok (.bipush 8, 2) := by decide +kernel
theorem dX5_copyFrom_5 : decode cX5_copyFrom 5 = .ok (.if_icmp .ge 28, 3) := by decide +kernel
theorem dX5_copyFrom_8 : decode cX5_copyFrom 8 = .ok (.aload_n 1, 1) := by decide +kernel
theorem dX5_copyFrom_9 : decode cX5_copyFrom 9 = .ok (.getfield 11, 3) := by decide +kernel
theorem dX5_copyFrom_12 : decode cX5_copyFrom 12 = .ok (.iload_n 2, 1) := by decide +kernel
theorem dX5_copyFrom_13 : decode cX5_copyFrom 13 = .ok (.aaload, 1) := by decide +kernel
theorem dX5_copyFrom_14 : decode cX5_copyFrom 14 = .ok (.iconst 0, 1) := by decide +kernel
theorem dX5_copyFrom_15 : decode cX5_copyFrom 15 = .ok (.aload_n 0, 1) := by decide +kernel
theorem dX5_copyFrom_16 : decode cX5_copyFrom 16 = .ok (.getfield 11, 3) := by decide +kernel
theorem dX5_copyFrom_19 : decode cX5_copyFrom 19 = .ok (.iload_n 2, 1) := by decide +kernel
theorem dX5_copyFrom_20 : decode cX5_copyFrom 20 = .ok (.aaload, 1) := by decide +kernel
theorem dX5_copyFrom_21 : decode cX5_copyFrom 21 = .ok (.iconst 0, 1) := by decide +kernel
theorem dX5_copyFrom_22 : decode cX5_copyFrom 22 = .ok (.bipush 20, 2) := by decide +kernel
theorem dX5_copyFrom_24 : decode cX5_copyFrom 24 = .ok (.invokestatic 27, 3) := by decide +kernel
theorem dX5_copyFrom_27 : decode cX5_copyFrom 27 = .ok (.iinc 2 1, 3) := by decide +kernel
theorem dX5_copyFrom_30 : decode cX5_copyFrom 30 = .ok (.goto (-28), 3) := by decide +kernel
theorem dX5_copyFrom_33 : decode cX5_copyFrom 33 = .ok (.aload_n 1, 1) := by decide +kernel
theorem dX5_copyFrom_34 : decode cX5_copyFrom 34 = .ok (.getfield 16, 3) := by decide +kernel
theorem dX5_copyFrom_37 : decode cX5_copyFrom 37 = .ok (.iconst 0, 1) := by decide +kernel
theorem dX5_copyFrom_38 : decode cX5_copyFrom 38 = .ok (.aload_n 0, 1) := by decide +kernel
theorem dX5_copyFrom_39 : decode cX5_copyFrom 39 = .ok (.getfield 16, 3) := by decide +kernel
theorem dX5_copyFrom_42 : decode cX5_copyFrom 42 = .ok (.iconst 0, 1) := by decide +kernel
theorem dX5_copyFrom_43 : decode cX5_copyFrom 43 = .ok (.bipush 8, 2) := by decide +kernel
theorem dX5_copyFrom_45 : decode cX5_copyFrom 45 = .ok (.invokestatic 27, 3) := by decide +kernel
theorem dX5_copyFrom_48 : decode cX5_copyFrom 48 = .ok (.aload_n 1, 1) := by decide +kernel
theorem dX5_copyFrom_49 : decode cX5_copyFrom 49 = .ok (.getfield 20, 3) := by decide +kernel
theorem dX5_copyFrom_52 : decode cX5_copyFrom 52 = .ok (.iconst 0, 1) := by decide +kernel
theorem dX5_copyFrom_53 : decode cX5_copyFrom 53 = .ok (.aload_n 0, 1) := by decide +kernel
theorem dX5_copyFrom_54 : decode cX5_copyFrom 54 = .ok (.getfield 20, 3) := by decide +kernel
theorem dX5_copyFrom_57 : decode cX5_copyFrom 57 = .ok (.iconst 0, 1) := by decide +kernel
theorem dX5_copyFrom_58 : decode cX5_copyFrom 58 = .ok (.bipush 8, 2) := by decide +kernel
theorem dX5_copyFrom_60 : decode cX5_copyFrom 60 = .ok (.invokestatic 27, 3) := by decide +kernel
theorem dX5_copyFrom_63 : decode cX5_copyFrom 63 = .ok (.aload_n 0, 1) := by decide +kernel
theorem dX5_copyFrom_64 : decode cX5_copyFrom 64 = .ok (.aload_n 1, 1) := by decide +kernel
theorem dX5_copyFrom_65 : decode cX5_copyFrom 65 = .ok (.getfield 23, 3) := by decide +kernel
theorem dX5_copyFrom_68 : decode cX5_copyFrom 68 = .ok (.putfield 23, 3) := by decide +kernel
theorem dX5_copyFrom_71 : decode cX5_copyFrom 71 = .ok (.return_, 1) := by decide +kernel
theorem dX5_add_0 : decode cX5_add 0 = .ok (.aload_n 0, 1) := by decide +kernel
theorem dX5_add_1 : decode cX5_add 1 = .ok (.getfield 23, 3) := by decide +kernel
theorem dX5_add_4 : decode cX5_add 4 = .ok (.bipush 8, 2) := by decide +kernel
theorem dX5_add_6 : decode cX5_add 6 = .ok (.if_icmp .lt 6, 3) := by decide +kernel
theorem dX5_add_9 : decode cX5_add 9 = .ok (.bipush (-4), 2) := by decide +kernel
theorem dX5_add_11 : decode cX5_add 11 = .ok (.ireturn, 1) := by decide +kernel
theorem dX5_add_12 : decode cX5_add 12 = .ok (.iconst 0, 1) := by decide +kernel
theorem dX5_add_13 : decode cX5_add 13 = .ok (.iload_n 2, 1) := by decide +kernel
theorem dX5_add_14 : decode cX5_add 14 = .ok (.aload_n 1, 1) := by decide +kernel
theorem dX5_add_15 : decode cX5_add 15 = .ok (.arraylength, 1) := by decide +kernel
theorem dX5_add_16 : decode cX5_add 16 = .ok (.bipush 20, 2) := by decide +kernel
theorem dX5_add_18 : decode cX5_add 18 = .ok (.invokestatic 33, 3) := by decide +kernel
