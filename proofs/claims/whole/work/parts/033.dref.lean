theorem dX7_thrown_0 : decode cX7_thrown 0 = .ok (.aload_n 0, 1) := by decide +kernel
theorem dX7_thrown_1 : decode cX7_thrown 1 = .ok (.getfield 156, 3) := by decide +kernel
theorem dX7_thrown_4 : decode cX7_thrown 4 = .ok (.ireturn, 1) := by decide +kernel
theorem dX7_fails_0 : decode cX7_fails 0 = .ok (.aload_n 0, 1) := by decide +kernel
theorem dX7_fails_1 : decode cX7_fails 1 = .ok (.iload_n 1, 1) := by decide +kernel
theorem dX7_fails_2 : decode cX7_fails 2 = .ok (.putfield 156, 3) := by decide +kernel
theorem dX7_fails_5 : decode cX7_fails 5 = .ok (.iload_n 1, 1) := by decide +kernel
theorem dX7_fails_6 : decode cX7_fails 6 = .ok (.ifCond .le 7, 3) := by decide +kernel
theorem dX7_fails_9 : decode cX7_fails 9 = .ok (.iconst 1, 1) := by decide +kernel
theorem dX7_fails_10 : decode cX7_fails 10 = .ok (.goto 4, 3) := by decide +kernel
theorem dX7_fails_13 : decode cX7_fails 13 = .ok (.iconst 0, 1) := by decide +kernel
theorem dX7_fails_14 : decode cX7_fails 14 = .ok (.ireturn, 1) := by decide +kernel
theorem dX7_isIn_0 : decode cX7_isIn 0 = .ok (.iload_n 0, 1) := by decide +kernel
theorem dX7_isIn_1 : decode cX7_isIn 1 = .ok (.iload_n 1, 1) := by decide +kernel
theorem dX7_isIn_2 : decode cX7_isIn 2 = .ok (.if_icmp .lt 12, 3) := by decide +kernel
theorem dX7_isIn_5 : decode cX7_isIn 5 = .ok (.iload_n 0, 1) := by decide +kernel
theorem dX7_isIn_6 : decode cX7_isIn 6 = .ok (.iload_n 2, 1) := by decide +kernel
theorem dX7_isIn_7 : decode cX7_isIn 7 = .ok (.if_icmp .gt 7, 3) := by decide +kernel
theorem dX7_isIn_10 : decode cX7_isIn 10 = .ok (.iconst 1, 1) := by decide +kernel
theorem dX7_isIn_11 : decode cX7_isIn 11 = .ok (.goto 4, 3) := by decide +kernel
theorem dX7_isIn_14 : decode cX7_isIn 14 = .ok (.iconst 0, 1) := by decide +kernel
theorem dX7_isIn_15 : decode cX7_isIn 15 = .ok (.ireturn, 1) := by decide +kernel
theorem dX7_isName_0 : decode cX7_isName 0 = .ok (.iload_n 0, 1) := by decide +kernel
theorem dX7_isName_1 : decode cX7_isName 1 = .ok (.iconst 0, 1) := by decide +kernel
theorem dX7_isName_2 : decode cX7_isName 2 = .ok (.bipush 9, 2) := by decide +kernel
theorem dX7_isName_4 : decode cX7_isName 4 = .ok (.invokestatic 159, 3) := by decide +kernel
theorem dX7_isName_7 : decode cX7_isName 7 = .ok (.ireturn, 1) := by decide +kernel
theorem dX7_isNumber_0 : decode cX7_isNumber 0 = .ok (.iload_n 0, 1) := by decide +kernel
theorem dX7_isNumber_1 : decode cX7_isNumber 1 = .ok (.sipush (-10000), 3) := by decide +kernel
theorem dX7_isNumber_4 : decode cX7_isNumber 4 = .ok (.sipush 10000, 3) := by decide +kernel
theorem dX7_isNumber_7 : decode cX7_isNumber 7 = .ok (.invokestatic 159, 3) := by decide +kernel
theorem dX7_isNumber_10 : decode cX7_isNumber 10 = .ok (.ireturn, 1) := by decide +kernel
theorem dX7_isType_0 : decode cX7_isType 0 = .ok (.iload_n 1, 1) := by decide +kernel
theorem dX7_isType_1 : decode cX7_isType 1 = .ok (.iconst 0, 1) := by decide +kernel
theorem dX7_isType_2 : decode cX7_isType 2 = .ok (.aload_n 0, 1) := by decide +kernel
theorem dX7_isType_3 : decode cX7_isType 3 = .ok (.getfield 7, 3) := by decide +kernel
theorem dX7_isType_6 : decode cX7_isType 6 = .ok (.iconst 1, 1) := by decide +kernel
theorem dX7_isType_7 : decode cX7_isType 7 = .ok (.isub, 1) := by decide +kernel
theorem dX7_isType_8 : decode cX7_isType 8 = .ok (.invokestatic 159, 3) := by decide +kernel
theorem dX7_isType_11 : decode cX7_isType 11 = .ok (.ireturn, 1) := by decide +kernel
theorem dX7_findsArrow_0 : decode cX7_findsArrow 0 = .ok (.iconst (-1), 1) := by decide +kernel
theorem dX7_findsArrow_1 : decode cX7_findsArrow 1 = .ok (.istore_n 3, 1) := by decide +kernel
theorem dX7_findsArrow_2 : decode cX7_findsArrow 2 = .ok (.iconst 0, 1) := by decide +kernel
theorem dX7_findsArrow_3 : decode cX7_findsArrow 3 = .ok (.istore 4, 2) := by decide +kernel
theorem dX7_findsArrow_5 : decode cX7_findsArrow 5 = .ok (.iload 4, 2) := by decide +kernel
theorem dX7_findsArrow_7 : decode cX7_findsArrow 7 = .ok (.aload_n 0, 1) := by decide +kernel
theorem dX7_findsArrow_8 : decode cX7_findsArrow 8 = .ok (.getfield 7, 3) := by decide +kernel
theorem dX7_findsArrow_11 : decode cX7_findsArrow 11 = .ok (.if_icmp .ge 49, 3) := by decide +kernel
theorem dX7_findsArrow_14 : decode cX7_findsArrow 14 = .ok (.aload_n 0, 1) := by decide +kernel
theorem dX7_findsArrow_15 : decode cX7_findsArrow 15 = .ok (.getfield 13, 3) := by decide +kernel
theorem dX7_findsArrow_18 : decode cX7_findsArrow 18 = .ok (.iload 4, 2) := by decide +kernel
theorem dX7_findsArrow_20 : decode cX7_findsArrow 20 = .ok (.iaload, 1) := by decide +kernel
theorem dX7_findsArrow_21 : decode cX7_findsArrow 21 = .ok (.iconst 2, 1) := by decide +kernel
theorem dX7_findsArrow_22 : decode cX7_findsArrow 22 = .ok (.if_icmp .ne 30, 3) := by decide +kernel
theorem dX7_findsArrow_25 : decode cX7_findsArrow 25 = .ok (.aload_n 0, 1) := by decide +kernel
theorem dX7_findsArrow_26 : decode cX7_findsArrow 26 = .ok (.getfield 17, 3) := by decide +kernel
theorem dX7_findsArrow_29 : decode cX7_findsArrow 29 = .ok (.iload 4, 2) := by decide +kernel
theorem dX7_findsArrow_31 : decode cX7_findsArrow 31 = .ok (.iaload, 1) := by decide +kernel
theorem dX7_findsArrow_32 : decode cX7_findsArrow 32 = .ok (.iload_n 1, 1) := by decide +kernel
theorem dX7_findsArrow_33 : decode cX7_findsArrow 33 = .ok (.if_icmp .ne 19, 3) := by decide +kernel
theorem dX7_findsArrow_36 : decode cX7_findsArrow 36 = .ok (.aload_n 0, 1) := by decide +kernel
theorem dX7_findsArrow_37 : decode cX7_findsArrow 37 = .ok (.getfield 20, 3) := by decide +kernel
theorem dX7_findsArrow_40 : decode cX7_findsArrow 40 = .ok (.iload 4, 2) := by decide +kernel
theorem dX7_findsArrow_42 : decode cX7_findsArrow 42 = .ok (.iaload, 1) := by decide +kernel
theorem dX7_findsArrow_43 : decode cX7_findsArrow 43 = .ok (.iload_n 2, 1) := by decide +kernel
theorem dX7_findsArrow_44 : decode cX7_findsArrow 44 = .ok (.if_icmp .ne 8, 3) := by decide +kernel
theorem dX7_findsArrow_47 : decode cX7_findsArrow 47 = .ok (.iload 4, 2) := by decide +kernel
theorem dX7_findsArrow_49 : decode cX7_findsArrow 49 = .ok (.goto 4, 3) := by decide +kernel
theorem dX7_findsArrow_52 : decode cX7_findsArrow 52 = .ok (.iload_n 3, 1) := by decide +kernel
theorem dX7_findsArrow_53 : decode cX7_findsArrow 53 = .ok (.istore_n 3, 1) := by decide +kernel
theorem dX7_findsArrow_54 : decode cX7_findsArrow 54 = .ok (.iinc 4 1, 3) := by decide +kernel
theorem dX7_findsArrow_57 : decode cX7_findsArrow 57 = .ok (.goto (-52), 3) := by decide +kernel
theorem dX7_findsArrow_60 : decode cX7_findsArrow 60 = .ok (.iload_n 3, 1) := by decide +kernel
theorem dX7_findsArrow_61 : decode cX7_findsArrow 61 = .ok (.ireturn, 1) := by decide +kernel
theorem dX7_makesType_0 : decode cX7_makesType 0 = .ok (.aload_n 0, 1) := by decide +kernel
theorem dX7_makesType_1 : decode cX7_makesType 1 = .ok (.getfield 13, 3) := by decide +kernel
theorem dX7_makesType_4 : decode cX7_makesType 4 = .ok (.aload_n 0, 1) := by decide +kernel
theorem dX7_makesType_5 : decode cX7_makesType 5 = .ok (.getfield 7, 3) := by decide +kernel
theorem dX7_makesType_8 : decode cX7_makesType 8 = .ok (.iload_n 1, 1) := by decide +kernel
theorem dX7_makesType_9 : decode cX7_makesType 9 = .ok (.iastore, 1) := by decide +kernel
theorem dX7_makesType_10 : decode cX7_makesType 10 = .ok (.aload_n 0, 1) := by decide +kernel
theorem dX7_makesType_11 : decode cX7_makesType 11 = .ok (.getfield 17, 3) := by decide +kernel
theorem dX7_makesType_14 : decode cX7_makesType 14 = .ok (.aload_n 0, 1) := by decide +kernel
theorem dX7_makesType_15 : decode cX7_makesType 15 = .ok (.getfield 7, 3) := by decide +kernel
theorem dX7_makesType_18 : decode cX7_makesType 18 = .ok (.iload_n 2, 1) := by decide +kernel
theorem dX7_makesType_19 : decode cX7_makesType 19 = .ok (.iastore, 1) := by decide +kernel
theorem dX7_makesType_20 : decode cX7_makesType 20 = .ok (.aload_n 0, 1) := by decide +kernel
theorem dX7_makesType_21 : decode cX7_makesType 21 = .ok (.getfield 20, 3) := by decide +kernel
theorem dX7_makesType_24 : decode cX7_makesType 24 = .ok (.aload_n 0, 1) := by decide +kernel
theorem dX7_makesType_25 : decode cX7_makesType 25 = .ok (.getfield 7, 3) := by decide +kernel
theorem dX7_makesType_28 : decode cX7_makesType 28 = .ok (.iload_n 3, 1) := by decide +kernel
theorem dX7_makesType_29 : decode cX7_makesType 29 = .ok (.iastore, 1) := by decide +kernel
theorem dX7_makesType_30 : decode cX7_makesType 30 = .ok (.aload_n 0, 1) := by decide +kernel
theorem dX7_makesType_31 : decode cX7_makesType 31 = .ok (.dup, 1) := by decide +kernel
theorem dX7_makesType_32 : decode cX7_makesType 32 = .ok (.getfield 7, 3) := by decide +kernel
theorem dX7_makesType_35 : decode cX7_makesType 35 = .ok (.iconst 1, 1) := by decide +kernel
theorem dX7_makesType_36 : decode cX7_makesType 36 = .ok (.iadd, 1) := by decide +kernel
theorem dX7_makesType_37 : decode cX7_makesType 37 = .ok (.putfield 7, 3) := by decide +kernel
theorem dX7_makesType_40 : decode cX7_makesType 40 = .ok (.aload_n 0, 1) := by decide +kernel
theorem dX7_makesType_41 : decode cX7_makesType 41 = .ok (.getfield 7, 3) := by decide +kernel
theorem dX7_makesType_44 : decode cX7_makesType 44 = .ok (.iconst 1, 1) := by decide +kernel
theorem dX7_makesType_45 : decode cX7_makesType 45 = .ok (.isub, 1) := by decide +kernel
theorem dX7_makesType_46 : decode cX7_makesType 46 = .ok (.ireturn, 1) := by decide +kernel
theorem dX7_arrowOf_0 : decode cX7_arrowOf 0 = .ok (.aload_n 0, 1) := by decide +kernel
theorem dX7_arrowOf_1 : decode cX7_arrowOf 1 = .ok (.iload_n 1, 1) := by decide +kernel
theorem dX7_arrowOf_2 : decode cX7_arrowOf 2 = .ok (.iload_n 2, 1) := by decide +kernel
theorem dX7_arrowOf_3 : decode cX7_arrowOf 3 = .ok (.invokevirtual 163, 3) := by decide +kernel
theorem dX7_arrowOf_6 : decode cX7_arrowOf 6 = .ok (.istore_n 3, 1) := by decide +kernel
theorem dX7_arrowOf_7 : decode cX7_arrowOf 7 = .ok (.iload_n 3, 1) := by decide +kernel
theorem dX7_arrowOf_8 : decode cX7_arrowOf 8 = .ok (.iconst (-1), 1) := by decide +kernel
theorem dX7_arrowOf_9 : decode cX7_arrowOf 9 = .ok (.if_icmp .eq 7, 3) := by decide +kernel
theorem dX7_arrowOf_12 : decode cX7_arrowOf 12 = .ok (.iload_n 3, 1) := by decide +kernel
theorem dX7_arrowOf_13 : decode cX7_arrowOf 13 = .ok (.goto 10, 3) := by decide +kernel
theorem dX7_arrowOf_16 : decode cX7_arrowOf 16 = .ok (.aload_n 0, 1) := by decide +kernel
theorem dX7_arrowOf_17 : decode cX7_arrowOf 17 = .ok (.iconst 2, 1) := by decide +kernel
theorem dX7_arrowOf_18 : decode cX7_arrowOf 18 = .ok (.iload_n 1, 1) := by decide +kernel
theorem dX7_arrowOf_19 : decode cX7_arrowOf 19 = .ok (.iload_n 2, 1) := by decide +kernel
theorem dX7_arrowOf_20 : decode cX7_arrowOf 20 = .ok (.invokevirtual 167, 3) := by decide +kernel
theorem dX7_arrowOf_23 : decode cX7_arrowOf 23 = .ok (.ireturn, 1) := by decide +kernel
theorem dX7_arrow_0 : decode cX7_arrow 0 = .ok (.aload_n 0, 1) := by decide +kernel
theorem dX7_arrow_1 : decode cX7_arrow 1 = .ok (.iload_n 1, 1) := by decide +kernel
theorem dX7_arrow_2 : decode cX7_arrow 2 = .ok (.invokevirtual 171, 3) := by decide +kernel
theorem dX7_arrow_5 : decode cX7_arrow 5 = .ok (.ifCond .eq 15, 3) := by decide +kernel
theorem dX7_arrow_8 : decode cX7_arrow 8 = .ok (.aload_n 0, 1) := by decide +kernel
theorem dX7_arrow_9 : decode cX7_arrow 9 = .ok (.iload_n 2, 1) := by decide +kernel
theorem dX7_arrow_10 : decode cX7_arrow 10 = .ok (.invokevirtual 171, 3) := by decide +kernel
theorem dX7_arrow_13 : decode cX7_arrow 13 = .ok (.ifCond .eq 7, 3) := by decide +kernel
theorem dX7_arrow_16 : decode cX7_arrow 16 = .ok (.iconst 1, 1) := by decide +kernel
theorem dX7_arrow_17 : decode cX7_arrow 17 = .ok (.goto 4, 3) := by decide +kernel
theorem dX7_arrow_20 : decode cX7_arrow 20 = .ok (.iconst 0, 1) := by decide +kernel
theorem dX7_arrow_21 : decode cX7_arrow 21 = .ok (.istore_n 3, 1) := by decide +kernel
theorem dX7_arrow_22 : decode cX7_arrow 22 = .ok (.aload_n 0, 1) := by decide +kernel
theorem dX7_arrow_23 : decode cX7_arrow 23 = .ok (.iload_n 3, 1) := by decide +kernel
theorem dX7_arrow_24 : decode cX7_arrow 24 = .ok (.ifCond .ne 7, 3) := by decide +kernel
theorem dX7_arrow_27 : decode cX7_arrow 27 = .ok (.iconst 1, 1) := by decide +kernel
theorem dX7_arrow_28 : decode cX7_arrow 28 = .ok (.goto 28, 3) := by decide +kernel
theorem dX7_arrow_31 : decode cX7_arrow 31 = .ok (.aload_n 0, 1) := by decide +kernel
theorem dX7_arrow_32 : decode cX7_arrow 32 = .ok (.iload_n 1, 1) := by decide +kernel
theorem dX7_arrow_33 : decode cX7_arrow 33 = .ok (.iload_n 2, 1) := by decide +kernel
theorem dX7_arrow_34 : decode cX7_arrow 34 = .ok (.invokevirtual 163, 3) := by decide +kernel
theorem dX7_arrow_37 : decode cX7_arrow 37 = .ok (.iconst (-1), 1) := by decide +kernel
theorem dX7_arrow_38 : decode cX7_arrow 38 = .ok (.if_icmp .ne 17, 3) := by decide +kernel
theorem dX7_arrow_41 : decode cX7_arrow 41 = .ok (.aload_n 0, 1) := by decide +kernel
theorem dX7_arrow_42 : decode cX7_arrow 42 = .ok (.getfield 7, 3) := by decide +kernel
theorem dX7_arrow_45 : decode cX7_arrow 45 = .ok (.sipush 200, 3) := by decide +kernel
theorem dX7_arrow_48 : decode cX7_arrow 48 = .ok (.if_icmp .ne 7, 3) := by decide +kernel
theorem dX7_arrow_51 : decode cX7_arrow 51 = .ok (.iconst 2, 1) := by decide +kernel
theorem dX7_arrow_52 : decode cX7_arrow 52 = .ok (.goto 4, 3) := by decide +kernel
theorem dX7_arrow_55 : decode cX7_arrow 55 = .ok (.iconst 0, 1) := by decide +kernel
theorem dX7_arrow_56 : decode cX7_arrow 56 = .ok (.invokevirtual 175, 3) := by decide +kernel
theorem dX7_arrow_59 : decode cX7_arrow 59 = .ok (.ifCond .eq 5, 3) := by decide +kernel
theorem dX7_arrow_62 : decode cX7_arrow 62 = .ok (.iconst 0, 1) := by decide +kernel
theorem dX7_arrow_63 : decode cX7_arrow 63 = .ok (.ireturn, 1) := by decide +kernel
theorem dX7_arrow_64 : decode cX7_arrow 64 = .ok (.aload_n 0, 1) := by decide +kernel
theorem dX7_arrow_65 : decode cX7_arrow 65 = .ok (.iload_n 1, 1) := by decide +kernel
theorem dX7_arrow_66 : decode cX7_arrow 66 = .ok (.iload_n 2, 1) := by decide +kernel
theorem dX7_arrow_67 : decode cX7_arrow 67 = .ok (.invokevirtual 178, 3) := by decide +kernel
theorem dX7_arrow_70 : decode cX7_arrow 70 = .ok (.ireturn, 1) := by decide +kernel
theorem dX7_type_0 : decode cX7_type 0 = .ok (.aload_n 0, 1) := by decide +kernel
theorem dX7_type_1 : decode cX7_type 1 = .ok (.aload_n 0, 1) := by decide +kernel
theorem dX7_type_2 : decode cX7_type 2 = .ok (.iload_n 1, 1) := by decide +kernel
theorem dX7_type_3 : decode cX7_type 3 = .ok (.invokevirtual 171, 3) := by decide +kernel
theorem dX7_type_6 : decode cX7_type 6 = .ok (.ifCond .ne 7, 3) := by decide +kernel
theorem dX7_type_9 : decode cX7_type 9 = .ok (.iconst 1, 1) := by decide +kernel
theorem dX7_type_10 : decode cX7_type 10 = .ok (.goto 17, 3) := by decide +kernel
theorem dX7_type_13 : decode cX7_type 13 = .ok (.iload_n 2, 1) := by decide +kernel
theorem dX7_type_14 : decode cX7_type 14 = .ok (.iconst 0, 1) := by decide +kernel
theorem dX7_type_15 : decode cX7_type 15 = .ok (.iconst 2, 1) := by decide +kernel
theorem dX7_type_16 : decode cX7_type 16 = .ok (.invokestatic 159, 3) := by decide +kernel
theorem dX7_type_19 : decode cX7_type 19 = .ok (.ifCond .eq 7, 3) := by decide +kernel
theorem dX7_type_22 : decode cX7_type 22 = .ok (.iconst 0, 1) := by decide +kernel
theorem dX7_type_23 : decode cX7_type 23 = .ok (.goto 4, 3) := by decide +kernel
theorem dX7_type_26 : decode cX7_type 26 = .ok (.iconst 2, 1) := by decide +kernel
theorem dX7_type_27 : decode cX7_type 27 = .ok (.invokevirtual 175, 3) := by decide +kernel
theorem dX7_type_30 : decode cX7_type 30 = .ok (.ifCond .eq 5, 3) := by decide +kernel
theorem dX7_type_33 : decode cX7_type 33 = .ok (.iconst 0, 1) := by decide +kernel
theorem dX7_type_34 : decode cX7_type 34 = .ok (.ireturn, 1) := by decide +kernel
theorem dX7_type_35 : decode cX7_type 35 = .ok (.iload_n 2, 1) := by decide +kernel
theorem dX7_type_36 : decode cX7_type 36 = .ok (.ifCond .ne 12, 3) := by decide +kernel
theorem dX7_type_39 : decode cX7_type 39 = .ok (.aload_n 0, 1) := by decide +kernel
theorem dX7_type_40 : decode cX7_type 40 = .ok (.getfield 13, 3) := by decide +kernel
theorem dX7_type_43 : decode cX7_type 43 = .ok (.iload_n 1, 1) := by decide +kernel
theorem dX7_type_44 : decode cX7_type 44 = .ok (.iaload, 1) := by decide +kernel
theorem dX7_type_45 : decode cX7_type 45 = .ok (.goto 37, 3) := by decide +kernel
theorem dX7_type_48 : decode cX7_type 48 = .ok (.aload_n 0, 1) := by decide +kernel
theorem dX7_type_49 : decode cX7_type 49 = .ok (.getfield 13, 3) := by decide +kernel
theorem dX7_type_52 : decode cX7_type 52 = .ok (.iload_n 1, 1) := by decide +kernel
theorem dX7_type_53 : decode cX7_type 53 = .ok (.iaload, 1) := by decide +kernel
theorem dX7_type_54 : decode cX7_type 54 = .ok (.iconst 2, 1) := by decide +kernel
theorem dX7_type_55 : decode cX7_type 55 = .ok (.if_icmp .eq 7, 3) := by decide +kernel
theorem dX7_type_58 : decode cX7_type 58 = .ok (.iconst (-1), 1) := by decide +kernel
theorem dX7_type_59 : decode cX7_type 59 = .ok (.goto 23, 3) := by decide +kernel
theorem dX7_type_62 : decode cX7_type 62 = .ok (.iload_n 2, 1) := by decide +kernel
theorem dX7_type_63 : decode cX7_type 63 = .ok (.iconst 1, 1) := by decide +kernel
theorem dX7_type_64 : decode cX7_type 64 = .ok (.if_icmp .ne 12, 3) := by decide +kernel
theorem dX7_type_67 : decode cX7_type 67 = .ok (.aload_n 0, 1) := by decide +kernel
theorem dX7_type_68 : decode cX7_type 68 = .ok (.getfield 17, 3) := by decide +kernel
theorem dX7_type_71 : decode cX7_type 71 = .ok (.iload_n 1, 1) := by decide +kernel
theorem dX7_type_72 : decode cX7_type 72 = .ok (.iaload, 1) := by decide +kernel
theorem dX7_type_73 : decode cX7_type 73 = .ok (.goto 9, 3) := by decide +kernel
theorem dX7_type_76 : decode cX7_type 76 = .ok (.aload_n 0, 1) := by decide +kernel
theorem dX7_type_77 : decode cX7_type 77 = .ok (.getfield 20, 3) := by decide +kernel
theorem dX7_type_80 : decode cX7_type 80 = .ok (.iload_n 1, 1) := by decide +kernel
theorem dX7_type_81 : decode cX7_type 81 = .ok (.iaload, 1) := by decide +kernel
theorem dX7_type_82 : decode cX7_type 82 = .ok (.ireturn, 1) := by decide +kernel
theorem dX7_findsItem_0 : decode cX7_findsItem 0 = .ok (.iconst (-1), 1) := by decide +kernel
theorem dX7_findsItem_1 : decode cX7_findsItem 1 = .ok (.istore 4, 2) := by decide +kernel
theorem dX7_findsItem_3 : decode cX7_findsItem 3 = .ok (.bipush 60, 2) := by decide +kernel
theorem dX7_findsItem_5 : decode cX7_findsItem 5 = .ok (.iload_n 1, 1) := by decide +kernel
theorem dX7_findsItem_6 : decode cX7_findsItem 6 = .ok (.imul, 1) := by decide +kernel
theorem dX7_findsItem_7 : decode cX7_findsItem 7 = .ok (.istore 5, 2) := by decide +kernel
theorem dX7_findsItem_9 : decode cX7_findsItem 9 = .ok (.iload 5, 2) := by decide +kernel
theorem dX7_findsItem_11 : decode cX7_findsItem 11 = .ok (.bipush 60, 2) := by decide +kernel
theorem dX7_findsItem_13 : decode cX7_findsItem 13 = .ok (.iload_n 1, 1) := by decide +kernel
theorem dX7_findsItem_14 : decode cX7_findsItem 14 = .ok (.imul, 1) := by decide +kernel
theorem dX7_findsItem_15 : decode cX7_findsItem 15 = .ok (.aload_n 0, 1) := by decide +kernel
theorem dX7_findsItem_16 : decode cX7_findsItem 16 = .ok (.getfield 23, 3) := by decide +kernel
theorem dX7_findsItem_19 : decode cX7_findsItem 19 = .ok (.iload_n 1, 1) := by decide +kernel
theorem dX7_findsItem_20 : decode cX7_findsItem 20 = .ok (.iaload, 1) := by decide +kernel
theorem dX7_findsItem_21 : decode cX7_findsItem 21 = .ok (.iadd, 1) := by decide +kernel
theorem dX7_findsItem_22 : decode cX7_findsItem 22 = .ok (.if_icmp .ge 40, 3) := by decide +kernel
theorem dX7_findsItem_25 : decode cX7_findsItem 25 = .ok (.aload_n 0, 1) := by decide +kernel
theorem dX7_findsItem_26 : decode cX7_findsItem 26 = .ok (.getfield 26, 3) := by decide +kernel
theorem dX7_findsItem_29 : decode cX7_findsItem 29 = .ok (.iload 5, 2) := by decide +kernel
theorem dX7_findsItem_31 : decode cX7_findsItem 31 = .ok (.iaload, 1) := by decide +kernel
theorem dX7_findsItem_32 : decode cX7_findsItem 32 = .ok (.iload_n 2, 1) := by decide +kernel
theorem dX7_findsItem_33 : decode cX7_findsItem 33 = .ok (.if_icmp .ne 19, 3) := by decide +kernel
theorem dX7_findsItem_36 : decode cX7_findsItem 36 = .ok (.aload_n 0, 1) := by decide +kernel
theorem dX7_findsItem_37 : decode cX7_findsItem 37 = .ok (.getfield 29, 3) := by decide +kernel
theorem dX7_findsItem_40 : decode cX7_findsItem 40 = .ok (.iload 5, 2) := by decide +kernel
theorem dX7_findsItem_42 : decode cX7_findsItem 42 = .ok (.iaload, 1) := by decide +kernel
theorem dX7_findsItem_43 : decode cX7_findsItem 43 = .ok (.iload_n 3, 1) := by decide +kernel
theorem dX7_findsItem_44 : decode cX7_findsItem 44 = .ok (.if_icmp .ne 8, 3) := by decide +kernel
theorem dX7_findsItem_47 : decode cX7_findsItem 47 = .ok (.iload 5, 2) := by decide +kernel
theorem dX7_findsItem_49 : decode cX7_findsItem 49 = .ok (.goto 5, 3) := by decide +kernel
theorem dX7_findsItem_52 : decode cX7_findsItem 52 = .ok (.iload 4, 2) := by decide +kernel
theorem dX7_findsItem_54 : decode cX7_findsItem 54 = .ok (.istore 4, 2) := by decide +kernel
theorem dX7_findsItem_56 : decode cX7_findsItem 56 = .ok (.iinc 5 1, 3) := by decide +kernel
theorem dX7_findsItem_59 : decode cX7_findsItem 59 = .ok (.goto (-50), 3) := by decide +kernel
theorem dX7_findsItem_62 : decode cX7_findsItem 62 = .ok (.iload 4, 2) := by decide +kernel
theorem dX7_findsItem_64 : decode cX7_findsItem 64 = .ok (.ireturn, 1) := by decide +kernel
theorem dX7_puts_0 : decode cX7_puts 0 = .ok (.bipush 60, 2) := by decide +kernel
theorem dX7_puts_2 : decode cX7_puts 2 = .ok (.iload_n 1, 1) := by decide +kernel
theorem dX7_puts_3 : decode cX7_puts 3 = .ok (.imul, 1) := by decide +kernel
theorem dX7_puts_4 : decode cX7_puts 4 = .ok (.aload_n 0, 1) := by decide +kernel
theorem dX7_puts_5 : decode cX7_puts 5 = .ok (.getfield 23, 3) := by decide +kernel
theorem dX7_puts_8 : decode cX7_puts 8 = .ok (.iload_n 1, 1) := by decide +kernel
theorem dX7_puts_9 : decode cX7_puts 9 = .ok (.iaload, 1) := by decide +kernel
theorem dX7_puts_10 : decode cX7_puts 10 = .ok (.iadd, 1) := by decide +kernel
theorem dX7_puts_11 : decode cX7_puts 11 = .ok (.istore 6, 2) := by decide +kernel
theorem dX7_puts_13 : decode cX7_puts 13 = .ok (.aload_n 0, 1) := by decide +kernel
theorem dX7_puts_14 : decode cX7_puts 14 = .ok (.getfield 26, 3) := by decide +kernel
theorem dX7_puts_17 : decode cX7_puts 17 = .ok (.iload 6, 2) := by decide +kernel
theorem dX7_puts_19 : decode cX7_puts 19 = .ok (.iload_n 2, 1) := by decide +kernel
theorem dX7_puts_20 : decode cX7_puts 20 = .ok (.iastore, 1) := by decide +kernel
theorem dX7_puts_21 : decode cX7_puts 21 = .ok (.aload_n 0, 1) := by decide +kernel
theorem dX7_puts_22 : decode cX7_puts 22 = .ok (.getfield 29, 3) := by decide +kernel
theorem dX7_puts_25 : decode cX7_puts 25 = .ok (.iload 6, 2) := by decide +kernel
theorem dX7_puts_27 : decode cX7_puts 27 = .ok (.iload_n 3, 1) := by decide +kernel
theorem dX7_puts_28 : decode cX7_puts 28 = .ok (.iastore, 1) := by decide +kernel
theorem dX7_puts_29 : decode cX7_puts 29 = .ok (.aload_n 0, 1) := by decide +kernel
theorem dX7_puts_30 : decode cX7_puts 30 = .ok (.getfield 32, 3) := by decide +kernel
theorem dX7_puts_33 : decode cX7_puts 33 = .ok (.iload 6, 2) := by decide +kernel
theorem dX7_puts_35 : decode cX7_puts 35 = .ok (.iload 4, 2) := by decide +kernel
theorem dX7_puts_37 : decode cX7_puts 37 = .ok (.iastore, 1) := by decide +kernel
theorem dX7_puts_38 : decode cX7_puts 38 = .ok (.aload_n 0, 1) := by decide +kernel
theorem dX7_puts_39 : decode cX7_puts 39 = .ok (.getfield 35, 3) := by decide +kernel
theorem dX7_puts_42 : decode cX7_puts 42 = .ok (.iload 6, 2) := by decide +kernel
theorem dX7_puts_44 : decode cX7_puts 44 = .ok (.iload 5, 2) := by decide +kernel
theorem dX7_puts_46 : decode cX7_puts 46 = .ok (.iastore, 1) := by decide +kernel
theorem dX7_puts_47 : decode cX7_puts 47 = .ok (.aload_n 0, 1) := by decide +kernel
theorem dX7_puts_48 : decode cX7_puts 48 = .ok (.getfield 23, 3) := by decide +kernel
theorem dX7_puts_51 : decode cX7_puts 51 = .ok (.iload_n 1, 1) := by decide +kernel
theorem dX7_puts_52 : decode cX7_puts 52 = .ok (.dup2, 1) := by decide +kernel
theorem dX7_puts_53 : decode cX7_puts 53 = .ok (.iaload, 1) := by decide +kernel
theorem dX7_puts_54 : decode cX7_puts 54 = .ok (.iconst 1, 1) := by decide +kernel
theorem dX7_puts_55 : decode cX7_puts 55 = .ok (.iadd, 1) := by decide +kernel
theorem dX7_puts_56 : decode cX7_puts 56 = .ok (.iastore, 1) := by decide +kernel
theorem dX7_puts_57 : decode cX7_puts 57 = .ok (.return_, 1) := by decide +kernel
theorem dX7_adds_0 : decode cX7_adds 0 = .ok (.aload_n 0, 1) := by decide +kernel
theorem dX7_adds_1 : decode cX7_adds 1 = .ok (.bipush 100, 2) := by decide +kernel
theorem dX7_adds_3 : decode cX7_adds 3 = .ok (.iload_n 1, 1) := by decide +kernel
theorem dX7_adds_4 : decode cX7_adds 4 = .ok (.iload_n 2, 1) := by decide +kernel
theorem dX7_adds_5 : decode cX7_adds 5 = .ok (.invokevirtual 181, 3) := by decide +kernel
theorem dX7_adds_8 : decode cX7_adds 8 = .ok (.istore 5, 2) := by decide +kernel
theorem dX7_adds_10 : decode cX7_adds 10 = .ok (.iload 5, 2) := by decide +kernel
theorem dX7_adds_12 : decode cX7_adds 12 = .ok (.iconst (-1), 1) := by decide +kernel
theorem dX7_adds_13 : decode cX7_adds 13 = .ok (.if_icmp .eq 104, 3) := by decide +kernel
theorem dX7_adds_16 : decode cX7_adds 16 = .ok (.aload_n 0, 1) := by decide +kernel
theorem dX7_adds_17 : decode cX7_adds 17 = .ok (.getfield 23, 3) := by decide +kernel
theorem dX7_adds_20 : decode cX7_adds 20 = .ok (.bipush 100, 2) := by decide +kernel
theorem dX7_adds_22 : decode cX7_adds 22 = .ok (.dup2, 1) := by decide +kernel
theorem dX7_adds_23 : decode cX7_adds 23 = .ok (.iaload, 1) := by decide +kernel
theorem dX7_adds_24 : decode cX7_adds 24 = .ok (.iconst 1, 1) := by decide +kernel
theorem dX7_adds_25 : decode cX7_adds 25 = .ok (.isub, 1) := by decide +kernel
theorem dX7_adds_26 : decode cX7_adds 26 = .ok (.iastore, 1) := by decide +kernel
theorem dX7_adds_27 : decode cX7_adds 27 = .ok (.iload 5, 2) := by decide +kernel
theorem dX7_adds_29 : decode cX7_adds 29 = .ok (.istore 6, 2) := by decide +kernel
theorem dX7_adds_31 : decode cX7_adds 31 = .ok (.iload 6, 2) := by decide +kernel
theorem dX7_adds_33 : decode cX7_adds 33 = .ok (.sipush 6000, 3) := by decide +kernel
theorem dX7_adds_36 : decode cX7_adds 36 = .ok (.aload_n 0, 1) := by decide +kernel
theorem dX7_adds_37 : decode cX7_adds 37 = .ok (.getfield 23, 3) := by decide +kernel
theorem dX7_adds_40 : decode cX7_adds 40 = .ok (.bipush 100, 2) := by decide +kernel
theorem dX7_adds_42 : decode cX7_adds 42 = .ok (.iaload, 1) := by decide +kernel
theorem dX7_adds_43 : decode cX7_adds 43 = .ok (.iadd, 1) := by decide +kernel
theorem dX7_adds_44 : decode cX7_adds 44 = .ok (.if_icmp .ge 73, 3) := by decide +kernel
theorem dX7_adds_47 : decode cX7_adds 47 = .ok (.aload_n 0, 1) := by decide +kernel
theorem dX7_adds_48 : decode cX7_adds 48 = .ok (.getfield 26, 3) := by decide +kernel
theorem dX7_adds_51 : decode cX7_adds 51 = .ok (.iload 6, 2) := by decide +kernel
theorem dX7_adds_53 : decode cX7_adds 53 = .ok (.aload_n 0, 1) := by decide +kernel
theorem dX7_adds_54 : decode cX7_adds 54 = .ok (.getfield 26, 3) := by decide +kernel
theorem dX7_adds_57 : decode cX7_adds 57 = .ok (.iload 6, 2) := by decide +kernel
theorem dX7_adds_59 : decode cX7_adds 59 = .ok (.iconst 1, 1) := by decide +kernel
theorem dX7_adds_60 : decode cX7_adds 60 = .ok (.iadd, 1) := by decide +kernel
theorem dX7_adds_61 : decode cX7_adds 61 = .ok (.iaload, 1) := by decide +kernel
theorem dX7_adds_62 : decode cX7_adds 62 = .ok (.iastore, 1) := by decide +kernel
theorem dX7_adds_63 : decode cX7_adds 63 = .ok (.aload_n 0, 1) := by decide +kernel
theorem dX7_adds_64 : decode cX7_adds 64 = .ok (.getfield 29, 3) := by decide +kernel
theorem dX7_adds_67 : decode cX7_adds 67 = .ok (.iload 6, 2) := by decide +kernel
theorem dX7_adds_69 : decode cX7_adds 69 = .ok (.aload_n 0, 1) := by decide +kernel
theorem dX7_adds_70 : decode cX7_adds 70 = .ok (.getfield 29, 3) := by decide +kernel
theorem dX7_adds_73 : decode cX7_adds 73 = .ok (.iload 6, 2) := by decide +kernel
theorem dX7_adds_75 : decode cX7_adds 75 = .ok (.iconst 1, 1) := by decide +kernel
theorem dX7_adds_76 : decode cX7_adds 76 = .ok (.iadd, 1) := by decide +kernel
theorem dX7_adds_77 : decode cX7_adds 77 = .ok (.iaload, 1) := by decide +kernel
theorem dX7_adds_78 : decode cX7_adds 78 = .ok (.iastore, 1) := by decide +kernel
theorem dX7_adds_79 : decode cX7_adds 79 = .ok (.aload_n 0, 1) := by decide +kernel
theorem dX7_adds_80 : decode cX7_adds 80 = .ok (.getfield 32, 3) := by decide +kernel
theorem dX7_adds_83 : decode cX7_adds 83 = .ok (.iload 6, 2) := by decide +kernel
theorem dX7_adds_85 : decode cX7_adds 85 = .ok (.aload_n 0, 1) := by decide +kernel
theorem dX7_adds_86 : decode cX7_adds 86 = .ok (.getfield 32, 3) := by decide +kernel
theorem dX7_adds_89 : decode cX7_adds 89 = .ok (.iload 6, 2) := by decide +kernel
theorem dX7_adds_91 : decode cX7_adds 91 = .ok (.iconst 1, 1) := by decide +kernel
theorem dX7_adds_92 : decode cX7_adds 92 = .ok (.iadd, 1) := by decide +kernel
theorem dX7_adds_93 : decode cX7_adds 93 = .ok (.iaload, 1) := by decide +kernel
theorem dX7_adds_94 : decode cX7_adds 94 = .ok (.iastore, 1) := by decide +kernel
theorem dX7_adds_95 : decode cX7_adds 95 = .ok (.aload_n 0, 1) := by decide +kernel
theorem dX7_adds_96 : decode cX7_adds 96 = .ok (.getfield 35, 3) := by decide +kernel
theorem dX7_adds_99 : decode cX7_adds 99 = .ok (.iload 6, 2) := by decide +kernel
theorem dX7_adds_101 : decode cX7_adds 101 = .ok (.aload_n 0, 1) := by decide +kernel
theorem dX7_adds_102 : decode cX7_adds 102 = .ok (.getfield 35, 3) := by decide +kernel
theorem dX7_adds_105 : decode cX7_adds 105 = .ok (.iload 6, 2) := by decide +kernel
theorem dX7_adds_107 : decode cX7_adds 107 = .ok (.iconst 1, 1) := by decide +kernel
theorem dX7_adds_108 : decode cX7_adds 108 = .ok (.iadd, 1) := by decide +kernel
theorem dX7_adds_109 : decode cX7_adds 109 = .ok (.iaload, 1) := by decide +kernel
theorem dX7_adds_110 : decode cX7_adds 110 = .ok (.iastore, 1) := by decide +kernel
theorem dX7_adds_111 : decode cX7_adds 111 = .ok (.iinc 6 1, 3) := by decide +kernel
theorem dX7_adds_114 : decode cX7_adds 114 = .ok (.goto (-83), 3) := by decide +kernel
theorem dX7_adds_117 : decode cX7_adds 117 = .ok (.aload_n 0, 1) := by decide +kernel
theorem dX7_adds_118 : decode cX7_adds 118 = .ok (.bipush 100, 2) := by decide +kernel
theorem dX7_adds_120 : decode cX7_adds 120 = .ok (.iload_n 1, 1) := by decide +kernel
theorem dX7_adds_121 : decode cX7_adds 121 = .ok (.iload_n 2, 1) := by decide +kernel
theorem dX7_adds_122 : decode cX7_adds 122 = .ok (.iload_n 3, 1) := by decide +kernel
theorem dX7_adds_123 : decode cX7_adds 123 = .ok (.iload 4, 2) := by decide +kernel
theorem dX7_adds_125 : decode cX7_adds 125 = .ok (.invokevirtual 184, 3) := by decide +kernel
theorem dX7_adds_128 : decode cX7_adds 128 = .ok (.iload 5, 2) := by decide +kernel
theorem dX7_adds_130 : decode cX7_adds 130 = .ok (.iconst (-1), 1) := by decide +kernel
theorem dX7_adds_131 : decode cX7_adds 131 = .ok (.if_icmp .eq 7, 3) := by decide +kernel
theorem dX7_adds_134 : decode cX7_adds 134 = .ok (.iconst 1, 1) := by decide +kernel
theorem dX7_adds_135 : decode cX7_adds 135 = .ok (.goto 4, 3) := by decide +kernel
theorem dX7_adds_138 : decode cX7_adds 138 = .ok (.iconst 0, 1) := by decide +kernel
theorem dX7_adds_139 : decode cX7_adds 139 = .ok (.ireturn, 1) := by decide +kernel
theorem dX7_addType_0 : decode cX7_addType 0 = .ok (.iload_n 2, 1) := by decide +kernel
theorem dX7_addType_1 : decode cX7_addType 1 = .ok (.iconst (-1), 1) := by decide +kernel
theorem dX7_addType_2 : decode cX7_addType 2 = .ok (.if_icmp .eq 11, 3) := by decide +kernel
theorem dX7_addType_5 : decode cX7_addType 5 = .ok (.aload_n 0, 1) := by decide +kernel
theorem dX7_addType_6 : decode cX7_addType 6 = .ok (.iload_n 2, 1) := by decide +kernel
theorem dX7_addType_7 : decode cX7_addType 7 = .ok (.invokevirtual 171, 3) := by decide +kernel
theorem dX7_addType_10 : decode cX7_addType 10 = .ok (.ifCond .eq 7, 3) := by decide +kernel
theorem dX7_addType_13 : decode cX7_addType 13 = .ok (.iconst 1, 1) := by decide +kernel
theorem dX7_addType_14 : decode cX7_addType 14 = .ok (.goto 4, 3) := by decide +kernel
theorem dX7_addType_17 : decode cX7_addType 17 = .ok (.iconst 0, 1) := by decide +kernel
theorem dX7_addType_18 : decode cX7_addType 18 = .ok (.istore_n 3, 1) := by decide +kernel
theorem dX7_addType_19 : decode cX7_addType 19 = .ok (.aload_n 0, 1) := by decide +kernel
theorem dX7_addType_20 : decode cX7_addType 20 = .ok (.iload_n 3, 1) := by decide +kernel
theorem dX7_addType_21 : decode cX7_addType 21 = .ok (.ifCond .ne 7, 3) := by decide +kernel
theorem dX7_addType_24 : decode cX7_addType 24 = .ok (.iconst 1, 1) := by decide +kernel
theorem dX7_addType_25 : decode cX7_addType 25 = .ok (.goto 34, 3) := by decide +kernel
theorem dX7_addType_28 : decode cX7_addType 28 = .ok (.iload_n 1, 1) := by decide +kernel
theorem dX7_addType_29 : decode cX7_addType 29 = .ok (.invokestatic 188, 3) := by decide +kernel
theorem dX7_addType_32 : decode cX7_addType 32 = .ok (.ifCond .ne 7, 3) := by decide +kernel
theorem dX7_addType_35 : decode cX7_addType 35 = .ok (.iconst 2, 1) := by decide +kernel
theorem dX7_addType_36 : decode cX7_addType 36 = .ok (.goto 23, 3) := by decide +kernel
theorem dX7_addType_39 : decode cX7_addType 39 = .ok (.iload_n 2, 1) := by decide +kernel
theorem dX7_addType_40 : decode cX7_addType 40 = .ok (.iconst (-1), 1) := by decide +kernel
theorem dX7_addType_41 : decode cX7_addType 41 = .ok (.if_icmp .ne 17, 3) := by decide +kernel
theorem dX7_addType_44 : decode cX7_addType 44 = .ok (.aload_n 0, 1) := by decide +kernel
theorem dX7_addType_45 : decode cX7_addType 45 = .ok (.getfield 7, 3) := by decide +kernel
theorem dX7_addType_48 : decode cX7_addType 48 = .ok (.sipush 200, 3) := by decide +kernel
theorem dX7_addType_51 : decode cX7_addType 51 = .ok (.if_icmp .ne 7, 3) := by decide +kernel
theorem dX7_addType_54 : decode cX7_addType 54 = .ok (.iconst 3, 1) := by decide +kernel
theorem dX7_addType_55 : decode cX7_addType 55 = .ok (.goto 4, 3) := by decide +kernel
theorem dX7_addType_58 : decode cX7_addType 58 = .ok (.iconst 0, 1) := by decide +kernel
theorem dX7_addType_59 : decode cX7_addType 59 = .ok (.invokevirtual 175, 3) := by decide +kernel
theorem dX7_addType_62 : decode cX7_addType 62 = .ok (.ifCond .eq 5, 3) := by decide +kernel
theorem dX7_addType_65 : decode cX7_addType 65 = .ok (.iconst 0, 1) := by decide +kernel
theorem dX7_addType_66 : decode cX7_addType 66 = .ok (.ireturn, 1) := by decide +kernel
theorem dX7_addType_67 : decode cX7_addType 67 = .ok (.iload_n 2, 1) := by decide +kernel
theorem dX7_addType_68 : decode cX7_addType 68 = .ok (.iconst (-1), 1) := by decide +kernel
theorem dX7_addType_69 : decode cX7_addType 69 = .ok (.if_icmp .ne 13, 3) := by decide +kernel
theorem dX7_addType_72 : decode cX7_addType 72 = .ok (.aload_n 0, 1) := by decide +kernel
theorem dX7_addType_73 : decode cX7_addType 73 = .ok (.iconst 1, 1) := by decide +kernel
theorem dX7_addType_74 : decode cX7_addType 74 = .ok (.iconst (-1), 1) := by decide +kernel
theorem dX7_addType_75 : decode cX7_addType 75 = .ok (.iconst (-1), 1) := by decide +kernel
theorem dX7_addType_76 : decode cX7_addType 76 = .ok (.invokevirtual 167, 3) := by decide +kernel
theorem dX7_addType_79 : decode cX7_addType 79 = .ok (.goto 4, 3) := by decide +kernel
theorem dX7_addType_82 : decode cX7_addType 82 = .ok (.iload_n 2, 1) := by decide +kernel
theorem dX7_addType_83 : decode cX7_addType 83 = .ok (.istore 4, 2) := by decide +kernel
theorem dX7_addType_85 : decode cX7_addType 85 = .ok (.aload_n 0, 1) := by decide +kernel
theorem dX7_addType_86 : decode cX7_addType 86 = .ok (.iconst 0, 1) := by decide +kernel
theorem dX7_addType_87 : decode cX7_addType 87 = .ok (.iload_n 1, 1) := by decide +kernel
theorem dX7_addType_88 : decode cX7_addType 88 = .ok (.iload 4, 2) := by decide +kernel
theorem dX7_addType_90 : decode cX7_addType 90 = .ok (.iconst 0, 1) := by decide +kernel
theorem dX7_addType_91 : decode cX7_addType 91 = .ok (.invokevirtual 191, 3) := by decide +kernel
theorem dX7_addType_94 : decode cX7_addType 94 = .ok (.pop, 1) := by decide +kernel
theorem dX7_addType_95 : decode cX7_addType 95 = .ok (.iload 4, 2) := by decide +kernel
theorem dX7_addType_97 : decode cX7_addType 97 = .ok (.ireturn, 1) := by decide +kernel
theorem dX7_addValue_0 : decode cX7_addValue 0 = .ok (.aload_n 0, 1) := by decide +kernel
theorem dX7_addValue_1 : decode cX7_addValue 1 = .ok (.aload_n 0, 1) := by decide +kernel
theorem dX7_addValue_2 : decode cX7_addValue 2 = .ok (.iload_n 2, 1) := by decide +kernel
theorem dX7_addValue_3 : decode cX7_addValue 3 = .ok (.invokevirtual 171, 3) := by decide +kernel
theorem dX7_addValue_6 : decode cX7_addValue 6 = .ok (.ifCond .ne 7, 3) := by decide +kernel
theorem dX7_addValue_9 : decode cX7_addValue 9 = .ok (.iconst 1, 1) := by decide +kernel
theorem dX7_addValue_10 : decode cX7_addValue 10 = .ok (.goto 22, 3) := by decide +kernel
theorem dX7_addValue_13 : decode cX7_addValue 13 = .ok (.iload_n 1, 1) := by decide +kernel
theorem dX7_addValue_14 : decode cX7_addValue 14 = .ok (.invokestatic 188, 3) := by decide +kernel
theorem dX7_addValue_17 : decode cX7_addValue 17 = .ok (.ifCond .eq 14, 3) := by decide +kernel
theorem dX7_addValue_20 : decode cX7_addValue 20 = .ok (.iload_n 3, 1) := by decide +kernel
theorem dX7_addValue_21 : decode cX7_addValue 21 = .ok (.invokestatic 195, 3) := by decide +kernel
theorem dX7_addValue_24 : decode cX7_addValue 24 = .ok (.ifCond .eq 7, 3) := by decide +kernel
theorem dX7_addValue_27 : decode cX7_addValue 27 = .ok (.iconst 0, 1) := by decide +kernel
theorem dX7_addValue_28 : decode cX7_addValue 28 = .ok (.goto 4, 3) := by decide +kernel
theorem dX7_addValue_31 : decode cX7_addValue 31 = .ok (.iconst 2, 1) := by decide +kernel
theorem dX7_addValue_32 : decode cX7_addValue 32 = .ok (.invokevirtual 175, 3) := by decide +kernel
theorem dX7_addValue_35 : decode cX7_addValue 35 = .ok (.ifCond .eq 5, 3) := by decide +kernel
theorem dX7_addValue_38 : decode cX7_addValue 38 = .ok (.iconst 0, 1) := by decide +kernel
theorem dX7_addValue_39 : decode cX7_addValue 39 = .ok (.ireturn, 1) := by decide +kernel
theorem dX7_addValue_40 : decode cX7_addValue 40 = .ok (.aload_n 0, 1) := by decide +kernel
theorem dX7_addValue_41 : decode cX7_addValue 41 = .ok (.iconst 1, 1) := by decide +kernel
theorem dX7_addValue_42 : decode cX7_addValue 42 = .ok (.iload_n 1, 1) := by decide +kernel
theorem dX7_addValue_43 : decode cX7_addValue 43 = .ok (.iload_n 2, 1) := by decide +kernel
theorem dX7_addValue_44 : decode cX7_addValue 44 = .ok (.iload_n 3, 1) := by decide +kernel
theorem dX7_addValue_45 : decode cX7_addValue 45 = .ok (.invokevirtual 191, 3) := by decide +kernel
theorem dX7_addValue_48 : decode cX7_addValue 48 = .ok (.ireturn, 1) := by decide +kernel
theorem dX7_isStructure_0 : decode cX7_isStructure 0 = .ok (.iload_n 1, 1) := by decide +kernel
theorem dX7_isStructure_1 : decode cX7_isStructure 1 = .ok (.iconst 0, 1) := by decide +kernel
theorem dX7_isStructure_2 : decode cX7_isStructure 2 = .ok (.aload_n 0, 1) := by decide +kernel
theorem dX7_isStructure_3 : decode cX7_isStructure 3 = .ok (.getfield 198, 3) := by decide +kernel
theorem dX7_isStructure_6 : decode cX7_isStructure 6 = .ok (.iconst 1, 1) := by decide +kernel
theorem dX7_isStructure_7 : decode cX7_isStructure 7 = .ok (.isub, 1) := by decide +kernel
theorem dX7_isStructure_8 : decode cX7_isStructure 8 = .ok (.invokestatic 159, 3) := by decide +kernel
theorem dX7_isStructure_11 : decode cX7_isStructure 11 = .ok (.ireturn, 1) := by decide +kernel
theorem dX7_addPart_0 : decode cX7_addPart 0 = .ok (.aload_n 0, 1) := by decide +kernel
theorem dX7_addPart_1 : decode cX7_addPart 1 = .ok (.aload_n 0, 1) := by decide +kernel
theorem dX7_addPart_2 : decode cX7_addPart 2 = .ok (.iload_n 2, 1) := by decide +kernel
theorem dX7_addPart_3 : decode cX7_addPart 3 = .ok (.invokevirtual 201, 3) := by decide +kernel
theorem dX7_addPart_6 : decode cX7_addPart 6 = .ok (.ifCond .ne 7, 3) := by decide +kernel
theorem dX7_addPart_9 : decode cX7_addPart 9 = .ok (.iconst 1, 1) := by decide +kernel
theorem dX7_addPart_10 : decode cX7_addPart 10 = .ok (.goto 15, 3) := by decide +kernel
theorem dX7_addPart_13 : decode cX7_addPart 13 = .ok (.iload_n 1, 1) := by decide +kernel
theorem dX7_addPart_14 : decode cX7_addPart 14 = .ok (.invokestatic 188, 3) := by decide +kernel
theorem dX7_addPart_17 : decode cX7_addPart 17 = .ok (.ifCond .eq 7, 3) := by decide +kernel
theorem dX7_addPart_20 : decode cX7_addPart 20 = .ok (.iconst 0, 1) := by decide +kernel
theorem dX7_addPart_21 : decode cX7_addPart 21 = .ok (.goto 4, 3) := by decide +kernel
theorem dX7_addPart_24 : decode cX7_addPart 24 = .ok (.iconst 2, 1) := by decide +kernel
theorem dX7_addPart_25 : decode cX7_addPart 25 = .ok (.invokevirtual 175, 3) := by decide +kernel
theorem dX7_addPart_28 : decode cX7_addPart 28 = .ok (.ifCond .eq 5, 3) := by decide +kernel
theorem dX7_addPart_31 : decode cX7_addPart 31 = .ok (.iconst 0, 1) := by decide +kernel
theorem dX7_addPart_32 : decode cX7_addPart 32 = .ok (.ireturn, 1) := by decide +kernel
theorem dX7_addPart_33 : decode cX7_addPart 33 = .ok (.aload_n 0, 1) := by decide +kernel
theorem dX7_addPart_34 : decode cX7_addPart 34 = .ok (.iconst 2, 1) := by decide +kernel
theorem dX7_addPart_35 : decode cX7_addPart 35 = .ok (.iload_n 1, 1) := by decide +kernel
theorem dX7_addPart_36 : decode cX7_addPart 36 = .ok (.iload_n 2, 1) := by decide +kernel
theorem dX7_addPart_37 : decode cX7_addPart 37 = .ok (.iconst 0, 1) := by decide +kernel
theorem dX7_addPart_38 : decode cX7_addPart 38 = .ok (.invokevirtual 191, 3) := by decide +kernel
theorem dX7_addPart_41 : decode cX7_addPart 41 = .ok (.ireturn, 1) := by decide +kernel
theorem dX7_open_0 : decode cX7_open 0 = .ok (.aload_n 0, 1) := by decide +kernel
theorem dX7_open_1 : decode cX7_open 1 = .ok (.aload_n 0, 1) := by decide +kernel
theorem dX7_open_2 : decode cX7_open 2 = .ok (.iload_n 1, 1) := by decide +kernel
theorem dX7_open_3 : decode cX7_open 3 = .ok (.invokevirtual 201, 3) := by decide +kernel
theorem dX7_open_6 : decode cX7_open 6 = .ok (.ifCond .eq 7, 3) := by decide +kernel
theorem dX7_open_9 : decode cX7_open 9 = .ok (.iconst 0, 1) := by decide +kernel
theorem dX7_open_10 : decode cX7_open 10 = .ok (.goto 4, 3) := by decide +kernel
theorem dX7_open_13 : decode cX7_open 13 = .ok (.iconst 1, 1) := by decide +kernel
theorem dX7_open_14 : decode cX7_open 14 = .ok (.invokevirtual 175, 3) := by decide +kernel
theorem dX7_open_17 : decode cX7_open 17 = .ok (.ifCond .eq 5, 3) := by decide +kernel
theorem dX7_open_20 : decode cX7_open 20 = .ok (.iconst 0, 1) := by decide +kernel
theorem dX7_open_21 : decode cX7_open 21 = .ok (.ireturn, 1) := by decide +kernel
theorem dX7_open_22 : decode cX7_open 22 = .ok (.iconst 0, 1) := by decide +kernel
theorem dX7_open_23 : decode cX7_open 23 = .ok (.istore_n 2, 1) := by decide +kernel
theorem dX7_open_24 : decode cX7_open 24 = .ok (.bipush 60, 2) := by decide +kernel
theorem dX7_open_26 : decode cX7_open 26 = .ok (.iload_n 1, 1) := by decide +kernel
theorem dX7_open_27 : decode cX7_open 27 = .ok (.imul, 1) := by decide +kernel
theorem dX7_open_28 : decode cX7_open 28 = .ok (.istore_n 3, 1) := by decide +kernel
theorem dX7_open_29 : decode cX7_open 29 = .ok (.iload_n 3, 1) := by decide +kernel
theorem dX7_open_30 : decode cX7_open 30 = .ok (.bipush 60, 2) := by decide +kernel
theorem dX7_open_32 : decode cX7_open 32 = .ok (.iload_n 1, 1) := by decide +kernel
theorem dX7_open_33 : decode cX7_open 33 = .ok (.imul, 1) := by decide +kernel
theorem dX7_open_34 : decode cX7_open 34 = .ok (.aload_n 0, 1) := by decide +kernel
theorem dX7_open_35 : decode cX7_open 35 = .ok (.getfield 23, 3) := by decide +kernel
theorem dX7_open_38 : decode cX7_open 38 = .ok (.iload_n 1, 1) := by decide +kernel
theorem dX7_open_39 : decode cX7_open 39 = .ok (.iaload, 1) := by decide +kernel
theorem dX7_open_40 : decode cX7_open 40 = .ok (.iadd, 1) := by decide +kernel
theorem dX7_open_41 : decode cX7_open 41 = .ok (.if_icmp .ge 48, 3) := by decide +kernel
theorem dX7_open_44 : decode cX7_open 44 = .ok (.iload_n 2, 1) := by decide +kernel
theorem dX7_open_45 : decode cX7_open 45 = .ok (.aload_n 0, 1) := by decide +kernel
theorem dX7_open_46 : decode cX7_open 46 = .ok (.aload_n 0, 1) := by decide +kernel
theorem dX7_open_47 : decode cX7_open 47 = .ok (.getfield 26, 3) := by decide +kernel
theorem dX7_open_50 : decode cX7_open 50 = .ok (.iload_n 3, 1) := by decide +kernel
theorem dX7_open_51 : decode cX7_open 51 = .ok (.iaload, 1) := by decide +kernel
theorem dX7_open_52 : decode cX7_open 52 = .ok (.aload_n 0, 1) := by decide +kernel
theorem dX7_open_53 : decode cX7_open 53 = .ok (.getfield 29, 3) := by decide +kernel
theorem dX7_open_56 : decode cX7_open 56 = .ok (.iload_n 3, 1) := by decide +kernel
theorem dX7_open_57 : decode cX7_open 57 = .ok (.iaload, 1) := by decide +kernel
theorem dX7_open_58 : decode cX7_open 58 = .ok (.aload_n 0, 1) := by decide +kernel
theorem dX7_open_59 : decode cX7_open 59 = .ok (.getfield 32, 3) := by decide +kernel
theorem dX7_open_62 : decode cX7_open 62 = .ok (.iload_n 3, 1) := by decide +kernel
theorem dX7_open_63 : decode cX7_open 63 = .ok (.iaload, 1) := by decide +kernel
theorem dX7_open_64 : decode cX7_open 64 = .ok (.aload_n 0, 1) := by decide +kernel
theorem dX7_open_65 : decode cX7_open 65 = .ok (.getfield 35, 3) := by decide +kernel
theorem dX7_open_68 : decode cX7_open 68 = .ok (.iload_n 3, 1) := by decide +kernel
theorem dX7_open_69 : decode cX7_open 69 = .ok (.iaload, 1) := by decide +kernel
theorem dX7_open_70 : decode cX7_open 70 = .ok (.invokevirtual 191, 3) := by decide +kernel
theorem dX7_open_73 : decode cX7_open 73 = .ok (.ifCond .eq 7, 3) := by decide +kernel
theorem dX7_open_76 : decode cX7_open 76 = .ok (.iconst 1, 1) := by decide +kernel
theorem dX7_open_77 : decode cX7_open 77 = .ok (.goto 4, 3) := by decide +kernel
theorem dX7_open_80 : decode cX7_open 80 = .ok (.iconst 0, 1) := by decide +kernel
theorem dX7_open_81 : decode cX7_open 81 = .ok (.iadd, 1) := by decide +kernel
theorem dX7_open_82 : decode cX7_open 82 = .ok (.istore_n 2, 1) := by decide +kernel
theorem dX7_open_83 : decode cX7_open 83 = .ok (.iinc 3 1, 3) := by decide +kernel
theorem dX7_open_86 : decode cX7_open 86 = .ok (.goto (-57), 3) := by decide +kernel
theorem dX7_open_89 : decode cX7_open 89 = .ok (.iload_n 2, 1) := by decide +kernel
theorem dX7_open_90 : decode cX7_open 90 = .ok (.ireturn, 1) := by decide +kernel
theorem dX7_structure_0 : decode cX7_structure 0 = .ok (.aload_n 0, 1) := by decide +kernel
theorem dX7_structure_1 : decode cX7_structure 1 = .ok (.aload_n 0, 1) := by decide +kernel
theorem dX7_structure_2 : decode cX7_structure 2 = .ok (.getfield 198, 3) := by decide +kernel
theorem dX7_structure_5 : decode cX7_structure 5 = .ok (.bipush 30, 2) := by decide +kernel
theorem dX7_structure_7 : decode cX7_structure 7 = .ok (.if_icmp .ne 7, 3) := by decide +kernel
theorem dX7_structure_10 : decode cX7_structure 10 = .ok (.iconst 1, 1) := by decide +kernel
theorem dX7_structure_11 : decode cX7_structure 11 = .ok (.goto 4, 3) := by decide +kernel
theorem dX7_structure_14 : decode cX7_structure 14 = .ok (.iconst 0, 1) := by decide +kernel
theorem dX7_structure_15 : decode cX7_structure 15 = .ok (.invokevirtual 175, 3) := by decide +kernel
theorem dX7_structure_18 : decode cX7_structure 18 = .ok (.ifCond .eq 5, 3) := by decide +kernel
theorem dX7_structure_21 : decode cX7_structure 21 = .ok (.iconst 0, 1) := by decide +kernel
theorem dX7_structure_22 : decode cX7_structure 22 = .ok (.ireturn, 1) := by decide +kernel
theorem dX7_structure_23 : decode cX7_structure 23 = .ok (.aload_n 0, 1) := by decide +kernel
theorem dX7_structure_24 : decode cX7_structure 24 = .ok (.getfield 23, 3) := by decide +kernel
theorem dX7_structure_27 : decode cX7_structure 27 = .ok (.aload_n 0, 1) := by decide +kernel
theorem dX7_structure_28 : decode cX7_structure 28 = .ok (.getfield 198, 3) := by decide +kernel
theorem dX7_structure_31 : decode cX7_structure 31 = .ok (.iconst 0, 1) := by decide +kernel
theorem dX7_structure_32 : decode cX7_structure 32 = .ok (.iastore, 1) := by decide +kernel
theorem dX7_structure_33 : decode cX7_structure 33 = .ok (.sipush 6000, 3) := by decide +kernel
theorem dX7_structure_36 : decode cX7_structure 36 = .ok (.istore_n 1, 1) := by decide +kernel
theorem dX7_structure_37 : decode cX7_structure 37 = .ok (.iload_n 1, 1) := by decide +kernel
theorem dX7_structure_38 : decode cX7_structure 38 = .ok (.sipush 6000, 3) := by decide +kernel
theorem dX7_structure_41 : decode cX7_structure 41 = .ok (.aload_n 0, 1) := by decide +kernel
theorem dX7_structure_42 : decode cX7_structure 42 = .ok (.getfield 23, 3) := by decide +kernel
theorem dX7_structure_45 : decode cX7_structure 45 = .ok (.bipush 100, 2) := by decide +kernel
theorem dX7_structure_47 : decode cX7_structure 47 = .ok (.iaload, 1) := by decide +kernel
theorem dX7_structure_48 : decode cX7_structure 48 = .ok (.iadd, 1) := by decide +kernel
theorem dX7_structure_49 : decode cX7_structure 49 = .ok (.if_icmp .ge 41, 3) := by decide +kernel
theorem dX7_structure_52 : decode cX7_structure 52 = .ok (.aload_n 0, 1) := by decide +kernel
theorem dX7_structure_53 : decode cX7_structure 53 = .ok (.aload_n 0, 1) := by decide +kernel
theorem dX7_structure_54 : decode cX7_structure 54 = .ok (.getfield 198, 3) := by decide +kernel
theorem dX7_structure_57 : decode cX7_structure 57 = .ok (.aload_n 0, 1) := by decide +kernel
theorem dX7_structure_58 : decode cX7_structure 58 = .ok (.getfield 26, 3) := by decide +kernel
theorem dX7_structure_61 : decode cX7_structure 61 = .ok (.iload_n 1, 1) := by decide +kernel
theorem dX7_structure_62 : decode cX7_structure 62 = .ok (.iaload, 1) := by decide +kernel
theorem dX7_structure_63 : decode cX7_structure 63 = .ok (.aload_n 0, 1) := by decide +kernel
theorem dX7_structure_64 : decode cX7_structure 64 = .ok (.getfield 29, 3) := by decide +kernel
theorem dX7_structure_67 : decode cX7_structure 67 = .ok (.iload_n 1, 1) := by decide +kernel
theorem dX7_structure_68 : decode cX7_structure 68 = .ok (.iaload, 1) := by decide +kernel
theorem dX7_structure_69 : decode cX7_structure 69 = .ok (.aload_n 0, 1) := by decide +kernel
theorem dX7_structure_70 : decode cX7_structure 70 = .ok (.getfield 32, 3) := by decide +kernel
theorem dX7_structure_73 : decode cX7_structure 73 = .ok (.iload_n 1, 1) := by decide +kernel
theorem dX7_structure_74 : decode cX7_structure 74 = .ok (.iaload, 1) := by decide +kernel
theorem dX7_structure_75 : decode cX7_structure 75 = .ok (.aload_n 0, 1) := by decide +kernel
theorem dX7_structure_76 : decode cX7_structure 76 = .ok (.getfield 35, 3) := by decide +kernel
theorem dX7_structure_79 : decode cX7_structure 79 = .ok (.iload_n 1, 1) := by decide +kernel
theorem dX7_structure_80 : decode cX7_structure 80 = .ok (.iaload, 1) := by decide +kernel
theorem dX7_structure_81 : decode cX7_structure 81 = .ok (.invokevirtual 184, 3) := by decide +kernel
theorem dX7_structure_84 : decode cX7_structure 84 = .ok (.iinc 1 1, 3) := by decide +kernel
theorem dX7_structure_87 : decode cX7_structure 87 = .ok (.goto (-50), 3) := by decide +kernel
theorem dX7_structure_90 : decode cX7_structure 90 = .ok (.aload_n 0, 1) := by decide +kernel
theorem dX7_structure_91 : decode cX7_structure 91 = .ok (.getfield 23, 3) := by decide +kernel
theorem dX7_structure_94 : decode cX7_structure 94 = .ok (.bipush 100, 2) := by decide +kernel
theorem dX7_structure_96 : decode cX7_structure 96 = .ok (.iconst 0, 1) := by decide +kernel
theorem dX7_structure_97 : decode cX7_structure 97 = .ok (.iastore, 1) := by decide +kernel
theorem dX7_structure_98 : decode cX7_structure 98 = .ok (.aload_n 0, 1) := by decide +kernel
theorem dX7_structure_99 : decode cX7_structure 99 = .ok (.dup, 1) := by decide +kernel
theorem dX7_structure_100 : decode cX7_structure 100 = .ok (.getfield 198, 3) := by decide +kernel
theorem dX7_structure_103 : decode cX7_structure 103 = .ok (.iconst 1, 1) := by decide +kernel
theorem dX7_structure_104 : decode cX7_structure 104 = .ok (.iadd, 1) := by decide +kernel
theorem dX7_structure_105 : decode cX7_structure 105 = .ok (.putfield 198, 3) := by decide +kernel
theorem dX7_structure_108 : decode cX7_structure 108 = .ok (.aload_n 0, 1) := by decide +kernel
theorem dX7_structure_109 : decode cX7_structure 109 = .ok (.getfield 198, 3) := by decide +kernel
theorem dX7_structure_112 : decode cX7_structure 112 = .ok (.iconst 1, 1) := by decide +kernel
theorem dX7_structure_113 : decode cX7_structure 113 = .ok (.isub, 1) := by decide +kernel
theorem dX7_structure_114 : decode cX7_structure 114 = .ok (.ireturn, 1) := by decide +kernel
theorem dX7_item_0 : decode cX7_item 0 = .ok (.iload_n 2, 1) := by decide +kernel
theorem dX7_item_1 : decode cX7_item 1 = .ok (.iconst 0, 1) := by decide +kernel
theorem dX7_item_2 : decode cX7_item 2 = .ok (.iconst 2, 1) := by decide +kernel
theorem dX7_item_3 : decode cX7_item 3 = .ok (.invokestatic 159, 3) := by decide +kernel
theorem dX7_item_6 : decode cX7_item 6 = .ok (.istore 5, 2) := by decide +kernel
theorem dX7_item_8 : decode cX7_item 8 = .ok (.aload_n 0, 1) := by decide +kernel
theorem dX7_item_9 : decode cX7_item 9 = .ok (.iload_n 1, 1) := by decide +kernel
theorem dX7_item_10 : decode cX7_item 10 = .ok (.invokevirtual 201, 3) := by decide +kernel
theorem dX7_item_13 : decode cX7_item 13 = .ok (.ifCond .eq 18, 3) := by decide +kernel
theorem dX7_item_16 : decode cX7_item 16 = .ok (.iload 5, 2) := by decide +kernel
theorem dX7_item_18 : decode cX7_item 18 = .ok (.ifCond .eq 13, 3) := by decide +kernel
theorem dX7_item_21 : decode cX7_item 21 = .ok (.aload_n 0, 1) := by decide +kernel
theorem dX7_item_22 : decode cX7_item 22 = .ok (.iload_n 1, 1) := by decide +kernel
theorem dX7_item_23 : decode cX7_item 23 = .ok (.iload_n 2, 1) := by decide +kernel
theorem dX7_item_24 : decode cX7_item 24 = .ok (.iload_n 3, 1) := by decide +kernel
theorem dX7_item_25 : decode cX7_item 25 = .ok (.invokevirtual 181, 3) := by decide +kernel
theorem dX7_item_28 : decode cX7_item 28 = .ok (.goto 4, 3) := by decide +kernel
theorem dX7_item_31 : decode cX7_item 31 = .ok (.iconst (-1), 1) := by decide +kernel
theorem dX7_item_32 : decode cX7_item 32 = .ok (.istore 6, 2) := by decide +kernel
theorem dX7_item_34 : decode cX7_item 34 = .ok (.aload_n 0, 1) := by decide +kernel
theorem dX7_item_35 : decode cX7_item 35 = .ok (.aload_n 0, 1) := by decide +kernel
theorem dX7_item_36 : decode cX7_item 36 = .ok (.iload_n 1, 1) := by decide +kernel
theorem dX7_item_37 : decode cX7_item 37 = .ok (.invokevirtual 201, 3) := by decide +kernel
theorem dX7_item_40 : decode cX7_item 40 = .ok (.ifCond .ne 7, 3) := by decide +kernel
theorem dX7_item_43 : decode cX7_item 43 = .ok (.iconst 1, 1) := by decide +kernel
theorem dX7_item_44 : decode cX7_item 44 = .ok (.goto 37, 3) := by decide +kernel
theorem dX7_item_47 : decode cX7_item 47 = .ok (.iload 5, 2) := by decide +kernel
theorem dX7_item_49 : decode cX7_item 49 = .ok (.ifCond .ne 7, 3) := by decide +kernel
theorem dX7_item_52 : decode cX7_item 52 = .ok (.iconst 2, 1) := by decide +kernel
theorem dX7_item_53 : decode cX7_item 53 = .ok (.goto 28, 3) := by decide +kernel
theorem dX7_item_56 : decode cX7_item 56 = .ok (.iload 6, 2) := by decide +kernel
theorem dX7_item_58 : decode cX7_item 58 = .ok (.iconst (-1), 1) := by decide +kernel
theorem dX7_item_59 : decode cX7_item 59 = .ok (.if_icmp .ne 7, 3) := by decide +kernel
theorem dX7_item_62 : decode cX7_item 62 = .ok (.iconst 1, 1) := by decide +kernel
theorem dX7_item_63 : decode cX7_item 63 = .ok (.goto 18, 3) := by decide +kernel
theorem dX7_item_66 : decode cX7_item 66 = .ok (.iload 4, 2) := by decide +kernel
theorem dX7_item_68 : decode cX7_item 68 = .ok (.iconst 0, 1) := by decide +kernel
theorem dX7_item_69 : decode cX7_item 69 = .ok (.iconst 2, 1) := by decide +kernel
theorem dX7_item_70 : decode cX7_item 70 = .ok (.invokestatic 159, 3) := by decide +kernel
theorem dX7_item_73 : decode cX7_item 73 = .ok (.ifCond .eq 7, 3) := by decide +kernel
theorem dX7_item_76 : decode cX7_item 76 = .ok (.iconst 0, 1) := by decide +kernel
theorem dX7_item_77 : decode cX7_item 77 = .ok (.goto 4, 3) := by decide +kernel
theorem dX7_item_80 : decode cX7_item 80 = .ok (.iconst 2, 1) := by decide +kernel
theorem dX7_item_81 : decode cX7_item 81 = .ok (.invokevirtual 175, 3) := by decide +kernel
theorem dX7_item_84 : decode cX7_item 84 = .ok (.ifCond .eq 5, 3) := by decide +kernel
theorem dX7_item_87 : decode cX7_item 87 = .ok (.iconst 0, 1) := by decide +kernel
theorem dX7_item_88 : decode cX7_item 88 = .ok (.ireturn, 1) := by decide +kernel
theorem dX7_item_89 : decode cX7_item 89 = .ok (.iload 4, 2) := by decide +kernel
theorem dX7_item_91 : decode cX7_item 91 = .ok (.ifCond .ne 13, 3) := by decide +kernel
theorem dX7_item_94 : decode cX7_item 94 = .ok (.aload_n 0, 1) := by decide +kernel
theorem dX7_item_95 : decode cX7_item 95 = .ok (.getfield 32, 3) := by decide +kernel
theorem dX7_item_98 : decode cX7_item 98 = .ok (.iload 6, 2) := by decide +kernel
theorem dX7_item_100 : decode cX7_item 100 = .ok (.iaload, 1) := by decide +kernel
theorem dX7_item_101 : decode cX7_item 101 = .ok (.goto 35, 3) := by decide +kernel
theorem dX7_item_104 : decode cX7_item 104 = .ok (.iload 4, 2) := by decide +kernel
theorem dX7_item_106 : decode cX7_item 106 = .ok (.iconst 1, 1) := by decide +kernel
theorem dX7_item_107 : decode cX7_item 107 = .ok (.if_icmp .ne 13, 3) := by decide +kernel
theorem dX7_item_110 : decode cX7_item 110 = .ok (.iload 6, 2) := by decide +kernel
theorem dX7_item_112 : decode cX7_item 112 = .ok (.bipush 60, 2) := by decide +kernel
theorem dX7_item_114 : decode cX7_item 114 = .ok (.iload_n 1, 1) := by decide +kernel
theorem dX7_item_115 : decode cX7_item 115 = .ok (.imul, 1) := by decide +kernel
theorem dX7_item_116 : decode cX7_item 116 = .ok (.isub, 1) := by decide +kernel
theorem dX7_item_117 : decode cX7_item 117 = .ok (.goto 19, 3) := by decide +kernel
theorem dX7_item_120 : decode cX7_item 120 = .ok (.iload_n 2, 1) := by decide +kernel
theorem dX7_item_121 : decode cX7_item 121 = .ok (.iconst 1, 1) := by decide +kernel
theorem dX7_item_122 : decode cX7_item 122 = .ok (.if_icmp .ne 13, 3) := by decide +kernel
theorem dX7_item_125 : decode cX7_item 125 = .ok (.aload_n 0, 1) := by decide +kernel
theorem dX7_item_126 : decode cX7_item 126 = .ok (.getfield 35, 3) := by decide +kernel
theorem dX7_item_129 : decode cX7_item 129 = .ok (.iload 6, 2) := by decide +kernel
theorem dX7_item_131 : decode cX7_item 131 = .ok (.iaload, 1) := by decide +kernel
theorem dX7_item_132 : decode cX7_item 132 = .ok (.goto 4, 3) := by decide +kernel
theorem dX7_item_135 : decode cX7_item 135 = .ok (.iconst 0, 1) := by decide +kernel
theorem dX7_item_136 : decode cX7_item 136 = .ok (.ireturn, 1) := by decide +kernel
theorem dX7_items_0 : decode cX7_items 0 = .ok (.aload_n 0, 1) := by decide +kernel
theorem dX7_items_1 : decode cX7_items 1 = .ok (.aload_n 0, 1) := by decide +kernel
theorem dX7_items_2 : decode cX7_items 2 = .ok (.iload_n 1, 1) := by decide +kernel
theorem dX7_items_3 : decode cX7_items 3 = .ok (.invokevirtual 201, 3) := by decide +kernel
theorem dX7_items_6 : decode cX7_items 6 = .ok (.ifCond .eq 7, 3) := by decide +kernel
theorem dX7_items_9 : decode cX7_items 9 = .ok (.iconst 0, 1) := by decide +kernel
theorem dX7_items_10 : decode cX7_items 10 = .ok (.goto 4, 3) := by decide +kernel
theorem dX7_items_13 : decode cX7_items 13 = .ok (.iconst 1, 1) := by decide +kernel
theorem dX7_items_14 : decode cX7_items 14 = .ok (.invokevirtual 175, 3) := by decide +kernel
theorem dX7_items_17 : decode cX7_items 17 = .ok (.ifCond .eq 7, 3) := by decide +kernel
theorem dX7_items_20 : decode cX7_items 20 = .ok (.iconst 0, 1) := by decide +kernel
theorem dX7_items_21 : decode cX7_items 21 = .ok (.goto 9, 3) := by decide +kernel
theorem dX7_items_24 : decode cX7_items 24 = .ok (.aload_n 0, 1) := by decide +kernel
theorem dX7_items_25 : decode cX7_items 25 = .ok (.getfield 23, 3) := by decide +kernel
theorem dX7_items_28 : decode cX7_items 28 = .ok (.iload_n 1, 1) := by decide +kernel
theorem dX7_items_29 : decode cX7_items 29 = .ok (.iaload, 1) := by decide +kernel
theorem dX7_items_30 : decode cX7_items 30 = .ok (.ireturn, 1) := by decide +kernel
theorem dX7_isSignature_0 : decode cX7_isSignature 0 = .ok (.iload_n 1, 1) := by decide +kernel
theorem dX7_isSignature_1 : decode cX7_isSignature 1 = .ok (.iconst 0, 1) := by decide +kernel
theorem dX7_isSignature_2 : decode cX7_isSignature 2 = .ok (.aload_n 0, 1) := by decide +kernel
theorem dX7_isSignature_3 : decode cX7_isSignature 3 = .ok (.getfield 204, 3) := by decide +kernel
theorem dX7_isSignature_6 : decode cX7_isSignature 6 = .ok (.iconst 1, 1) := by decide +kernel
theorem dX7_isSignature_7 : decode cX7_isSignature 7 = .ok (.isub, 1) := by decide +kernel
theorem dX7_isSignature_8 : decode cX7_isSignature 8 = .ok (.invokestatic 159, 3) := by decide +kernel
theorem dX7_isSignature_11 : decode cX7_isSignature 11 = .ok (.ireturn, 1) := by decide +kernel
theorem dX7_findsSpec_0 : decode cX7_findsSpec 0 = .ok (.iconst (-1), 1) := by decide +kernel
theorem dX7_findsSpec_1 : decode cX7_findsSpec 1 = .ok (.istore 4, 2) := by decide +kernel
theorem dX7_findsSpec_3 : decode cX7_findsSpec 3 = .ok (.bipush 60, 2) := by decide +kernel
theorem dX7_findsSpec_5 : decode cX7_findsSpec 5 = .ok (.iload_n 1, 1) := by decide +kernel
theorem dX7_findsSpec_6 : decode cX7_findsSpec 6 = .ok (.imul, 1) := by decide +kernel
theorem dX7_findsSpec_7 : decode cX7_findsSpec 7 = .ok (.istore 5, 2) := by decide +kernel
theorem dX7_findsSpec_9 : decode cX7_findsSpec 9 = .ok (.iload 5, 2) := by decide +kernel
theorem dX7_findsSpec_11 : decode cX7_findsSpec 11 = .ok (.bipush 60, 2) := by decide +kernel
theorem dX7_findsSpec_13 : decode cX7_findsSpec 13 = .ok (.iload_n 1, 1) := by decide +kernel
theorem dX7_findsSpec_14 : decode cX7_findsSpec 14 = .ok (.imul, 1) := by decide +kernel
theorem dX7_findsSpec_15 : decode cX7_findsSpec 15 = .ok (.aload_n 0, 1) := by decide +kernel
theorem dX7_findsSpec_16 : decode cX7_findsSpec 16 = .ok (.getfield 38, 3) := by decide +kernel
theorem dX7_findsSpec_19 : decode cX7_findsSpec 19 = .ok (.iload_n 1, 1) := by decide +kernel
theorem dX7_findsSpec_20 : decode cX7_findsSpec 20 = .ok (.iaload, 1) := by decide +kernel
theorem dX7_findsSpec_21 : decode cX7_findsSpec 21 = .ok (.iadd, 1) := by decide +kernel
theorem dX7_findsSpec_22 : decode cX7_findsSpec 22 = .ok (.if_icmp .ge 40, 3) := by decide +kernel
theorem dX7_findsSpec_25 : decode cX7_findsSpec 25 = .ok (.aload_n 0, 1) := by decide +kernel
theorem dX7_findsSpec_26 : decode cX7_findsSpec 26 = .ok (.getfield 44, 3) := by decide +kernel
theorem dX7_findsSpec_29 : decode cX7_findsSpec 29 = .ok (.iload 5, 2) := by decide +kernel
theorem dX7_findsSpec_31 : decode cX7_findsSpec 31 = .ok (.iaload, 1) := by decide +kernel
theorem dX7_findsSpec_32 : decode cX7_findsSpec 32 = .ok (.iload_n 2, 1) := by decide +kernel
theorem dX7_findsSpec_33 : decode cX7_findsSpec 33 = .ok (.if_icmp .ne 19, 3) := by decide +kernel
theorem dX7_findsSpec_36 : decode cX7_findsSpec 36 = .ok (.aload_n 0, 1) := by decide +kernel
theorem dX7_findsSpec_37 : decode cX7_findsSpec 37 = .ok (.getfield 47, 3) := by decide +kernel
theorem dX7_findsSpec_40 : decode cX7_findsSpec 40 = .ok (.iload 5, 2) := by decide +kernel
theorem dX7_findsSpec_42 : decode cX7_findsSpec 42 = .ok (.iaload, 1) := by decide +kernel
theorem dX7_findsSpec_43 : decode cX7_findsSpec 43 = .ok (.iload_n 3, 1) := by decide +kernel
theorem dX7_findsSpec_44 : decode cX7_findsSpec 44 = .ok (.if_icmp .ne 8, 3) := by decide +kernel
theorem dX7_findsSpec_47 : decode cX7_findsSpec 47 = .ok (.iload 5, 2) := by decide +kernel
theorem dX7_findsSpec_49 : decode cX7_findsSpec 49 = .ok (.goto 5, 3) := by decide +kernel
theorem dX7_findsSpec_52 : decode cX7_findsSpec 52 = .ok (.iload 4, 2) := by decide +kernel
theorem dX7_findsSpec_54 : decode cX7_findsSpec 54 = .ok (.istore 4, 2) := by decide +kernel
theorem dX7_findsSpec_56 : decode cX7_findsSpec 56 = .ok (.iinc 5 1, 3) := by decide +kernel
theorem dX7_findsSpec_59 : decode cX7_findsSpec 59 = .ok (.goto (-50), 3) := by decide +kernel
theorem dX7_findsSpec_62 : decode cX7_findsSpec 62 = .ok (.iload 4, 2) := by decide +kernel
theorem dX7_findsSpec_64 : decode cX7_findsSpec 64 = .ok (.ireturn, 1) := by decide +kernel
theorem dX7_isTold_0 : decode cX7_isTold 0 = .ok (.iload_n 1, 1) := by decide +kernel
theorem dX7_isTold_1 : decode cX7_isTold 1 = .ok (.ifCond .lt 11, 3) := by decide +kernel
theorem dX7_isTold_4 : decode cX7_isTold 4 = .ok (.aload_n 0, 1) := by decide +kernel
theorem dX7_isTold_5 : decode cX7_isTold 5 = .ok (.iload_n 1, 1) := by decide +kernel
theorem dX7_isTold_6 : decode cX7_isTold 6 = .ok (.invokevirtual 171, 3) := by decide +kernel
theorem dX7_isTold_9 : decode cX7_isTold 9 = .ok (.goto 22, 3) := by decide +kernel
theorem dX7_isTold_12 : decode cX7_isTold 12 = .ok (.aload_n 0, 1) := by decide +kernel
theorem dX7_isTold_13 : decode cX7_isTold 13 = .ok (.bipush 20, 2) := by decide +kernel
theorem dX7_isTold_15 : decode cX7_isTold 15 = .ok (.iconst 0, 1) := by decide +kernel
theorem dX7_isTold_16 : decode cX7_isTold 16 = .ok (.iconst (-1), 1) := by decide +kernel
theorem dX7_isTold_17 : decode cX7_isTold 17 = .ok (.iload_n 1, 1) := by decide +kernel
theorem dX7_isTold_18 : decode cX7_isTold 18 = .ok (.isub, 1) := by decide +kernel
theorem dX7_isTold_19 : decode cX7_isTold 19 = .ok (.invokevirtual 207, 3) := by decide +kernel
theorem dX7_isTold_22 : decode cX7_isTold 22 = .ok (.iconst (-1), 1) := by decide +kernel
theorem dX7_isTold_23 : decode cX7_isTold 23 = .ok (.if_icmp .eq 7, 3) := by decide +kernel
theorem dX7_isTold_26 : decode cX7_isTold 26 = .ok (.iconst 1, 1) := by decide +kernel
theorem dX7_isTold_27 : decode cX7_isTold 27 = .ok (.goto 4, 3) := by decide +kernel
theorem dX7_isTold_30 : decode cX7_isTold 30 = .ok (.iconst 0, 1) := by decide +kernel
theorem dX7_isTold_31 : decode cX7_isTold 31 = .ok (.ireturn, 1) := by decide +kernel
theorem dX7_specifies_0 : decode cX7_specifies 0 = .ok (.bipush 60, 2) := by decide +kernel
theorem dX7_specifies_2 : decode cX7_specifies 2 = .ok (.iload_n 1, 1) := by decide +kernel
theorem dX7_specifies_3 : decode cX7_specifies 3 = .ok (.imul, 1) := by decide +kernel
theorem dX7_specifies_4 : decode cX7_specifies 4 = .ok (.aload_n 0, 1) := by decide +kernel
theorem dX7_specifies_5 : decode cX7_specifies 5 = .ok (.getfield 38, 3) := by decide +kernel
theorem dX7_specifies_8 : decode cX7_specifies 8 = .ok (.iload_n 1, 1) := by decide +kernel
theorem dX7_specifies_9 : decode cX7_specifies 9 = .ok (.iaload, 1) := by decide +kernel
theorem dX7_specifies_10 : decode cX7_specifies 10 = .ok (.iadd, 1) := by decide +kernel
theorem dX7_specifies_11 : decode cX7_specifies 11 = .ok (.istore 7, 2) := by decide +kernel
theorem dX7_specifies_13 : decode cX7_specifies 13 = .ok (.aload_n 0, 1) := by decide +kernel
theorem dX7_specifies_14 : decode cX7_specifies 14 = .ok (.getfield 44, 3) := by decide +kernel
theorem dX7_specifies_17 : decode cX7_specifies 17 = .ok (.iload 7, 2) := by decide +kernel
theorem dX7_specifies_19 : decode cX7_specifies 19 = .ok (.iload_n 2, 1) := by decide +kernel
theorem dX7_specifies_20 : decode cX7_specifies 20 = .ok (.iastore, 1) := by decide +kernel
theorem dX7_specifies_21 : decode cX7_specifies 21 = .ok (.aload_n 0, 1) := by decide +kernel
theorem dX7_specifies_22 : decode cX7_specifies 22 = .ok (.getfield 47, 3) := by decide +kernel
theorem dX7_specifies_25 : decode cX7_specifies 25 = .ok (.iload 7, 2) := by decide +kernel
theorem dX7_specifies_27 : decode cX7_specifies 27 = .ok (.iload_n 3, 1) := by decide +kernel
theorem dX7_specifies_28 : decode cX7_specifies 28 = .ok (.iastore, 1) := by decide +kernel
theorem dX7_specifies_29 : decode cX7_specifies 29 = .ok (.aload_n 0, 1) := by decide +kernel
theorem dX7_specifies_30 : decode cX7_specifies 30 = .ok (.getfield 50, 3) := by decide +kernel
theorem dX7_specifies_33 : decode cX7_specifies 33 = .ok (.iload 7, 2) := by decide +kernel
theorem dX7_specifies_35 : decode cX7_specifies 35 = .ok (.iload 4, 2) := by decide +kernel
theorem dX7_specifies_37 : decode cX7_specifies 37 = .ok (.iastore, 1) := by decide +kernel
theorem dX7_specifies_38 : decode cX7_specifies 38 = .ok (.aload_n 0, 1) := by decide +kernel
theorem dX7_specifies_39 : decode cX7_specifies 39 = .ok (.getfield 53, 3) := by decide +kernel
theorem dX7_specifies_42 : decode cX7_specifies 42 = .ok (.iload 7, 2) := by decide +kernel
theorem dX7_specifies_44 : decode cX7_specifies 44 = .ok (.iload 5, 2) := by decide +kernel
theorem dX7_specifies_46 : decode cX7_specifies 46 = .ok (.iastore, 1) := by decide +kernel
theorem dX7_specifies_47 : decode cX7_specifies 47 = .ok (.aload_n 0, 1) := by decide +kernel
theorem dX7_specifies_48 : decode cX7_specifies 48 = .ok (.getfield 38, 3) := by decide +kernel
theorem dX7_specifies_51 : decode cX7_specifies 51 = .ok (.iload_n 1, 1) := by decide +kernel
theorem dX7_specifies_52 : decode cX7_specifies 52 = .ok (.dup2, 1) := by decide +kernel
theorem dX7_specifies_53 : decode cX7_specifies 53 = .ok (.iaload, 1) := by decide +kernel
theorem dX7_specifies_54 : decode cX7_specifies 54 = .ok (.iconst 1, 1) := by decide +kernel
theorem dX7_specifies_55 : decode cX7_specifies 55 = .ok (.iadd, 1) := by decide +kernel
theorem dX7_specifies_56 : decode cX7_specifies 56 = .ok (.iastore, 1) := by decide +kernel
theorem dX7_specifies_57 : decode cX7_specifies 57 = .ok (.aload_n 0, 1) := by decide +kernel
theorem dX7_specifies_58 : decode cX7_specifies 58 = .ok (.getfield 41, 3) := by decide +kernel
theorem dX7_specifies_61 : decode cX7_specifies 61 = .ok (.iload_n 1, 1) := by decide +kernel
theorem dX7_specifies_62 : decode cX7_specifies 62 = .ok (.dup2, 1) := by decide +kernel
theorem dX7_specifies_63 : decode cX7_specifies 63 = .ok (.iaload, 1) := by decide +kernel
theorem dX7_specifies_64 : decode cX7_specifies 64 = .ok (.iload 6, 2) := by decide +kernel
theorem dX7_specifies_66 : decode cX7_specifies 66 = .ok (.iadd, 1) := by decide +kernel
theorem dX7_specifies_67 : decode cX7_specifies 67 = .ok (.iastore, 1) := by decide +kernel
theorem dX7_specifies_68 : decode cX7_specifies 68 = .ok (.return_, 1) := by decide +kernel
theorem dX7_specType_0 : decode cX7_specType 0 = .ok (.iload_n 2, 1) := by decide +kernel
theorem dX7_specType_1 : decode cX7_specType 1 = .ok (.bipush (-100), 2) := by decide +kernel
theorem dX7_specType_3 : decode cX7_specType 3 = .ok (.if_icmp .eq 11, 3) := by decide +kernel
theorem dX7_specType_6 : decode cX7_specType 6 = .ok (.aload_n 0, 1) := by decide +kernel
theorem dX7_specType_7 : decode cX7_specType 7 = .ok (.iload_n 2, 1) := by decide +kernel
theorem dX7_specType_8 : decode cX7_specType 8 = .ok (.invokevirtual 210, 3) := by decide +kernel
theorem dX7_specType_11 : decode cX7_specType 11 = .ok (.ifCond .eq 7, 3) := by decide +kernel
theorem dX7_specType_14 : decode cX7_specType 14 = .ok (.iconst 1, 1) := by decide +kernel
theorem dX7_specType_15 : decode cX7_specType 15 = .ok (.goto 4, 3) := by decide +kernel
theorem dX7_specType_18 : decode cX7_specType 18 = .ok (.iconst 0, 1) := by decide +kernel
theorem dX7_specType_19 : decode cX7_specType 19 = .ok (.istore_n 3, 1) := by decide +kernel
theorem dX7_specType_20 : decode cX7_specType 20 = .ok (.aload_n 0, 1) := by decide +kernel
theorem dX7_specType_21 : decode cX7_specType 21 = .ok (.iload_n 3, 1) := by decide +kernel
theorem dX7_specType_22 : decode cX7_specType 22 = .ok (.ifCond .ne 7, 3) := by decide +kernel
theorem dX7_specType_25 : decode cX7_specType 25 = .ok (.iconst 1, 1) := by decide +kernel
theorem dX7_specType_26 : decode cX7_specType 26 = .ok (.goto 43, 3) := by decide +kernel
theorem dX7_specType_29 : decode cX7_specType 29 = .ok (.iload_n 1, 1) := by decide +kernel
theorem dX7_specType_30 : decode cX7_specType 30 = .ok (.invokestatic 188, 3) := by decide +kernel
theorem dX7_specType_33 : decode cX7_specType 33 = .ok (.ifCond .ne 7, 3) := by decide +kernel
theorem dX7_specType_36 : decode cX7_specType 36 = .ok (.iconst 2, 1) := by decide +kernel
theorem dX7_specType_37 : decode cX7_specType 37 = .ok (.goto 32, 3) := by decide +kernel
theorem dX7_specType_40 : decode cX7_specType 40 = .ok (.aload_n 0, 1) := by decide +kernel
theorem dX7_specType_41 : decode cX7_specType 41 = .ok (.bipush 20, 2) := by decide +kernel
theorem dX7_specType_43 : decode cX7_specType 43 = .ok (.iconst 0, 1) := by decide +kernel
theorem dX7_specType_44 : decode cX7_specType 44 = .ok (.iload_n 1, 1) := by decide +kernel
theorem dX7_specType_45 : decode cX7_specType 45 = .ok (.invokevirtual 207, 3) := by decide +kernel
theorem dX7_specType_48 : decode cX7_specType 48 = .ok (.iconst (-1), 1) := by decide +kernel
theorem dX7_specType_49 : decode cX7_specType 49 = .ok (.if_icmp .ne 15, 3) := by decide +kernel
theorem dX7_specType_52 : decode cX7_specType 52 = .ok (.aload_n 0, 1) := by decide +kernel
theorem dX7_specType_53 : decode cX7_specType 53 = .ok (.getfield 41, 3) := by decide +kernel
theorem dX7_specType_56 : decode cX7_specType 56 = .ok (.bipush 20, 2) := by decide +kernel
theorem dX7_specType_58 : decode cX7_specType 58 = .ok (.iaload, 1) := by decide +kernel
theorem dX7_specType_59 : decode cX7_specType 59 = .ok (.bipush 60, 2) := by decide +kernel
theorem dX7_specType_61 : decode cX7_specType 61 = .ok (.if_icmp .ne 7, 3) := by decide +kernel
theorem dX7_specType_64 : decode cX7_specType 64 = .ok (.iconst 3, 1) := by decide +kernel
theorem dX7_specType_65 : decode cX7_specType 65 = .ok (.goto 4, 3) := by decide +kernel
theorem dX7_specType_68 : decode cX7_specType 68 = .ok (.iconst 0, 1) := by decide +kernel
theorem dX7_specType_69 : decode cX7_specType 69 = .ok (.invokevirtual 175, 3) := by decide +kernel
theorem dX7_specType_72 : decode cX7_specType 72 = .ok (.ifCond .eq 5, 3) := by decide +kernel
theorem dX7_specType_75 : decode cX7_specType 75 = .ok (.iconst 0, 1) := by decide +kernel
theorem dX7_specType_76 : decode cX7_specType 76 = .ok (.ireturn, 1) := by decide +kernel
theorem dX7_specType_77 : decode cX7_specType 77 = .ok (.aload_n 0, 1) := by decide +kernel
theorem dX7_specType_78 : decode cX7_specType 78 = .ok (.bipush 20, 2) := by decide +kernel
theorem dX7_specType_80 : decode cX7_specType 80 = .ok (.iconst 0, 1) := by decide +kernel
theorem dX7_specType_81 : decode cX7_specType 81 = .ok (.iload_n 1, 1) := by decide +kernel
theorem dX7_specType_82 : decode cX7_specType 82 = .ok (.iload_n 2, 1) := by decide +kernel
theorem dX7_specType_83 : decode cX7_specType 83 = .ok (.bipush (-100), 2) := by decide +kernel
theorem dX7_specType_85 : decode cX7_specType 85 = .ok (.iconst 1, 1) := by decide +kernel
theorem dX7_specType_86 : decode cX7_specType 86 = .ok (.invokevirtual 213, 3) := by decide +kernel
theorem dX7_specType_89 : decode cX7_specType 89 = .ok (.aload_n 0, 1) := by decide +kernel
theorem dX7_specType_90 : decode cX7_specType 90 = .ok (.getfield 38, 3) := by decide +kernel
theorem dX7_specType_93 : decode cX7_specType 93 = .ok (.bipush 20, 2) := by decide +kernel
theorem dX7_specType_95 : decode cX7_specType 95 = .ok (.iaload, 1) := by decide +kernel
theorem dX7_specType_96 : decode cX7_specType 96 = .ok (.ireturn, 1) := by decide +kernel
theorem dX7_specValue_0 : decode cX7_specValue 0 = .ok (.aload_n 0, 1) := by decide +kernel
theorem dX7_specValue_1 : decode cX7_specValue 1 = .ok (.iload_n 2, 1) := by decide +kernel
theorem dX7_specValue_2 : decode cX7_specValue 2 = .ok (.invokevirtual 210, 3) := by decide +kernel
theorem dX7_specValue_5 : decode cX7_specValue 5 = .ok (.ifCond .eq 21, 3) := by decide +kernel
theorem dX7_specValue_8 : decode cX7_specValue 8 = .ok (.iload_n 3, 1) := by decide +kernel
theorem dX7_specValue_9 : decode cX7_specValue 9 = .ok (.bipush (-100), 2) := by decide +kernel
theorem dX7_specValue_11 : decode cX7_specValue 11 = .ok (.if_icmp .eq 11, 3) := by decide +kernel
theorem dX7_specValue_14 : decode cX7_specValue 14 = .ok (.aload_n 0, 1) := by decide +kernel
theorem dX7_specValue_15 : decode cX7_specValue 15 = .ok (.iload_n 3, 1) := by decide +kernel
theorem dX7_specValue_16 : decode cX7_specValue 16 = .ok (.invokevirtual 210, 3) := by decide +kernel
theorem dX7_specValue_19 : decode cX7_specValue 19 = .ok (.ifCond .eq 7, 3) := by decide +kernel
theorem dX7_specValue_22 : decode cX7_specValue 22 = .ok (.iconst 1, 1) := by decide +kernel
theorem dX7_specValue_23 : decode cX7_specValue 23 = .ok (.goto 4, 3) := by decide +kernel
theorem dX7_specValue_26 : decode cX7_specValue 26 = .ok (.iconst 0, 1) := by decide +kernel
theorem dX7_specValue_27 : decode cX7_specValue 27 = .ok (.istore 4, 2) := by decide +kernel
theorem dX7_specValue_29 : decode cX7_specValue 29 = .ok (.aload_n 0, 1) := by decide +kernel
theorem dX7_specValue_30 : decode cX7_specValue 30 = .ok (.iload 4, 2) := by decide +kernel
theorem dX7_specValue_32 : decode cX7_specValue 32 = .ok (.ifCond .ne 7, 3) := by decide +kernel
theorem dX7_specValue_35 : decode cX7_specValue 35 = .ok (.iconst 1, 1) := by decide +kernel
theorem dX7_specValue_36 : decode cX7_specValue 36 = .ok (.goto 43, 3) := by decide +kernel
theorem dX7_specValue_39 : decode cX7_specValue 39 = .ok (.iload_n 1, 1) := by decide +kernel
theorem dX7_specValue_40 : decode cX7_specValue 40 = .ok (.invokestatic 188, 3) := by decide +kernel
theorem dX7_specValue_43 : decode cX7_specValue 43 = .ok (.ifCond .ne 7, 3) := by decide +kernel
theorem dX7_specValue_46 : decode cX7_specValue 46 = .ok (.iconst 2, 1) := by decide +kernel
theorem dX7_specValue_47 : decode cX7_specValue 47 = .ok (.goto 32, 3) := by decide +kernel
theorem dX7_specValue_50 : decode cX7_specValue 50 = .ok (.aload_n 0, 1) := by decide +kernel
theorem dX7_specValue_51 : decode cX7_specValue 51 = .ok (.bipush 20, 2) := by decide +kernel
theorem dX7_specValue_53 : decode cX7_specValue 53 = .ok (.iconst 1, 1) := by decide +kernel
theorem dX7_specValue_54 : decode cX7_specValue 54 = .ok (.iload_n 1, 1) := by decide +kernel
theorem dX7_specValue_55 : decode cX7_specValue 55 = .ok (.invokevirtual 207, 3) := by decide +kernel
theorem dX7_specValue_58 : decode cX7_specValue 58 = .ok (.iconst (-1), 1) := by decide +kernel
theorem dX7_specValue_59 : decode cX7_specValue 59 = .ok (.if_icmp .ne 15, 3) := by decide +kernel
theorem dX7_specValue_62 : decode cX7_specValue 62 = .ok (.aload_n 0, 1) := by decide +kernel
theorem dX7_specValue_63 : decode cX7_specValue 63 = .ok (.getfield 41, 3) := by decide +kernel
theorem dX7_specValue_66 : decode cX7_specValue 66 = .ok (.bipush 20, 2) := by decide +kernel
theorem dX7_specValue_68 : decode cX7_specValue 68 = .ok (.iaload, 1) := by decide +kernel
theorem dX7_specValue_69 : decode cX7_specValue 69 = .ok (.bipush 60, 2) := by decide +kernel
theorem dX7_specValue_71 : decode cX7_specValue 71 = .ok (.if_icmp .ne 7, 3) := by decide +kernel
theorem dX7_specValue_74 : decode cX7_specValue 74 = .ok (.iconst 3, 1) := by decide +kernel
theorem dX7_specValue_75 : decode cX7_specValue 75 = .ok (.goto 4, 3) := by decide +kernel
theorem dX7_specValue_78 : decode cX7_specValue 78 = .ok (.iconst 0, 1) := by decide +kernel
theorem dX7_specValue_79 : decode cX7_specValue 79 = .ok (.invokevirtual 175, 3) := by decide +kernel
theorem dX7_specValue_82 : decode cX7_specValue 82 = .ok (.ifCond .eq 5, 3) := by decide +kernel
theorem dX7_specValue_85 : decode cX7_specValue 85 = .ok (.iconst 0, 1) := by decide +kernel
theorem dX7_specValue_86 : decode cX7_specValue 86 = .ok (.ireturn, 1) := by decide +kernel
theorem dX7_specValue_87 : decode cX7_specValue 87 = .ok (.aload_n 0, 1) := by decide +kernel
theorem dX7_specValue_88 : decode cX7_specValue 88 = .ok (.bipush 20, 2) := by decide +kernel
theorem dX7_specValue_90 : decode cX7_specValue 90 = .ok (.iconst 1, 1) := by decide +kernel
theorem dX7_specValue_91 : decode cX7_specValue 91 = .ok (.iload_n 1, 1) := by decide +kernel
theorem dX7_specValue_92 : decode cX7_specValue 92 = .ok (.iload_n 2, 1) := by decide +kernel
theorem dX7_specValue_93 : decode cX7_specValue 93 = .ok (.iload_n 3, 1) := by decide +kernel
theorem dX7_specValue_94 : decode cX7_specValue 94 = .ok (.iconst 1, 1) := by decide +kernel
theorem dX7_specValue_95 : decode cX7_specValue 95 = .ok (.invokevirtual 213, 3) := by decide +kernel
theorem dX7_specValue_98 : decode cX7_specValue 98 = .ok (.aload_n 0, 1) := by decide +kernel
theorem dX7_specValue_99 : decode cX7_specValue 99 = .ok (.getfield 38, 3) := by decide +kernel
theorem dX7_specValue_102 : decode cX7_specValue 102 = .ok (.bipush 20, 2) := by decide +kernel
theorem dX7_specValue_104 : decode cX7_specValue 104 = .ok (.iaload, 1) := by decide +kernel
theorem dX7_specValue_105 : decode cX7_specValue 105 = .ok (.ireturn, 1) := by decide +kernel
theorem dX7_specPart_0 : decode cX7_specPart 0 = .ok (.aload_n 0, 1) := by decide +kernel
theorem dX7_specPart_1 : decode cX7_specPart 1 = .ok (.iload_n 2, 1) := by decide +kernel
theorem dX7_specPart_2 : decode cX7_specPart 2 = .ok (.invokevirtual 217, 3) := by decide +kernel
theorem dX7_specPart_5 : decode cX7_specPart 5 = .ok (.istore_n 3, 1) := by decide +kernel
theorem dX7_specPart_6 : decode cX7_specPart 6 = .ok (.iload_n 3, 1) := by decide +kernel
theorem dX7_specPart_7 : decode cX7_specPart 7 = .ok (.ifCond .eq 14, 3) := by decide +kernel
theorem dX7_specPart_10 : decode cX7_specPart 10 = .ok (.iconst 1, 1) := by decide +kernel
theorem dX7_specPart_11 : decode cX7_specPart 11 = .ok (.aload_n 0, 1) := by decide +kernel
theorem dX7_specPart_12 : decode cX7_specPart 12 = .ok (.getfield 41, 3) := by decide +kernel
theorem dX7_specPart_15 : decode cX7_specPart 15 = .ok (.iload_n 2, 1) := by decide +kernel
theorem dX7_specPart_16 : decode cX7_specPart 16 = .ok (.iaload, 1) := by decide +kernel
theorem dX7_specPart_17 : decode cX7_specPart 17 = .ok (.iadd, 1) := by decide +kernel
theorem dX7_specPart_18 : decode cX7_specPart 18 = .ok (.goto 4, 3) := by decide +kernel
theorem dX7_specPart_21 : decode cX7_specPart 21 = .ok (.iconst 0, 1) := by decide +kernel
theorem dX7_specPart_22 : decode cX7_specPart 22 = .ok (.istore 4, 2) := by decide +kernel
theorem dX7_specPart_24 : decode cX7_specPart 24 = .ok (.aload_n 0, 1) := by decide +kernel
theorem dX7_specPart_25 : decode cX7_specPart 25 = .ok (.iload_n 3, 1) := by decide +kernel
theorem dX7_specPart_26 : decode cX7_specPart 26 = .ok (.ifCond .ne 7, 3) := by decide +kernel
theorem dX7_specPart_29 : decode cX7_specPart 29 = .ok (.iconst 1, 1) := by decide +kernel
theorem dX7_specPart_30 : decode cX7_specPart 30 = .ok (.goto 46, 3) := by decide +kernel
theorem dX7_specPart_33 : decode cX7_specPart 33 = .ok (.iload_n 1, 1) := by decide +kernel
theorem dX7_specPart_34 : decode cX7_specPart 34 = .ok (.invokestatic 188, 3) := by decide +kernel
theorem dX7_specPart_37 : decode cX7_specPart 37 = .ok (.ifCond .ne 7, 3) := by decide +kernel
theorem dX7_specPart_40 : decode cX7_specPart 40 = .ok (.iconst 2, 1) := by decide +kernel
theorem dX7_specPart_41 : decode cX7_specPart 41 = .ok (.goto 35, 3) := by decide +kernel
theorem dX7_specPart_44 : decode cX7_specPart 44 = .ok (.aload_n 0, 1) := by decide +kernel
theorem dX7_specPart_45 : decode cX7_specPart 45 = .ok (.bipush 20, 2) := by decide +kernel
theorem dX7_specPart_47 : decode cX7_specPart 47 = .ok (.iconst 2, 1) := by decide +kernel
theorem dX7_specPart_48 : decode cX7_specPart 48 = .ok (.iload_n 1, 1) := by decide +kernel
theorem dX7_specPart_49 : decode cX7_specPart 49 = .ok (.invokevirtual 207, 3) := by decide +kernel
theorem dX7_specPart_52 : decode cX7_specPart 52 = .ok (.iconst (-1), 1) := by decide +kernel
theorem dX7_specPart_53 : decode cX7_specPart 53 = .ok (.if_icmp .ne 18, 3) := by decide +kernel
theorem dX7_specPart_56 : decode cX7_specPart 56 = .ok (.aload_n 0, 1) := by decide +kernel
theorem dX7_specPart_57 : decode cX7_specPart 57 = .ok (.getfield 41, 3) := by decide +kernel
theorem dX7_specPart_60 : decode cX7_specPart 60 = .ok (.bipush 20, 2) := by decide +kernel
theorem dX7_specPart_62 : decode cX7_specPart 62 = .ok (.iaload, 1) := by decide +kernel
theorem dX7_specPart_63 : decode cX7_specPart 63 = .ok (.iload 4, 2) := by decide +kernel
theorem dX7_specPart_65 : decode cX7_specPart 65 = .ok (.iadd, 1) := by decide +kernel
theorem dX7_specPart_66 : decode cX7_specPart 66 = .ok (.bipush 60, 2) := by decide +kernel
theorem dX7_specPart_68 : decode cX7_specPart 68 = .ok (.if_icmp .le 7, 3) := by decide +kernel
theorem dX7_specPart_71 : decode cX7_specPart 71 = .ok (.iconst 3, 1) := by decide +kernel
theorem dX7_specPart_72 : decode cX7_specPart 72 = .ok (.goto 4, 3) := by decide +kernel
theorem dX7_specPart_75 : decode cX7_specPart 75 = .ok (.iconst 0, 1) := by decide +kernel
theorem dX7_specPart_76 : decode cX7_specPart 76 = .ok (.invokevirtual 175, 3) := by decide +kernel
theorem dX7_specPart_79 : decode cX7_specPart 79 = .ok (.ifCond .eq 5, 3) := by decide +kernel
theorem dX7_specPart_82 : decode cX7_specPart 82 = .ok (.iconst 0, 1) := by decide +kernel
theorem dX7_specPart_83 : decode cX7_specPart 83 = .ok (.ireturn, 1) := by decide +kernel
theorem dX7_specPart_84 : decode cX7_specPart 84 = .ok (.aload_n 0, 1) := by decide +kernel
theorem dX7_specPart_85 : decode cX7_specPart 85 = .ok (.bipush 20, 2) := by decide +kernel
theorem dX7_specPart_87 : decode cX7_specPart 87 = .ok (.iconst 2, 1) := by decide +kernel
theorem dX7_specPart_88 : decode cX7_specPart 88 = .ok (.iload_n 1, 1) := by decide +kernel
theorem dX7_specPart_89 : decode cX7_specPart 89 = .ok (.iload_n 2, 1) := by decide +kernel
theorem dX7_specPart_90 : decode cX7_specPart 90 = .ok (.bipush (-100), 2) := by decide +kernel
theorem dX7_specPart_92 : decode cX7_specPart 92 = .ok (.iload 4, 2) := by decide +kernel
theorem dX7_specPart_94 : decode cX7_specPart 94 = .ok (.invokevirtual 213, 3) := by decide +kernel
theorem dX7_specPart_97 : decode cX7_specPart 97 = .ok (.aload_n 0, 1) := by decide +kernel
theorem dX7_specPart_98 : decode cX7_specPart 98 = .ok (.getfield 38, 3) := by decide +kernel
theorem dX7_specPart_101 : decode cX7_specPart 101 = .ok (.bipush 20, 2) := by decide +kernel
theorem dX7_specPart_103 : decode cX7_specPart 103 = .ok (.iaload, 1) := by decide +kernel
theorem dX7_specPart_104 : decode cX7_specPart 104 = .ok (.ireturn, 1) := by decide +kernel
theorem dX7_weightOf_0 : decode cX7_weightOf 0 = .ok (.aload_n 0, 1) := by decide +kernel
theorem dX7_weightOf_1 : decode cX7_weightOf 1 = .ok (.getfield 44, 3) := by decide +kernel
theorem dX7_weightOf_4 : decode cX7_weightOf 4 = .ok (.iload_n 1, 1) := by decide +kernel
theorem dX7_weightOf_5 : decode cX7_weightOf 5 = .ok (.iaload, 1) := by decide +kernel
theorem dX7_weightOf_6 : decode cX7_weightOf 6 = .ok (.iconst 2, 1) := by decide +kernel
theorem dX7_weightOf_7 : decode cX7_weightOf 7 = .ok (.if_icmp .ne 19, 3) := by decide +kernel
theorem dX7_weightOf_10 : decode cX7_weightOf 10 = .ok (.iconst 1, 1) := by decide +kernel
theorem dX7_weightOf_11 : decode cX7_weightOf 11 = .ok (.aload_n 0, 1) := by decide +kernel
theorem dX7_weightOf_12 : decode cX7_weightOf 12 = .ok (.getfield 41, 3) := by decide +kernel
theorem dX7_weightOf_15 : decode cX7_weightOf 15 = .ok (.aload_n 0, 1) := by decide +kernel
theorem dX7_weightOf_16 : decode cX7_weightOf 16 = .ok (.getfield 50, 3) := by decide +kernel
theorem dX7_weightOf_19 : decode cX7_weightOf 19 = .ok (.iload_n 1, 1) := by decide +kernel
theorem dX7_weightOf_20 : decode cX7_weightOf 20 = .ok (.iaload, 1) := by decide +kernel
theorem dX7_weightOf_21 : decode cX7_weightOf 21 = .ok (.iaload, 1) := by decide +kernel
theorem dX7_weightOf_22 : decode cX7_weightOf 22 = .ok (.iadd, 1) := by decide +kernel
theorem dX7_weightOf_23 : decode cX7_weightOf 23 = .ok (.goto 4, 3) := by decide +kernel
theorem dX7_weightOf_26 : decode cX7_weightOf 26 = .ok (.iconst 1, 1) := by decide +kernel
theorem dX7_weightOf_27 : decode cX7_weightOf 27 = .ok (.ireturn, 1) := by decide +kernel
theorem dX7_include_0 : decode cX7_include 0 = .ok (.aload_n 0, 1) := by decide +kernel
theorem dX7_include_1 : decode cX7_include 1 = .ok (.iload_n 1, 1) := by decide +kernel
theorem dX7_include_2 : decode cX7_include 2 = .ok (.invokevirtual 217, 3) := by decide +kernel
theorem dX7_include_5 : decode cX7_include 5 = .ok (.istore_n 2, 1) := by decide +kernel
theorem dX7_include_6 : decode cX7_include 6 = .ok (.iload_n 2, 1) := by decide +kernel
theorem dX7_include_7 : decode cX7_include 7 = .ok (.ifCond .eq 26, 3) := by decide +kernel
theorem dX7_include_10 : decode cX7_include 10 = .ok (.aload_n 0, 1) := by decide +kernel
theorem dX7_include_11 : decode cX7_include 11 = .ok (.getfield 41, 3) := by decide +kernel
theorem dX7_include_14 : decode cX7_include 14 = .ok (.bipush 20, 2) := by decide +kernel
theorem dX7_include_16 : decode cX7_include 16 = .ok (.iaload, 1) := by decide +kernel
theorem dX7_include_17 : decode cX7_include 17 = .ok (.aload_n 0, 1) := by decide +kernel
theorem dX7_include_18 : decode cX7_include 18 = .ok (.getfield 41, 3) := by decide +kernel
theorem dX7_include_21 : decode cX7_include 21 = .ok (.iload_n 1, 1) := by decide +kernel
theorem dX7_include_22 : decode cX7_include 22 = .ok (.iaload, 1) := by decide +kernel
theorem dX7_include_23 : decode cX7_include 23 = .ok (.iadd, 1) := by decide +kernel
theorem dX7_include_24 : decode cX7_include 24 = .ok (.bipush 60, 2) := by decide +kernel
theorem dX7_include_26 : decode cX7_include 26 = .ok (.if_icmp .gt 7, 3) := by decide +kernel
theorem dX7_include_29 : decode cX7_include 29 = .ok (.iconst 1, 1) := by decide +kernel
theorem dX7_include_30 : decode cX7_include 30 = .ok (.goto 4, 3) := by decide +kernel
theorem dX7_include_33 : decode cX7_include 33 = .ok (.iconst 0, 1) := by decide +kernel
theorem dX7_include_34 : decode cX7_include 34 = .ok (.istore_n 3, 1) := by decide +kernel
theorem dX7_include_35 : decode cX7_include 35 = .ok (.bipush 60, 2) := by decide +kernel
theorem dX7_include_37 : decode cX7_include 37 = .ok (.iload_n 1, 1) := by decide +kernel
theorem dX7_include_38 : decode cX7_include 38 = .ok (.imul, 1) := by decide +kernel
theorem dX7_include_39 : decode cX7_include 39 = .ok (.istore 4, 2) := by decide +kernel
theorem dX7_include_41 : decode cX7_include 41 = .ok (.iload_n 3, 1) := by decide +kernel
theorem dX7_include_42 : decode cX7_include 42 = .ok (.ifCond .eq 55, 3) := by decide +kernel
theorem dX7_include_45 : decode cX7_include 45 = .ok (.iload 4, 2) := by decide +kernel
theorem dX7_include_47 : decode cX7_include 47 = .ok (.bipush 60, 2) := by decide +kernel
theorem dX7_include_49 : decode cX7_include 49 = .ok (.iload_n 1, 1) := by decide +kernel
theorem dX7_include_50 : decode cX7_include 50 = .ok (.imul, 1) := by decide +kernel
theorem dX7_include_51 : decode cX7_include 51 = .ok (.aload_n 0, 1) := by decide +kernel
theorem dX7_include_52 : decode cX7_include 52 = .ok (.getfield 38, 3) := by decide +kernel
theorem dX7_include_55 : decode cX7_include 55 = .ok (.iload_n 1, 1) := by decide +kernel
theorem dX7_include_56 : decode cX7_include 56 = .ok (.iaload, 1) := by decide +kernel
theorem dX7_include_57 : decode cX7_include 57 = .ok (.iadd, 1) := by decide +kernel
theorem dX7_include_58 : decode cX7_include 58 = .ok (.if_icmp .ge 39, 3) := by decide +kernel
theorem dX7_include_61 : decode cX7_include 61 = .ok (.aload_n 0, 1) := by decide +kernel
theorem dX7_include_62 : decode cX7_include 62 = .ok (.bipush 20, 2) := by decide +kernel
theorem dX7_include_64 : decode cX7_include 64 = .ok (.aload_n 0, 1) := by decide +kernel
theorem dX7_include_65 : decode cX7_include 65 = .ok (.getfield 44, 3) := by decide +kernel
theorem dX7_include_68 : decode cX7_include 68 = .ok (.iload 4, 2) := by decide +kernel
theorem dX7_include_70 : decode cX7_include 70 = .ok (.iaload, 1) := by decide +kernel
theorem dX7_include_71 : decode cX7_include 71 = .ok (.aload_n 0, 1) := by decide +kernel
theorem dX7_include_72 : decode cX7_include 72 = .ok (.getfield 47, 3) := by decide +kernel
theorem dX7_include_75 : decode cX7_include 75 = .ok (.iload 4, 2) := by decide +kernel
theorem dX7_include_77 : decode cX7_include 77 = .ok (.iaload, 1) := by decide +kernel
theorem dX7_include_78 : decode cX7_include 78 = .ok (.invokevirtual 207, 3) := by decide +kernel
theorem dX7_include_81 : decode cX7_include 81 = .ok (.iconst (-1), 1) := by decide +kernel
theorem dX7_include_82 : decode cX7_include 82 = .ok (.if_icmp .ne 7, 3) := by decide +kernel
theorem dX7_include_85 : decode cX7_include 85 = .ok (.iconst 1, 1) := by decide +kernel
theorem dX7_include_86 : decode cX7_include 86 = .ok (.goto 4, 3) := by decide +kernel
theorem dX7_include_89 : decode cX7_include 89 = .ok (.iconst 0, 1) := by decide +kernel
theorem dX7_include_90 : decode cX7_include 90 = .ok (.istore_n 3, 1) := by decide +kernel
theorem dX7_include_91 : decode cX7_include 91 = .ok (.iinc 4 1, 3) := by decide +kernel
theorem dX7_include_94 : decode cX7_include 94 = .ok (.goto (-53), 3) := by decide +kernel
theorem dX7_include_97 : decode cX7_include 97 = .ok (.aload_n 0, 1) := by decide +kernel
theorem dX7_include_98 : decode cX7_include 98 = .ok (.iload_n 2, 1) := by decide +kernel
theorem dX7_include_99 : decode cX7_include 99 = .ok (.ifCond .ne 7, 3) := by decide +kernel
theorem dX7_include_102 : decode cX7_include 102 = .ok (.iconst 1, 1) := by decide +kernel
theorem dX7_include_103 : decode cX7_include 103 = .ok (.goto 12, 3) := by decide +kernel
theorem dX7_include_106 : decode cX7_include 106 = .ok (.iload_n 3, 1) := by decide +kernel
theorem dX7_include_107 : decode cX7_include 107 = .ok (.ifCond .eq 7, 3) := by decide +kernel
theorem dX7_include_110 : decode cX7_include 110 = .ok (.iconst 0, 1) := by decide +kernel
theorem dX7_include_111 : decode cX7_include 111 = .ok (.goto 4, 3) := by decide +kernel
theorem dX7_include_114 : decode cX7_include 114 = .ok (.iconst 2, 1) := by decide +kernel
theorem dX7_include_115 : decode cX7_include 115 = .ok (.invokevirtual 175, 3) := by decide +kernel
theorem dX7_include_118 : decode cX7_include 118 = .ok (.ifCond .eq 5, 3) := by decide +kernel
theorem dX7_include_121 : decode cX7_include 121 = .ok (.iconst 0, 1) := by decide +kernel
theorem dX7_include_122 : decode cX7_include 122 = .ok (.ireturn, 1) := by decide +kernel
theorem dX7_include_123 : decode cX7_include 123 = .ok (.bipush 60, 2) := by decide +kernel
theorem dX7_include_125 : decode cX7_include 125 = .ok (.iload_n 1, 1) := by decide +kernel
theorem dX7_include_126 : decode cX7_include 126 = .ok (.imul, 1) := by decide +kernel
theorem dX7_include_127 : decode cX7_include 127 = .ok (.istore 4, 2) := by decide +kernel
theorem dX7_include_129 : decode cX7_include 129 = .ok (.iload 4, 2) := by decide +kernel
theorem dX7_include_131 : decode cX7_include 131 = .ok (.bipush 60, 2) := by decide +kernel
theorem dX7_include_133 : decode cX7_include 133 = .ok (.iload_n 1, 1) := by decide +kernel
theorem dX7_include_134 : decode cX7_include 134 = .ok (.imul, 1) := by decide +kernel
theorem dX7_include_135 : decode cX7_include 135 = .ok (.aload_n 0, 1) := by decide +kernel
theorem dX7_include_136 : decode cX7_include 136 = .ok (.getfield 38, 3) := by decide +kernel
theorem dX7_include_139 : decode cX7_include 139 = .ok (.iload_n 1, 1) := by decide +kernel
theorem dX7_include_140 : decode cX7_include 140 = .ok (.iaload, 1) := by decide +kernel
theorem dX7_include_141 : decode cX7_include 141 = .ok (.iadd, 1) := by decide +kernel
theorem dX7_include_142 : decode cX7_include 142 = .ok (.if_icmp .ge 49, 3) := by decide +kernel
theorem dX7_include_145 : decode cX7_include 145 = .ok (.aload_n 0, 1) := by decide +kernel
theorem dX7_include_146 : decode cX7_include 146 = .ok (.bipush 20, 2) := by decide +kernel
theorem dX7_include_148 : decode cX7_include 148 = .ok (.aload_n 0, 1) := by decide +kernel
theorem dX7_include_149 : decode cX7_include 149 = .ok (.getfield 44, 3) := by decide +kernel
theorem dX7_include_152 : decode cX7_include 152 = .ok (.iload 4, 2) := by decide +kernel
theorem dX7_include_154 : decode cX7_include 154 = .ok (.iaload, 1) := by decide +kernel
theorem dX7_include_155 : decode cX7_include 155 = .ok (.aload_n 0, 1) := by decide +kernel
theorem dX7_include_156 : decode cX7_include 156 = .ok (.getfield 47, 3) := by decide +kernel
theorem dX7_include_159 : decode cX7_include 159 = .ok (.iload 4, 2) := by decide +kernel
theorem dX7_include_161 : decode cX7_include 161 = .ok (.iaload, 1) := by decide +kernel
theorem dX7_include_162 : decode cX7_include 162 = .ok (.aload_n 0, 1) := by decide +kernel
theorem dX7_include_163 : decode cX7_include 163 = .ok (.getfield 50, 3) := by decide +kernel
theorem dX7_include_166 : decode cX7_include 166 = .ok (.iload 4, 2) := by decide +kernel
theorem dX7_include_168 : decode cX7_include 168 = .ok (.iaload, 1) := by decide +kernel
theorem dX7_include_169 : decode cX7_include 169 = .ok (.aload_n 0, 1) := by decide +kernel
theorem dX7_include_170 : decode cX7_include 170 = .ok (.getfield 53, 3) := by decide +kernel
theorem dX7_include_173 : decode cX7_include 173 = .ok (.iload 4, 2) := by decide +kernel
theorem dX7_include_175 : decode cX7_include 175 = .ok (.iaload, 1) := by decide +kernel
theorem dX7_include_176 : decode cX7_include 176 = .ok (.aload_n 0, 1) := by decide +kernel
theorem dX7_include_177 : decode cX7_include 177 = .ok (.iload 4, 2) := by decide +kernel
theorem dX7_include_179 : decode cX7_include 179 = .ok (.invokevirtual 220, 3) := by decide +kernel
theorem dX7_include_182 : decode cX7_include 182 = .ok (.invokevirtual 213, 3) := by decide +kernel
theorem dX7_include_185 : decode cX7_include 185 = .ok (.iinc 4 1, 3) := by decide +kernel
theorem dX7_include_188 : decode cX7_include 188 = .ok (.goto (-59), 3) := by decide +kernel
theorem dX7_include_191 : decode cX7_include 191 = .ok (.aload_n 0, 1) := by decide +kernel
theorem dX7_include_192 : decode cX7_include 192 = .ok (.getfield 38, 3) := by decide +kernel
theorem dX7_include_195 : decode cX7_include 195 = .ok (.bipush 20, 2) := by decide +kernel
theorem dX7_include_197 : decode cX7_include 197 = .ok (.iaload, 1) := by decide +kernel
theorem dX7_include_198 : decode cX7_include 198 = .ok (.ireturn, 1) := by decide +kernel
theorem dX7_signature_0 : decode cX7_signature 0 = .ok (.aload_n 0, 1) := by decide +kernel
theorem dX7_signature_1 : decode cX7_signature 1 = .ok (.aload_n 0, 1) := by decide +kernel
theorem dX7_signature_2 : decode cX7_signature 2 = .ok (.getfield 204, 3) := by decide +kernel
theorem dX7_signature_5 : decode cX7_signature 5 = .ok (.bipush 20, 2) := by decide +kernel
theorem dX7_signature_7 : decode cX7_signature 7 = .ok (.if_icmp .ne 7, 3) := by decide +kernel
theorem dX7_signature_10 : decode cX7_signature 10 = .ok (.iconst 1, 1) := by decide +kernel
theorem dX7_signature_11 : decode cX7_signature 11 = .ok (.goto 4, 3) := by decide +kernel
theorem dX7_signature_14 : decode cX7_signature 14 = .ok (.iconst 0, 1) := by decide +kernel
theorem dX7_signature_15 : decode cX7_signature 15 = .ok (.invokevirtual 175, 3) := by decide +kernel
theorem dX7_signature_18 : decode cX7_signature 18 = .ok (.ifCond .eq 5, 3) := by decide +kernel
theorem dX7_signature_21 : decode cX7_signature 21 = .ok (.iconst 0, 1) := by decide +kernel
theorem dX7_signature_22 : decode cX7_signature 22 = .ok (.ireturn, 1) := by decide +kernel
theorem dX7_signature_23 : decode cX7_signature 23 = .ok (.sipush 1200, 3) := by decide +kernel
theorem dX7_signature_26 : decode cX7_signature 26 = .ok (.istore_n 1, 1) := by decide +kernel
theorem dX7_signature_27 : decode cX7_signature 27 = .ok (.iload_n 1, 1) := by decide +kernel
theorem dX7_signature_28 : decode cX7_signature 28 = .ok (.sipush 1200, 3) := by decide +kernel
theorem dX7_signature_31 : decode cX7_signature 31 = .ok (.aload_n 0, 1) := by decide +kernel
theorem dX7_signature_32 : decode cX7_signature 32 = .ok (.getfield 38, 3) := by decide +kernel
theorem dX7_signature_35 : decode cX7_signature 35 = .ok (.bipush 20, 2) := by decide +kernel
theorem dX7_signature_37 : decode cX7_signature 37 = .ok (.iaload, 1) := by decide +kernel
theorem dX7_signature_38 : decode cX7_signature 38 = .ok (.iadd, 1) := by decide +kernel
theorem dX7_signature_39 : decode cX7_signature 39 = .ok (.if_icmp .ge 46, 3) := by decide +kernel
theorem dX7_signature_42 : decode cX7_signature 42 = .ok (.aload_n 0, 1) := by decide +kernel
theorem dX7_signature_43 : decode cX7_signature 43 = .ok (.aload_n 0, 1) := by decide +kernel
theorem dX7_signature_44 : decode cX7_signature 44 = .ok (.getfield 204, 3) := by decide +kernel
theorem dX7_signature_47 : decode cX7_signature 47 = .ok (.aload_n 0, 1) := by decide +kernel
theorem dX7_signature_48 : decode cX7_signature 48 = .ok (.getfield 44, 3) := by decide +kernel
theorem dX7_signature_51 : decode cX7_signature 51 = .ok (.iload_n 1, 1) := by decide +kernel
theorem dX7_signature_52 : decode cX7_signature 52 = .ok (.iaload, 1) := by decide +kernel
theorem dX7_signature_53 : decode cX7_signature 53 = .ok (.aload_n 0, 1) := by decide +kernel
theorem dX7_signature_54 : decode cX7_signature 54 = .ok (.getfield 47, 3) := by decide +kernel
theorem dX7_signature_57 : decode cX7_signature 57 = .ok (.iload_n 1, 1) := by decide +kernel
theorem dX7_signature_58 : decode cX7_signature 58 = .ok (.iaload, 1) := by decide +kernel
theorem dX7_signature_59 : decode cX7_signature 59 = .ok (.aload_n 0, 1) := by decide +kernel
theorem dX7_signature_60 : decode cX7_signature 60 = .ok (.getfield 50, 3) := by decide +kernel
theorem dX7_signature_63 : decode cX7_signature 63 = .ok (.iload_n 1, 1) := by decide +kernel
theorem dX7_signature_64 : decode cX7_signature 64 = .ok (.iaload, 1) := by decide +kernel
theorem dX7_signature_65 : decode cX7_signature 65 = .ok (.aload_n 0, 1) := by decide +kernel
theorem dX7_signature_66 : decode cX7_signature 66 = .ok (.getfield 53, 3) := by decide +kernel
theorem dX7_signature_69 : decode cX7_signature 69 = .ok (.iload_n 1, 1) := by decide +kernel
theorem dX7_signature_70 : decode cX7_signature 70 = .ok (.iaload, 1) := by decide +kernel
theorem dX7_signature_71 : decode cX7_signature 71 = .ok (.aload_n 0, 1) := by decide +kernel
theorem dX7_signature_72 : decode cX7_signature 72 = .ok (.iload_n 1, 1) := by decide +kernel
theorem dX7_signature_73 : decode cX7_signature 73 = .ok (.invokevirtual 220, 3) := by decide +kernel
theorem dX7_signature_76 : decode cX7_signature 76 = .ok (.invokevirtual 213, 3) := by decide +kernel
theorem dX7_signature_79 : decode cX7_signature 79 = .ok (.iinc 1 1, 3) := by decide +kernel
theorem dX7_signature_82 : decode cX7_signature 82 = .ok (.goto (-55), 3) := by decide +kernel
theorem dX7_signature_85 : decode cX7_signature 85 = .ok (.aload_n 0, 1) := by decide +kernel
theorem dX7_signature_86 : decode cX7_signature 86 = .ok (.getfield 38, 3) := by decide +kernel
theorem dX7_signature_89 : decode cX7_signature 89 = .ok (.bipush 20, 2) := by decide +kernel
theorem dX7_signature_91 : decode cX7_signature 91 = .ok (.iconst 0, 1) := by decide +kernel
theorem dX7_signature_92 : decode cX7_signature 92 = .ok (.iastore, 1) := by decide +kernel
theorem dX7_signature_93 : decode cX7_signature 93 = .ok (.aload_n 0, 1) := by decide +kernel
theorem dX7_signature_94 : decode cX7_signature 94 = .ok (.getfield 41, 3) := by decide +kernel
theorem dX7_signature_97 : decode cX7_signature 97 = .ok (.bipush 20, 2) := by decide +kernel
theorem dX7_signature_99 : decode cX7_signature 99 = .ok (.iconst 0, 1) := by decide +kernel
theorem dX7_signature_100 : decode cX7_signature 100 = .ok (.iastore, 1) := by decide +kernel
theorem dX7_signature_101 : decode cX7_signature 101 = .ok (.aload_n 0, 1) := by decide +kernel
theorem dX7_signature_102 : decode cX7_signature 102 = .ok (.dup, 1) := by decide +kernel
theorem dX7_signature_103 : decode cX7_signature 103 = .ok (.getfield 204, 3) := by decide +kernel
theorem dX7_signature_106 : decode cX7_signature 106 = .ok (.iconst 1, 1) := by decide +kernel
theorem dX7_signature_107 : decode cX7_signature 107 = .ok (.iadd, 1) := by decide +kernel
theorem dX7_signature_108 : decode cX7_signature 108 = .ok (.putfield 204, 3) := by decide +kernel
theorem dX7_signature_111 : decode cX7_signature 111 = .ok (.aload_n 0, 1) := by decide +kernel
theorem dX7_signature_112 : decode cX7_signature 112 = .ok (.getfield 204, 3) := by decide +kernel
theorem dX7_signature_115 : decode cX7_signature 115 = .ok (.iconst 1, 1) := by decide +kernel
theorem dX7_signature_116 : decode cX7_signature 116 = .ok (.isub, 1) := by decide +kernel
theorem dX7_signature_117 : decode cX7_signature 117 = .ok (.ireturn, 1) := by decide +kernel
theorem dX7_with_0 : decode cX7_with 0 = .ok (.aload_n 0, 1) := by decide +kernel
theorem dX7_with_1 : decode cX7_with 1 = .ok (.iload_n 1, 1) := by decide +kernel
theorem dX7_with_2 : decode cX7_with 2 = .ok (.invokevirtual 217, 3) := by decide +kernel
theorem dX7_with_5 : decode cX7_with 5 = .ok (.ifCond .eq 21, 3) := by decide +kernel
theorem dX7_with_8 : decode cX7_with 8 = .ok (.aload_n 0, 1) := by decide +kernel
theorem dX7_with_9 : decode cX7_with 9 = .ok (.iload_n 3, 1) := by decide +kernel
theorem dX7_with_10 : decode cX7_with 10 = .ok (.invokevirtual 171, 3) := by decide +kernel
theorem dX7_with_13 : decode cX7_with 13 = .ok (.ifCond .eq 13, 3) := by decide +kernel
theorem dX7_with_16 : decode cX7_with 16 = .ok (.aload_n 0, 1) := by decide +kernel
theorem dX7_with_17 : decode cX7_with 17 = .ok (.iload_n 1, 1) := by decide +kernel
theorem dX7_with_18 : decode cX7_with 18 = .ok (.iconst 0, 1) := by decide +kernel
theorem dX7_with_19 : decode cX7_with 19 = .ok (.iload_n 2, 1) := by decide +kernel
theorem dX7_with_20 : decode cX7_with 20 = .ok (.invokevirtual 207, 3) := by decide +kernel
theorem dX7_with_23 : decode cX7_with 23 = .ok (.goto 4, 3) := by decide +kernel
theorem dX7_with_26 : decode cX7_with 26 = .ok (.iconst (-1), 1) := by decide +kernel
theorem dX7_with_27 : decode cX7_with 27 = .ok (.istore 5, 2) := by decide +kernel
theorem dX7_with_29 : decode cX7_with 29 = .ok (.iload 5, 2) := by decide +kernel
theorem dX7_with_31 : decode cX7_with 31 = .ok (.iconst (-1), 1) := by decide +kernel
theorem dX7_with_32 : decode cX7_with 32 = .ok (.if_icmp .eq 19, 3) := by decide +kernel
theorem dX7_with_35 : decode cX7_with 35 = .ok (.aload_n 0, 1) := by decide +kernel
theorem dX7_with_36 : decode cX7_with 36 = .ok (.getfield 50, 3) := by decide +kernel
theorem dX7_with_39 : decode cX7_with 39 = .ok (.iload 5, 2) := by decide +kernel
theorem dX7_with_41 : decode cX7_with 41 = .ok (.iaload, 1) := by decide +kernel
theorem dX7_with_42 : decode cX7_with 42 = .ok (.bipush (-100), 2) := by decide +kernel
theorem dX7_with_44 : decode cX7_with 44 = .ok (.if_icmp .ne 7, 3) := by decide +kernel
theorem dX7_with_47 : decode cX7_with 47 = .ok (.iconst 1, 1) := by decide +kernel
theorem dX7_with_48 : decode cX7_with 48 = .ok (.goto 4, 3) := by decide +kernel
theorem dX7_with_51 : decode cX7_with 51 = .ok (.iconst 0, 1) := by decide +kernel
theorem dX7_with_52 : decode cX7_with 52 = .ok (.istore 6, 2) := by decide +kernel
theorem dX7_with_54 : decode cX7_with 54 = .ok (.aload_n 0, 1) := by decide +kernel
theorem dX7_with_55 : decode cX7_with 55 = .ok (.iload 6, 2) := by decide +kernel
theorem dX7_with_57 : decode cX7_with 57 = .ok (.ifCond .ne 7, 3) := by decide +kernel
theorem dX7_with_60 : decode cX7_with 60 = .ok (.iconst 1, 1) := by decide +kernel
theorem dX7_with_61 : decode cX7_with 61 = .ok (.goto 17, 3) := by decide +kernel
theorem dX7_with_64 : decode cX7_with 64 = .ok (.aload_n 0, 1) := by decide +kernel
theorem dX7_with_65 : decode cX7_with 65 = .ok (.getfield 204, 3) := by decide +kernel
theorem dX7_with_68 : decode cX7_with 68 = .ok (.bipush 20, 2) := by decide +kernel
theorem dX7_with_70 : decode cX7_with 70 = .ok (.if_icmp .ne 7, 3) := by decide +kernel
theorem dX7_with_73 : decode cX7_with 73 = .ok (.iconst 2, 1) := by decide +kernel
theorem dX7_with_74 : decode cX7_with 74 = .ok (.goto 4, 3) := by decide +kernel
theorem dX7_with_77 : decode cX7_with 77 = .ok (.iconst 0, 1) := by decide +kernel
theorem dX7_with_78 : decode cX7_with 78 = .ok (.invokevirtual 175, 3) := by decide +kernel
theorem dX7_with_81 : decode cX7_with 81 = .ok (.ifCond .eq 5, 3) := by decide +kernel
theorem dX7_with_84 : decode cX7_with 84 = .ok (.iconst 0, 1) := by decide +kernel
theorem dX7_with_85 : decode cX7_with 85 = .ok (.ireturn, 1) := by decide +kernel
theorem dX7_with_86 : decode cX7_with 86 = .ok (.bipush 60, 2) := by decide +kernel
theorem dX7_with_88 : decode cX7_with 88 = .ok (.iload_n 1, 1) := by decide +kernel
theorem dX7_with_89 : decode cX7_with 89 = .ok (.imul, 1) := by decide +kernel
theorem dX7_with_90 : decode cX7_with 90 = .ok (.istore 7, 2) := by decide +kernel
theorem dX7_with_92 : decode cX7_with 92 = .ok (.iload 7, 2) := by decide +kernel
theorem dX7_with_94 : decode cX7_with 94 = .ok (.bipush 60, 2) := by decide +kernel
theorem dX7_with_96 : decode cX7_with 96 = .ok (.iload_n 1, 1) := by decide +kernel
theorem dX7_with_97 : decode cX7_with 97 = .ok (.imul, 1) := by decide +kernel
theorem dX7_with_98 : decode cX7_with 98 = .ok (.aload_n 0, 1) := by decide +kernel
theorem dX7_with_99 : decode cX7_with 99 = .ok (.getfield 38, 3) := by decide +kernel
theorem dX7_with_102 : decode cX7_with 102 = .ok (.iload_n 1, 1) := by decide +kernel
theorem dX7_with_103 : decode cX7_with 103 = .ok (.iaload, 1) := by decide +kernel
theorem dX7_with_104 : decode cX7_with 104 = .ok (.iadd, 1) := by decide +kernel
theorem dX7_with_105 : decode cX7_with 105 = .ok (.if_icmp .ge 150, 3) := by decide +kernel
theorem dX7_with_108 : decode cX7_with 108 = .ok (.aload_n 0, 1) := by decide +kernel
theorem dX7_with_109 : decode cX7_with 109 = .ok (.getfield 44, 3) := by decide +kernel
theorem dX7_with_112 : decode cX7_with 112 = .ok (.iload 7, 2) := by decide +kernel
theorem dX7_with_114 : decode cX7_with 114 = .ok (.iaload, 1) := by decide +kernel
theorem dX7_with_115 : decode cX7_with 115 = .ok (.iconst 2, 1) := by decide +kernel
theorem dX7_with_116 : decode cX7_with 116 = .ok (.if_icmp .ne 7, 3) := by decide +kernel
theorem dX7_with_119 : decode cX7_with 119 = .ok (.iconst 1, 1) := by decide +kernel
theorem dX7_with_120 : decode cX7_with 120 = .ok (.goto 4, 3) := by decide +kernel
theorem dX7_with_123 : decode cX7_with 123 = .ok (.iconst 0, 1) := by decide +kernel
theorem dX7_with_124 : decode cX7_with 124 = .ok (.istore 8, 2) := by decide +kernel
theorem dX7_with_126 : decode cX7_with 126 = .ok (.iload 7, 2) := by decide +kernel
theorem dX7_with_128 : decode cX7_with 128 = .ok (.iload 5, 2) := by decide +kernel
theorem dX7_with_130 : decode cX7_with 130 = .ok (.if_icmp .eq 26, 3) := by decide +kernel
theorem dX7_with_133 : decode cX7_with 133 = .ok (.iload 4, 2) := by decide +kernel
theorem dX7_with_135 : decode cX7_with 135 = .ok (.ifCond .eq 25, 3) := by decide +kernel
theorem dX7_with_138 : decode cX7_with 138 = .ok (.iload 8, 2) := by decide +kernel
theorem dX7_with_140 : decode cX7_with 140 = .ok (.ifCond .ne 20, 3) := by decide +kernel
theorem dX7_with_143 : decode cX7_with 143 = .ok (.aload_n 0, 1) := by decide +kernel
theorem dX7_with_144 : decode cX7_with 144 = .ok (.getfield 50, 3) := by decide +kernel
theorem dX7_with_147 : decode cX7_with 147 = .ok (.iload 7, 2) := by decide +kernel
theorem dX7_with_149 : decode cX7_with 149 = .ok (.iaload, 1) := by decide +kernel
theorem dX7_with_150 : decode cX7_with 150 = .ok (.iconst (-1), 1) := by decide +kernel
theorem dX7_with_151 : decode cX7_with 151 = .ok (.iload_n 2, 1) := by decide +kernel
theorem dX7_with_152 : decode cX7_with 152 = .ok (.isub, 1) := by decide +kernel
theorem dX7_with_153 : decode cX7_with 153 = .ok (.if_icmp .ne 7, 3) := by decide +kernel
theorem dX7_with_156 : decode cX7_with 156 = .ok (.iload_n 3, 1) := by decide +kernel
theorem dX7_with_157 : decode cX7_with 157 = .ok (.goto 10, 3) := by decide +kernel
theorem dX7_with_160 : decode cX7_with 160 = .ok (.aload_n 0, 1) := by decide +kernel
theorem dX7_with_161 : decode cX7_with 161 = .ok (.getfield 50, 3) := by decide +kernel
theorem dX7_with_164 : decode cX7_with 164 = .ok (.iload 7, 2) := by decide +kernel
theorem dX7_with_166 : decode cX7_with 166 = .ok (.iaload, 1) := by decide +kernel
theorem dX7_with_167 : decode cX7_with 167 = .ok (.istore 9, 2) := by decide +kernel
theorem dX7_with_169 : decode cX7_with 169 = .ok (.iload 4, 2) := by decide +kernel
theorem dX7_with_171 : decode cX7_with 171 = .ok (.ifCond .eq 25, 3) := by decide +kernel
theorem dX7_with_174 : decode cX7_with 174 = .ok (.iload 8, 2) := by decide +kernel
theorem dX7_with_176 : decode cX7_with 176 = .ok (.ifCond .ne 20, 3) := by decide +kernel
theorem dX7_with_179 : decode cX7_with 179 = .ok (.aload_n 0, 1) := by decide +kernel
theorem dX7_with_180 : decode cX7_with 180 = .ok (.getfield 53, 3) := by decide +kernel
theorem dX7_with_183 : decode cX7_with 183 = .ok (.iload 7, 2) := by decide +kernel
theorem dX7_with_185 : decode cX7_with 185 = .ok (.iaload, 1) := by decide +kernel
theorem dX7_with_186 : decode cX7_with 186 = .ok (.iconst (-1), 1) := by decide +kernel
theorem dX7_with_187 : decode cX7_with 187 = .ok (.iload_n 2, 1) := by decide +kernel
theorem dX7_with_188 : decode cX7_with 188 = .ok (.isub, 1) := by decide +kernel
theorem dX7_with_189 : decode cX7_with 189 = .ok (.if_icmp .ne 7, 3) := by decide +kernel
theorem dX7_with_192 : decode cX7_with 192 = .ok (.iload_n 3, 1) := by decide +kernel
theorem dX7_with_193 : decode cX7_with 193 = .ok (.goto 10, 3) := by decide +kernel
theorem dX7_with_196 : decode cX7_with 196 = .ok (.aload_n 0, 1) := by decide +kernel
theorem dX7_with_197 : decode cX7_with 197 = .ok (.getfield 53, 3) := by decide +kernel
theorem dX7_with_200 : decode cX7_with 200 = .ok (.iload 7, 2) := by decide +kernel
theorem dX7_with_202 : decode cX7_with 202 = .ok (.iaload, 1) := by decide +kernel
theorem dX7_with_203 : decode cX7_with 203 = .ok (.istore 10, 2) := by decide +kernel
theorem dX7_with_205 : decode cX7_with 205 = .ok (.iload 7, 2) := by decide +kernel
theorem dX7_with_207 : decode cX7_with 207 = .ok (.iload 5, 2) := by decide +kernel
theorem dX7_with_209 : decode cX7_with 209 = .ok (.if_icmp .ne 8, 3) := by decide +kernel
theorem dX7_with_212 : decode cX7_with 212 = .ok (.iload 4, 2) := by decide +kernel
theorem dX7_with_214 : decode cX7_with 214 = .ok (.ifCond .ne 35, 3) := by decide +kernel
theorem dX7_with_217 : decode cX7_with 217 = .ok (.aload_n 0, 1) := by decide +kernel
theorem dX7_with_218 : decode cX7_with 218 = .ok (.aload_n 0, 1) := by decide +kernel
theorem dX7_with_219 : decode cX7_with 219 = .ok (.getfield 204, 3) := by decide +kernel
theorem dX7_with_222 : decode cX7_with 222 = .ok (.aload_n 0, 1) := by decide +kernel
theorem dX7_with_223 : decode cX7_with 223 = .ok (.getfield 44, 3) := by decide +kernel
theorem dX7_with_226 : decode cX7_with 226 = .ok (.iload 7, 2) := by decide +kernel
theorem dX7_with_228 : decode cX7_with 228 = .ok (.iaload, 1) := by decide +kernel
theorem dX7_with_229 : decode cX7_with 229 = .ok (.aload_n 0, 1) := by decide +kernel
theorem dX7_with_230 : decode cX7_with 230 = .ok (.getfield 47, 3) := by decide +kernel
theorem dX7_with_233 : decode cX7_with 233 = .ok (.iload 7, 2) := by decide +kernel
theorem dX7_with_235 : decode cX7_with 235 = .ok (.iaload, 1) := by decide +kernel
theorem dX7_with_236 : decode cX7_with 236 = .ok (.iload 9, 2) := by decide +kernel
theorem dX7_with_238 : decode cX7_with 238 = .ok (.iload 10, 2) := by decide +kernel
theorem dX7_with_240 : decode cX7_with 240 = .ok (.aload_n 0, 1) := by decide +kernel
theorem dX7_with_241 : decode cX7_with 241 = .ok (.iload 7, 2) := by decide +kernel
theorem dX7_with_243 : decode cX7_with 243 = .ok (.invokevirtual 220, 3) := by decide +kernel
theorem dX7_with_246 : decode cX7_with 246 = .ok (.invokevirtual 213, 3) := by decide +kernel
theorem dX7_with_249 : decode cX7_with 249 = .ok (.iinc 7 1, 3) := by decide +kernel
theorem dX7_with_252 : decode cX7_with 252 = .ok (.goto (-160), 3) := by decide +kernel
theorem dX7_with_255 : decode cX7_with 255 = .ok (.aload_n 0, 1) := by decide +kernel
theorem dX7_with_256 : decode cX7_with 256 = .ok (.dup, 1) := by decide +kernel
theorem dX7_with_257 : decode cX7_with 257 = .ok (.getfield 204, 3) := by decide +kernel
theorem dX7_with_260 : decode cX7_with 260 = .ok (.iconst 1, 1) := by decide +kernel
theorem dX7_with_261 : decode cX7_with 261 = .ok (.iadd, 1) := by decide +kernel
theorem dX7_with_262 : decode cX7_with 262 = .ok (.putfield 204, 3) := by decide +kernel
theorem dX7_with_265 : decode cX7_with 265 = .ok (.aload_n 0, 1) := by decide +kernel
theorem dX7_with_266 : decode cX7_with 266 = .ok (.getfield 204, 3) := by decide +kernel
theorem dX7_with_269 : decode cX7_with 269 = .ok (.iconst 1, 1) := by decide +kernel
theorem dX7_with_270 : decode cX7_with 270 = .ok (.isub, 1) := by decide +kernel
theorem dX7_with_271 : decode cX7_with 271 = .ok (.ireturn, 1) := by decide +kernel
theorem dX7_specs_0 : decode cX7_specs 0 = .ok (.aload_n 0, 1) := by decide +kernel
theorem dX7_specs_1 : decode cX7_specs 1 = .ok (.aload_n 0, 1) := by decide +kernel
theorem dX7_specs_2 : decode cX7_specs 2 = .ok (.iload_n 1, 1) := by decide +kernel
theorem dX7_specs_3 : decode cX7_specs 3 = .ok (.invokevirtual 217, 3) := by decide +kernel
theorem dX7_specs_6 : decode cX7_specs 6 = .ok (.ifCond .eq 7, 3) := by decide +kernel
theorem dX7_specs_9 : decode cX7_specs 9 = .ok (.iconst 0, 1) := by decide +kernel
theorem dX7_specs_10 : decode cX7_specs 10 = .ok (.goto 4, 3) := by decide +kernel
theorem dX7_specs_13 : decode cX7_specs 13 = .ok (.iconst 1, 1) := by decide +kernel
theorem dX7_specs_14 : decode cX7_specs 14 = .ok (.invokevirtual 175, 3) := by decide +kernel
theorem dX7_specs_17 : decode cX7_specs 17 = .ok (.ifCond .eq 7, 3) := by decide +kernel
theorem dX7_specs_20 : decode cX7_specs 20 = .ok (.iconst 0, 1) := by decide +kernel
theorem dX7_specs_21 : decode cX7_specs 21 = .ok (.goto 9, 3) := by decide +kernel
theorem dX7_specs_24 : decode cX7_specs 24 = .ok (.aload_n 0, 1) := by decide +kernel
theorem dX7_specs_25 : decode cX7_specs 25 = .ok (.getfield 38, 3) := by decide +kernel
theorem dX7_specs_28 : decode cX7_specs 28 = .ok (.iload_n 1, 1) := by decide +kernel
theorem dX7_specs_29 : decode cX7_specs 29 = .ok (.iaload, 1) := by decide +kernel
theorem dX7_specs_30 : decode cX7_specs 30 = .ok (.ireturn, 1) := by decide +kernel
theorem dX7_meant_0 : decode cX7_meant 0 = .ok (.iload_n 2, 1) := by decide +kernel
theorem dX7_meant_1 : decode cX7_meant 1 = .ok (.ifCond .lt 5, 3) := by decide +kernel
theorem dX7_meant_4 : decode cX7_meant 4 = .ok (.iload_n 2, 1) := by decide +kernel
theorem dX7_meant_5 : decode cX7_meant 5 = .ok (.ireturn, 1) := by decide +kernel
theorem dX7_meant_6 : decode cX7_meant 6 = .ok (.aload_n 0, 1) := by decide +kernel
theorem dX7_meant_7 : decode cX7_meant 7 = .ok (.iload_n 1, 1) := by decide +kernel
theorem dX7_meant_8 : decode cX7_meant 8 = .ok (.iconst 0, 1) := by decide +kernel
theorem dX7_meant_9 : decode cX7_meant 9 = .ok (.iconst (-1), 1) := by decide +kernel
theorem dX7_meant_10 : decode cX7_meant 10 = .ok (.iload_n 2, 1) := by decide +kernel
theorem dX7_meant_11 : decode cX7_meant 11 = .ok (.isub, 1) := by decide +kernel
theorem dX7_meant_12 : decode cX7_meant 12 = .ok (.invokevirtual 181, 3) := by decide +kernel
theorem dX7_meant_15 : decode cX7_meant 15 = .ok (.istore_n 3, 1) := by decide +kernel
theorem dX7_meant_16 : decode cX7_meant 16 = .ok (.iload_n 3, 1) := by decide +kernel
theorem dX7_meant_17 : decode cX7_meant 17 = .ok (.iconst (-1), 1) := by decide +kernel
theorem dX7_meant_18 : decode cX7_meant 18 = .ok (.if_icmp .ne 7, 3) := by decide +kernel
theorem dX7_meant_21 : decode cX7_meant 21 = .ok (.iconst (-1), 1) := by decide +kernel
theorem dX7_meant_22 : decode cX7_meant 22 = .ok (.goto 9, 3) := by decide +kernel
theorem dX7_meant_25 : decode cX7_meant 25 = .ok (.aload_n 0, 1) := by decide +kernel
theorem dX7_meant_26 : decode cX7_meant 26 = .ok (.getfield 32, 3) := by decide +kernel
theorem dX7_meant_29 : decode cX7_meant 29 = .ok (.iload_n 3, 1) := by decide +kernel
theorem dX7_meant_30 : decode cX7_meant 30 = .ok (.iaload, 1) := by decide +kernel
theorem dX7_meant_31 : decode cX7_meant 31 = .ok (.ireturn, 1) := by decide +kernel
theorem dX7_misfit_0 : decode cX7_misfit 0 = .ok (.aload_n 0, 1) := by decide +kernel
theorem dX7_misfit_1 : decode cX7_misfit 1 = .ok (.iload_n 1, 1) := by decide +kernel
theorem dX7_misfit_2 : decode cX7_misfit 2 = .ok (.aload_n 0, 1) := by decide +kernel
theorem dX7_misfit_3 : decode cX7_misfit 3 = .ok (.getfield 44, 3) := by decide +kernel
theorem dX7_misfit_6 : decode cX7_misfit 6 = .ok (.iload_n 2, 1) := by decide +kernel
theorem dX7_misfit_7 : decode cX7_misfit 7 = .ok (.iaload, 1) := by decide +kernel
theorem dX7_misfit_8 : decode cX7_misfit 8 = .ok (.aload_n 0, 1) := by decide +kernel
theorem dX7_misfit_9 : decode cX7_misfit 9 = .ok (.getfield 47, 3) := by decide +kernel
theorem dX7_misfit_12 : decode cX7_misfit 12 = .ok (.iload_n 2, 1) := by decide +kernel
theorem dX7_misfit_13 : decode cX7_misfit 13 = .ok (.iaload, 1) := by decide +kernel
theorem dX7_misfit_14 : decode cX7_misfit 14 = .ok (.invokevirtual 181, 3) := by decide +kernel
theorem dX7_misfit_17 : decode cX7_misfit 17 = .ok (.istore_n 3, 1) := by decide +kernel
theorem dX7_misfit_18 : decode cX7_misfit 18 = .ok (.iload_n 3, 1) := by decide +kernel
theorem dX7_misfit_19 : decode cX7_misfit 19 = .ok (.iconst (-1), 1) := by decide +kernel
theorem dX7_misfit_20 : decode cX7_misfit 20 = .ok (.if_icmp .ne 32, 3) := by decide +kernel
theorem dX7_misfit_23 : decode cX7_misfit 23 = .ok (.aload_n 0, 1) := by decide +kernel
theorem dX7_misfit_24 : decode cX7_misfit 24 = .ok (.getfield 44, 3) := by decide +kernel
theorem dX7_misfit_27 : decode cX7_misfit 27 = .ok (.iload_n 2, 1) := by decide +kernel
theorem dX7_misfit_28 : decode cX7_misfit 28 = .ok (.iaload, 1) := by decide +kernel
theorem dX7_misfit_29 : decode cX7_misfit 29 = .ok (.ifCond .ne 7, 3) := by decide +kernel
theorem dX7_misfit_32 : decode cX7_misfit 32 = .ok (.iconst 1, 1) := by decide +kernel
theorem dX7_misfit_33 : decode cX7_misfit 33 = .ok (.goto 18, 3) := by decide +kernel
theorem dX7_misfit_36 : decode cX7_misfit 36 = .ok (.aload_n 0, 1) := by decide +kernel
theorem dX7_misfit_37 : decode cX7_misfit 37 = .ok (.getfield 44, 3) := by decide +kernel
theorem dX7_misfit_40 : decode cX7_misfit 40 = .ok (.iload_n 2, 1) := by decide +kernel
theorem dX7_misfit_41 : decode cX7_misfit 41 = .ok (.iaload, 1) := by decide +kernel
theorem dX7_misfit_42 : decode cX7_misfit 42 = .ok (.iconst 1, 1) := by decide +kernel
theorem dX7_misfit_43 : decode cX7_misfit 43 = .ok (.if_icmp .ne 7, 3) := by decide +kernel
theorem dX7_misfit_46 : decode cX7_misfit 46 = .ok (.iconst 3, 1) := by decide +kernel
theorem dX7_misfit_47 : decode cX7_misfit 47 = .ok (.goto 4, 3) := by decide +kernel
theorem dX7_misfit_50 : decode cX7_misfit 50 = .ok (.iconst 5, 1) := by decide +kernel
theorem dX7_misfit_51 : decode cX7_misfit 51 = .ok (.ireturn, 1) := by decide +kernel
theorem dX7_misfit_52 : decode cX7_misfit 52 = .ok (.aload_n 0, 1) := by decide +kernel
theorem dX7_misfit_53 : decode cX7_misfit 53 = .ok (.getfield 32, 3) := by decide +kernel
theorem dX7_misfit_56 : decode cX7_misfit 56 = .ok (.iload_n 3, 1) := by decide +kernel
theorem dX7_misfit_57 : decode cX7_misfit 57 = .ok (.iaload, 1) := by decide +kernel
theorem dX7_misfit_58 : decode cX7_misfit 58 = .ok (.istore 4, 2) := by decide +kernel
theorem dX7_misfit_60 : decode cX7_misfit 60 = .ok (.aload_n 0, 1) := by decide +kernel
theorem dX7_misfit_61 : decode cX7_misfit 61 = .ok (.getfield 44, 3) := by decide +kernel
theorem dX7_misfit_64 : decode cX7_misfit 64 = .ok (.iload_n 2, 1) := by decide +kernel
theorem dX7_misfit_65 : decode cX7_misfit 65 = .ok (.iaload, 1) := by decide +kernel
theorem dX7_misfit_66 : decode cX7_misfit 66 = .ok (.iconst 2, 1) := by decide +kernel
theorem dX7_misfit_67 : decode cX7_misfit 67 = .ok (.if_icmp .ne 30, 3) := by decide +kernel
theorem dX7_misfit_70 : decode cX7_misfit 70 = .ok (.aload_n 0, 1) := by decide +kernel
theorem dX7_misfit_71 : decode cX7_misfit 71 = .ok (.getfield 150, 3) := by decide +kernel
theorem dX7_misfit_74 : decode cX7_misfit 74 = .ok (.bipush 20, 2) := by decide +kernel
theorem dX7_misfit_76 : decode cX7_misfit 76 = .ok (.iload 4, 2) := by decide +kernel
theorem dX7_misfit_78 : decode cX7_misfit 78 = .ok (.imul, 1) := by decide +kernel
theorem dX7_misfit_79 : decode cX7_misfit 79 = .ok (.aload_n 0, 1) := by decide +kernel
theorem dX7_misfit_80 : decode cX7_misfit 80 = .ok (.getfield 50, 3) := by decide +kernel
theorem dX7_misfit_83 : decode cX7_misfit 83 = .ok (.iload_n 2, 1) := by decide +kernel
theorem dX7_misfit_84 : decode cX7_misfit 84 = .ok (.iaload, 1) := by decide +kernel
theorem dX7_misfit_85 : decode cX7_misfit 85 = .ok (.iadd, 1) := by decide +kernel
theorem dX7_misfit_86 : decode cX7_misfit 86 = .ok (.iaload, 1) := by decide +kernel
theorem dX7_misfit_87 : decode cX7_misfit 87 = .ok (.ifCond .ne 7, 3) := by decide +kernel
theorem dX7_misfit_90 : decode cX7_misfit 90 = .ok (.iconst 0, 1) := by decide +kernel
theorem dX7_misfit_91 : decode cX7_misfit 91 = .ok (.goto 5, 3) := by decide +kernel
theorem dX7_misfit_94 : decode cX7_misfit 94 = .ok (.bipush 6, 2) := by decide +kernel
theorem dX7_misfit_96 : decode cX7_misfit 96 = .ok (.ireturn, 1) := by decide +kernel
theorem dX7_misfit_97 : decode cX7_misfit 97 = .ok (.aload_n 0, 1) := by decide +kernel
theorem dX7_misfit_98 : decode cX7_misfit 98 = .ok (.getfield 44, 3) := by decide +kernel
theorem dX7_misfit_101 : decode cX7_misfit 101 = .ok (.iload_n 2, 1) := by decide +kernel
theorem dX7_misfit_102 : decode cX7_misfit 102 = .ok (.iaload, 1) := by decide +kernel
theorem dX7_misfit_103 : decode cX7_misfit 103 = .ok (.ifCond .ne 36, 3) := by decide +kernel
theorem dX7_misfit_106 : decode cX7_misfit 106 = .ok (.aload_n 0, 1) := by decide +kernel
theorem dX7_misfit_107 : decode cX7_misfit 107 = .ok (.getfield 50, 3) := by decide +kernel
theorem dX7_misfit_110 : decode cX7_misfit 110 = .ok (.iload_n 2, 1) := by decide +kernel
theorem dX7_misfit_111 : decode cX7_misfit 111 = .ok (.iaload, 1) := by decide +kernel
theorem dX7_misfit_112 : decode cX7_misfit 112 = .ok (.bipush (-100), 2) := by decide +kernel
theorem dX7_misfit_114 : decode cX7_misfit 114 = .ok (.if_icmp .eq 19, 3) := by decide +kernel
theorem dX7_misfit_117 : decode cX7_misfit 117 = .ok (.aload_n 0, 1) := by decide +kernel
theorem dX7_misfit_118 : decode cX7_misfit 118 = .ok (.iload_n 1, 1) := by decide +kernel
theorem dX7_misfit_119 : decode cX7_misfit 119 = .ok (.aload_n 0, 1) := by decide +kernel
theorem dX7_misfit_120 : decode cX7_misfit 120 = .ok (.getfield 50, 3) := by decide +kernel
theorem dX7_misfit_123 : decode cX7_misfit 123 = .ok (.iload_n 2, 1) := by decide +kernel
theorem dX7_misfit_124 : decode cX7_misfit 124 = .ok (.iaload, 1) := by decide +kernel
theorem dX7_misfit_125 : decode cX7_misfit 125 = .ok (.invokevirtual 224, 3) := by decide +kernel
theorem dX7_misfit_128 : decode cX7_misfit 128 = .ok (.iload 4, 2) := by decide +kernel
theorem dX7_misfit_130 : decode cX7_misfit 130 = .ok (.if_icmp .ne 7, 3) := by decide +kernel
theorem dX7_misfit_133 : decode cX7_misfit 133 = .ok (.iconst 0, 1) := by decide +kernel
theorem dX7_misfit_134 : decode cX7_misfit 134 = .ok (.goto 4, 3) := by decide +kernel
theorem dX7_misfit_137 : decode cX7_misfit 137 = .ok (.iconst 2, 1) := by decide +kernel
theorem dX7_misfit_138 : decode cX7_misfit 138 = .ok (.ireturn, 1) := by decide +kernel
theorem dX7_misfit_139 : decode cX7_misfit 139 = .ok (.aload_n 0, 1) := by decide +kernel
theorem dX7_misfit_140 : decode cX7_misfit 140 = .ok (.iload_n 1, 1) := by decide +kernel
theorem dX7_misfit_141 : decode cX7_misfit 141 = .ok (.aload_n 0, 1) := by decide +kernel
theorem dX7_misfit_142 : decode cX7_misfit 142 = .ok (.getfield 50, 3) := by decide +kernel
theorem dX7_misfit_145 : decode cX7_misfit 145 = .ok (.iload_n 2, 1) := by decide +kernel
theorem dX7_misfit_146 : decode cX7_misfit 146 = .ok (.iaload, 1) := by decide +kernel
theorem dX7_misfit_147 : decode cX7_misfit 147 = .ok (.invokevirtual 224, 3) := by decide +kernel
theorem dX7_misfit_150 : decode cX7_misfit 150 = .ok (.istore 5, 2) := by decide +kernel
theorem dX7_misfit_152 : decode cX7_misfit 152 = .ok (.aload_n 0, 1) := by decide +kernel
theorem dX7_misfit_153 : decode cX7_misfit 153 = .ok (.getfield 53, 3) := by decide +kernel
theorem dX7_misfit_156 : decode cX7_misfit 156 = .ok (.iload_n 2, 1) := by decide +kernel
theorem dX7_misfit_157 : decode cX7_misfit 157 = .ok (.iaload, 1) := by decide +kernel
theorem dX7_misfit_158 : decode cX7_misfit 158 = .ok (.bipush (-100), 2) := by decide +kernel
theorem dX7_misfit_160 : decode cX7_misfit 160 = .ok (.if_icmp .ne 16, 3) := by decide +kernel
theorem dX7_misfit_163 : decode cX7_misfit 163 = .ok (.iload 5, 2) := by decide +kernel
theorem dX7_misfit_165 : decode cX7_misfit 165 = .ok (.iload 4, 2) := by decide +kernel
theorem dX7_misfit_167 : decode cX7_misfit 167 = .ok (.if_icmp .ne 7, 3) := by decide +kernel
theorem dX7_misfit_170 : decode cX7_misfit 170 = .ok (.iconst 0, 1) := by decide +kernel
theorem dX7_misfit_171 : decode cX7_misfit 171 = .ok (.goto 4, 3) := by decide +kernel
theorem dX7_misfit_174 : decode cX7_misfit 174 = .ok (.iconst 4, 1) := by decide +kernel
theorem dX7_misfit_175 : decode cX7_misfit 175 = .ok (.ireturn, 1) := by decide +kernel
theorem dX7_misfit_176 : decode cX7_misfit 176 = .ok (.aload_n 0, 1) := by decide +kernel
theorem dX7_misfit_177 : decode cX7_misfit 177 = .ok (.getfield 13, 3) := by decide +kernel
theorem dX7_misfit_180 : decode cX7_misfit 180 = .ok (.iload 4, 2) := by decide +kernel
theorem dX7_misfit_182 : decode cX7_misfit 182 = .ok (.iaload, 1) := by decide +kernel
theorem dX7_misfit_183 : decode cX7_misfit 183 = .ok (.iconst 2, 1) := by decide +kernel
theorem dX7_misfit_184 : decode cX7_misfit 184 = .ok (.if_icmp .ne 40, 3) := by decide +kernel
theorem dX7_misfit_187 : decode cX7_misfit 187 = .ok (.aload_n 0, 1) := by decide +kernel
theorem dX7_misfit_188 : decode cX7_misfit 188 = .ok (.getfield 17, 3) := by decide +kernel
theorem dX7_misfit_191 : decode cX7_misfit 191 = .ok (.iload 4, 2) := by decide +kernel
theorem dX7_misfit_193 : decode cX7_misfit 193 = .ok (.iaload, 1) := by decide +kernel
theorem dX7_misfit_194 : decode cX7_misfit 194 = .ok (.iload 5, 2) := by decide +kernel
theorem dX7_misfit_196 : decode cX7_misfit 196 = .ok (.if_icmp .ne 28, 3) := by decide +kernel
theorem dX7_misfit_199 : decode cX7_misfit 199 = .ok (.aload_n 0, 1) := by decide +kernel
theorem dX7_misfit_200 : decode cX7_misfit 200 = .ok (.getfield 20, 3) := by decide +kernel
theorem dX7_misfit_203 : decode cX7_misfit 203 = .ok (.iload 4, 2) := by decide +kernel
theorem dX7_misfit_205 : decode cX7_misfit 205 = .ok (.iaload, 1) := by decide +kernel
theorem dX7_misfit_206 : decode cX7_misfit 206 = .ok (.aload_n 0, 1) := by decide +kernel
theorem dX7_misfit_207 : decode cX7_misfit 207 = .ok (.iload_n 1, 1) := by decide +kernel
theorem dX7_misfit_208 : decode cX7_misfit 208 = .ok (.aload_n 0, 1) := by decide +kernel
theorem dX7_misfit_209 : decode cX7_misfit 209 = .ok (.getfield 53, 3) := by decide +kernel
theorem dX7_misfit_212 : decode cX7_misfit 212 = .ok (.iload_n 2, 1) := by decide +kernel
theorem dX7_misfit_213 : decode cX7_misfit 213 = .ok (.iaload, 1) := by decide +kernel
theorem dX7_misfit_214 : decode cX7_misfit 214 = .ok (.invokevirtual 224, 3) := by decide +kernel
theorem dX7_misfit_217 : decode cX7_misfit 217 = .ok (.if_icmp .ne 7, 3) := by decide +kernel
theorem dX7_misfit_220 : decode cX7_misfit 220 = .ok (.iconst 0, 1) := by decide +kernel
theorem dX7_misfit_221 : decode cX7_misfit 221 = .ok (.goto 4, 3) := by decide +kernel
theorem dX7_misfit_224 : decode cX7_misfit 224 = .ok (.iconst 4, 1) := by decide +kernel
theorem dX7_misfit_225 : decode cX7_misfit 225 = .ok (.ireturn, 1) := by decide +kernel
theorem dX7_matches_0 : decode cX7_matches 0 = .ok (.iconst 0, 1) := by decide +kernel
theorem dX7_matches_1 : decode cX7_matches 1 = .ok (.istore_n 1, 1) := by decide +kernel
theorem dX7_matches_2 : decode cX7_matches 2 = .ok (.iload_n 1, 1) := by decide +kernel
theorem dX7_matches_3 : decode cX7_matches 3 = .ok (.aload_n 0, 1) := by decide +kernel
theorem dX7_matches_4 : decode cX7_matches 4 = .ok (.getfield 204, 3) := by decide +kernel
theorem dX7_matches_7 : decode cX7_matches 7 = .ok (.if_icmp .ge 113, 3) := by decide +kernel
theorem dX7_matches_10 : decode cX7_matches 10 = .ok (.iconst 0, 1) := by decide +kernel
theorem dX7_matches_11 : decode cX7_matches 11 = .ok (.istore_n 2, 1) := by decide +kernel
theorem dX7_matches_12 : decode cX7_matches 12 = .ok (.iload_n 2, 1) := by decide +kernel
theorem dX7_matches_13 : decode cX7_matches 13 = .ok (.aload_n 0, 1) := by decide +kernel
theorem dX7_matches_14 : decode cX7_matches 14 = .ok (.getfield 198, 3) := by decide +kernel
theorem dX7_matches_17 : decode cX7_matches 17 = .ok (.if_icmp .ge 97, 3) := by decide +kernel
theorem dX7_matches_20 : decode cX7_matches 20 = .ok (.bipush 20, 2) := by decide +kernel
theorem dX7_matches_22 : decode cX7_matches 22 = .ok (.iload_n 2, 1) := by decide +kernel
theorem dX7_matches_23 : decode cX7_matches 23 = .ok (.imul, 1) := by decide +kernel
theorem dX7_matches_24 : decode cX7_matches 24 = .ok (.iload_n 1, 1) := by decide +kernel
theorem dX7_matches_25 : decode cX7_matches 25 = .ok (.iadd, 1) := by decide +kernel
theorem dX7_matches_26 : decode cX7_matches 26 = .ok (.istore_n 3, 1) := by decide +kernel
theorem dX7_matches_27 : decode cX7_matches 27 = .ok (.aload_n 0, 1) := by decide +kernel
theorem dX7_matches_28 : decode cX7_matches 28 = .ok (.getfield 150, 3) := by decide +kernel
theorem dX7_matches_31 : decode cX7_matches 31 = .ok (.iload_n 3, 1) := by decide +kernel
theorem dX7_matches_32 : decode cX7_matches 32 = .ok (.iconst 0, 1) := by decide +kernel
theorem dX7_matches_33 : decode cX7_matches 33 = .ok (.iastore, 1) := by decide +kernel
theorem dX7_matches_34 : decode cX7_matches 34 = .ok (.bipush 60, 2) := by decide +kernel
theorem dX7_matches_36 : decode cX7_matches 36 = .ok (.iload_n 1, 1) := by decide +kernel
theorem dX7_matches_37 : decode cX7_matches 37 = .ok (.imul, 1) := by decide +kernel
theorem dX7_matches_38 : decode cX7_matches 38 = .ok (.istore 4, 2) := by decide +kernel
theorem dX7_matches_40 : decode cX7_matches 40 = .ok (.iload 4, 2) := by decide +kernel
theorem dX7_matches_42 : decode cX7_matches 42 = .ok (.bipush 60, 2) := by decide +kernel
theorem dX7_matches_44 : decode cX7_matches 44 = .ok (.iload_n 1, 1) := by decide +kernel
theorem dX7_matches_45 : decode cX7_matches 45 = .ok (.imul, 1) := by decide +kernel
theorem dX7_matches_46 : decode cX7_matches 46 = .ok (.aload_n 0, 1) := by decide +kernel
theorem dX7_matches_47 : decode cX7_matches 47 = .ok (.getfield 38, 3) := by decide +kernel
theorem dX7_matches_50 : decode cX7_matches 50 = .ok (.iload_n 1, 1) := by decide +kernel
theorem dX7_matches_51 : decode cX7_matches 51 = .ok (.iaload, 1) := by decide +kernel
theorem dX7_matches_52 : decode cX7_matches 52 = .ok (.iadd, 1) := by decide +kernel
theorem dX7_matches_53 : decode cX7_matches 53 = .ok (.if_icmp .ge 55, 3) := by decide +kernel
theorem dX7_matches_56 : decode cX7_matches 56 = .ok (.aload_n 0, 1) := by decide +kernel
theorem dX7_matches_57 : decode cX7_matches 57 = .ok (.getfield 150, 3) := by decide +kernel
theorem dX7_matches_60 : decode cX7_matches 60 = .ok (.iload_n 3, 1) := by decide +kernel
theorem dX7_matches_61 : decode cX7_matches 61 = .ok (.iaload, 1) := by decide +kernel
theorem dX7_matches_62 : decode cX7_matches 62 = .ok (.ifCond .ne 46, 3) := by decide +kernel
theorem dX7_matches_65 : decode cX7_matches 65 = .ok (.aload_n 0, 1) := by decide +kernel
theorem dX7_matches_66 : decode cX7_matches 66 = .ok (.iload_n 2, 1) := by decide +kernel
theorem dX7_matches_67 : decode cX7_matches 67 = .ok (.iload 4, 2) := by decide +kernel
theorem dX7_matches_69 : decode cX7_matches 69 = .ok (.invokevirtual 227, 3) := by decide +kernel
theorem dX7_matches_72 : decode cX7_matches 72 = .ok (.istore 5, 2) := by decide +kernel
theorem dX7_matches_74 : decode cX7_matches 74 = .ok (.aload_n 0, 1) := by decide +kernel
theorem dX7_matches_75 : decode cX7_matches 75 = .ok (.getfield 150, 3) := by decide +kernel
theorem dX7_matches_78 : decode cX7_matches 78 = .ok (.iload_n 3, 1) := by decide +kernel
theorem dX7_matches_79 : decode cX7_matches 79 = .ok (.iload 5, 2) := by decide +kernel
theorem dX7_matches_81 : decode cX7_matches 81 = .ok (.ifCond .le 19, 3) := by decide +kernel
theorem dX7_matches_84 : decode cX7_matches 84 = .ok (.bipush 10, 2) := by decide +kernel
theorem dX7_matches_86 : decode cX7_matches 86 = .ok (.iload 5, 2) := by decide +kernel
theorem dX7_matches_88 : decode cX7_matches 88 = .ok (.imul, 1) := by decide +kernel
theorem dX7_matches_89 : decode cX7_matches 89 = .ok (.aload_n 0, 1) := by decide +kernel
theorem dX7_matches_90 : decode cX7_matches 90 = .ok (.getfield 47, 3) := by decide +kernel
theorem dX7_matches_93 : decode cX7_matches 93 = .ok (.iload 4, 2) := by decide +kernel
theorem dX7_matches_95 : decode cX7_matches 95 = .ok (.iaload, 1) := by decide +kernel
theorem dX7_matches_96 : decode cX7_matches 96 = .ok (.iadd, 1) := by decide +kernel
theorem dX7_matches_97 : decode cX7_matches 97 = .ok (.goto 4, 3) := by decide +kernel
theorem dX7_matches_100 : decode cX7_matches 100 = .ok (.iconst 0, 1) := by decide +kernel
theorem dX7_matches_101 : decode cX7_matches 101 = .ok (.iastore, 1) := by decide +kernel
theorem dX7_matches_102 : decode cX7_matches 102 = .ok (.iinc 4 1, 3) := by decide +kernel
theorem dX7_matches_105 : decode cX7_matches 105 = .ok (.goto (-65), 3) := by decide +kernel
theorem dX7_matches_108 : decode cX7_matches 108 = .ok (.iinc 2 1, 3) := by decide +kernel
theorem dX7_matches_111 : decode cX7_matches 111 = .ok (.goto (-99), 3) := by decide +kernel
theorem dX7_matches_114 : decode cX7_matches 114 = .ok (.iinc 1 1, 3) := by decide +kernel
theorem dX7_matches_117 : decode cX7_matches 117 = .ok (.goto (-115), 3) := by decide +kernel
theorem dX7_matches_120 : decode cX7_matches 120 = .ok (.return_, 1) := by decide +kernel
theorem dX7_matchOf_0 : decode cX7_matchOf 0 = .ok (.aload_n 0, 1) := by decide +kernel
theorem dX7_matchOf_1 : decode cX7_matchOf 1 = .ok (.invokevirtual 230, 3) := by decide +kernel
theorem dX7_matchOf_4 : decode cX7_matchOf 4 = .ok (.aload_n 0, 1) := by decide +kernel
theorem dX7_matchOf_5 : decode cX7_matchOf 5 = .ok (.getfield 150, 3) := by decide +kernel
theorem dX7_matchOf_8 : decode cX7_matchOf 8 = .ok (.bipush 20, 2) := by decide +kernel
theorem dX7_matchOf_10 : decode cX7_matchOf 10 = .ok (.iload_n 1, 1) := by decide +kernel
theorem dX7_matchOf_11 : decode cX7_matchOf 11 = .ok (.imul, 1) := by decide +kernel
theorem dX7_matchOf_12 : decode cX7_matchOf 12 = .ok (.iload_n 2, 1) := by decide +kernel
theorem dX7_matchOf_13 : decode cX7_matchOf 13 = .ok (.iadd, 1) := by decide +kernel
theorem dX7_matchOf_14 : decode cX7_matchOf 14 = .ok (.iaload, 1) := by decide +kernel
theorem dX7_matchOf_15 : decode cX7_matchOf 15 = .ok (.ireturn, 1) := by decide +kernel
theorem dX7_match_0 : decode cX7_match 0 = .ok (.aload_n 0, 1) := by decide +kernel
theorem dX7_match_1 : decode cX7_match 1 = .ok (.aload_n 0, 1) := by decide +kernel
theorem dX7_match_2 : decode cX7_match 2 = .ok (.iload_n 1, 1) := by decide +kernel
theorem dX7_match_3 : decode cX7_match 3 = .ok (.invokevirtual 201, 3) := by decide +kernel
theorem dX7_match_6 : decode cX7_match 6 = .ok (.ifCond .eq 15, 3) := by decide +kernel
theorem dX7_match_9 : decode cX7_match 9 = .ok (.aload_n 0, 1) := by decide +kernel
theorem dX7_match_10 : decode cX7_match 10 = .ok (.iload_n 2, 1) := by decide +kernel
theorem dX7_match_11 : decode cX7_match 11 = .ok (.invokevirtual 217, 3) := by decide +kernel
theorem dX7_match_14 : decode cX7_match 14 = .ok (.ifCond .eq 7, 3) := by decide +kernel
theorem dX7_match_17 : decode cX7_match 17 = .ok (.iconst 0, 1) := by decide +kernel
theorem dX7_match_18 : decode cX7_match 18 = .ok (.goto 4, 3) := by decide +kernel
theorem dX7_match_21 : decode cX7_match 21 = .ok (.iconst 1, 1) := by decide +kernel
theorem dX7_match_22 : decode cX7_match 22 = .ok (.invokevirtual 175, 3) := by decide +kernel
theorem dX7_match_25 : decode cX7_match 25 = .ok (.ifCond .eq 7, 3) := by decide +kernel
theorem dX7_match_28 : decode cX7_match 28 = .ok (.iconst 0, 1) := by decide +kernel
theorem dX7_match_29 : decode cX7_match 29 = .ok (.goto 9, 3) := by decide +kernel
theorem dX7_match_32 : decode cX7_match 32 = .ok (.aload_n 0, 1) := by decide +kernel
theorem dX7_match_33 : decode cX7_match 33 = .ok (.iload_n 1, 1) := by decide +kernel
theorem dX7_match_34 : decode cX7_match 34 = .ok (.iload_n 2, 1) := by decide +kernel
theorem dX7_match_35 : decode cX7_match 35 = .ok (.invokevirtual 233, 3) := by decide +kernel
theorem dX7_match_38 : decode cX7_match 38 = .ok (.ireturn, 1) := by decide +kernel
theorem dX7_enters_0 : decode cX7_enters 0 = .ok (.aload_n 0, 1) := by decide +kernel
theorem dX7_enters_1 : decode cX7_enters 1 = .ok (.getfield 120, 3) := by decide +kernel
theorem dX7_enters_4 : decode cX7_enters 4 = .ok (.aload_n 0, 1) := by decide +kernel
theorem dX7_enters_5 : decode cX7_enters 5 = .ok (.getfield 236, 3) := by decide +kernel
theorem dX7_enters_8 : decode cX7_enters 8 = .ok (.iload_n 1, 1) := by decide +kernel
theorem dX7_enters_9 : decode cX7_enters 9 = .ok (.iastore, 1) := by decide +kernel
theorem dX7_enters_10 : decode cX7_enters 10 = .ok (.aload_n 0, 1) := by decide +kernel
theorem dX7_enters_11 : decode cX7_enters 11 = .ok (.getfield 123, 3) := by decide +kernel
theorem dX7_enters_14 : decode cX7_enters 14 = .ok (.aload_n 0, 1) := by decide +kernel
theorem dX7_enters_15 : decode cX7_enters 15 = .ok (.getfield 236, 3) := by decide +kernel
theorem dX7_enters_18 : decode cX7_enters 18 = .ok (.iload_n 2, 1) := by decide +kernel
theorem dX7_enters_19 : decode cX7_enters 19 = .ok (.iastore, 1) := by decide +kernel
theorem dX7_enters_20 : decode cX7_enters 20 = .ok (.aload_n 0, 1) := by decide +kernel
theorem dX7_enters_21 : decode cX7_enters 21 = .ok (.getfield 126, 3) := by decide +kernel
theorem dX7_enters_24 : decode cX7_enters 24 = .ok (.aload_n 0, 1) := by decide +kernel
theorem dX7_enters_25 : decode cX7_enters 25 = .ok (.getfield 236, 3) := by decide +kernel
theorem dX7_enters_28 : decode cX7_enters 28 = .ok (.bipush 60, 2) := by decide +kernel
theorem dX7_enters_30 : decode cX7_enters 30 = .ok (.iload_n 1, 1) := by decide +kernel
theorem dX7_enters_31 : decode cX7_enters 31 = .ok (.imul, 1) := by decide +kernel
theorem dX7_enters_32 : decode cX7_enters 32 = .ok (.iastore, 1) := by decide +kernel
theorem dX7_enters_33 : decode cX7_enters 33 = .ok (.aload_n 0, 1) := by decide +kernel
theorem dX7_enters_34 : decode cX7_enters 34 = .ok (.getfield 135, 3) := by decide +kernel
theorem dX7_enters_37 : decode cX7_enters 37 = .ok (.aload_n 0, 1) := by decide +kernel
theorem dX7_enters_38 : decode cX7_enters 38 = .ok (.getfield 236, 3) := by decide +kernel
theorem dX7_enters_41 : decode cX7_enters 41 = .ok (.iconst 0, 1) := by decide +kernel
theorem dX7_enters_42 : decode cX7_enters 42 = .ok (.iastore, 1) := by decide +kernel
theorem dX7_enters_43 : decode cX7_enters 43 = .ok (.aload_n 0, 1) := by decide +kernel
theorem dX7_enters_44 : decode cX7_enters 44 = .ok (.dup, 1) := by decide +kernel
theorem dX7_enters_45 : decode cX7_enters 45 = .ok (.getfield 236, 3) := by decide +kernel
theorem dX7_enters_48 : decode cX7_enters 48 = .ok (.iconst 1, 1) := by decide +kernel
theorem dX7_enters_49 : decode cX7_enters 49 = .ok (.iadd, 1) := by decide +kernel
theorem dX7_enters_50 : decode cX7_enters 50 = .ok (.putfield 236, 3) := by decide +kernel
theorem dX7_enters_53 : decode cX7_enters 53 = .ok (.return_, 1) := by decide +kernel
theorem dX7_lays_0 : decode cX7_lays 0 = .ok (.bipush 60, 2) := by decide +kernel
theorem dX7_lays_2 : decode cX7_lays 2 = .ok (.aload_n 0, 1) := by decide +kernel
theorem dX7_lays_3 : decode cX7_lays 3 = .ok (.getfield 236, 3) := by decide +kernel
theorem dX7_lays_6 : decode cX7_lays 6 = .ok (.iconst 1, 1) := by decide +kernel
theorem dX7_lays_7 : decode cX7_lays 7 = .ok (.isub, 1) := by decide +kernel
theorem dX7_lays_8 : decode cX7_lays 8 = .ok (.imul, 1) := by decide +kernel
theorem dX7_lays_9 : decode cX7_lays 9 = .ok (.aload_n 0, 1) := by decide +kernel
theorem dX7_lays_10 : decode cX7_lays 10 = .ok (.getfield 135, 3) := by decide +kernel
theorem dX7_lays_13 : decode cX7_lays 13 = .ok (.aload_n 0, 1) := by decide +kernel
theorem dX7_lays_14 : decode cX7_lays 14 = .ok (.getfield 236, 3) := by decide +kernel
theorem dX7_lays_17 : decode cX7_lays 17 = .ok (.iconst 1, 1) := by decide +kernel
theorem dX7_lays_18 : decode cX7_lays 18 = .ok (.isub, 1) := by decide +kernel
theorem dX7_lays_19 : decode cX7_lays 19 = .ok (.iaload, 1) := by decide +kernel
theorem dX7_lays_20 : decode cX7_lays 20 = .ok (.iadd, 1) := by decide +kernel
theorem dX7_lays_21 : decode cX7_lays 21 = .ok (.istore 5, 2) := by decide +kernel
theorem dX7_lays_23 : decode cX7_lays 23 = .ok (.aload_n 0, 1) := by decide +kernel
theorem dX7_lays_24 : decode cX7_lays 24 = .ok (.getfield 138, 3) := by decide +kernel
theorem dX7_lays_27 : decode cX7_lays 27 = .ok (.iload 5, 2) := by decide +kernel
theorem dX7_lays_29 : decode cX7_lays 29 = .ok (.iload_n 1, 1) := by decide +kernel
theorem dX7_lays_30 : decode cX7_lays 30 = .ok (.iastore, 1) := by decide +kernel
theorem dX7_lays_31 : decode cX7_lays 31 = .ok (.aload_n 0, 1) := by decide +kernel
theorem dX7_lays_32 : decode cX7_lays 32 = .ok (.getfield 141, 3) := by decide +kernel
theorem dX7_lays_35 : decode cX7_lays 35 = .ok (.iload 5, 2) := by decide +kernel
theorem dX7_lays_37 : decode cX7_lays 37 = .ok (.iload_n 2, 1) := by decide +kernel
theorem dX7_lays_38 : decode cX7_lays 38 = .ok (.iastore, 1) := by decide +kernel
theorem dX7_lays_39 : decode cX7_lays 39 = .ok (.aload_n 0, 1) := by decide +kernel
theorem dX7_lays_40 : decode cX7_lays 40 = .ok (.getfield 144, 3) := by decide +kernel
theorem dX7_lays_43 : decode cX7_lays 43 = .ok (.iload 5, 2) := by decide +kernel
theorem dX7_lays_45 : decode cX7_lays 45 = .ok (.iload_n 3, 1) := by decide +kernel
theorem dX7_lays_46 : decode cX7_lays 46 = .ok (.iastore, 1) := by decide +kernel
theorem dX7_lays_47 : decode cX7_lays 47 = .ok (.aload_n 0, 1) := by decide +kernel
theorem dX7_lays_48 : decode cX7_lays 48 = .ok (.getfield 147, 3) := by decide +kernel
theorem dX7_lays_51 : decode cX7_lays 51 = .ok (.iload 5, 2) := by decide +kernel
theorem dX7_lays_53 : decode cX7_lays 53 = .ok (.iload 4, 2) := by decide +kernel
theorem dX7_lays_55 : decode cX7_lays 55 = .ok (.iastore, 1) := by decide +kernel
theorem dX7_lays_56 : decode cX7_lays 56 = .ok (.aload_n 0, 1) := by decide +kernel
theorem dX7_lays_57 : decode cX7_lays 57 = .ok (.getfield 135, 3) := by decide +kernel
theorem dX7_lays_60 : decode cX7_lays 60 = .ok (.aload_n 0, 1) := by decide +kernel
theorem dX7_lays_61 : decode cX7_lays 61 = .ok (.getfield 236, 3) := by decide +kernel
theorem dX7_lays_64 : decode cX7_lays 64 = .ok (.iconst 1, 1) := by decide +kernel
theorem dX7_lays_65 : decode cX7_lays 65 = .ok (.isub, 1) := by decide +kernel
theorem dX7_lays_66 : decode cX7_lays 66 = .ok (.dup2, 1) := by decide +kernel
theorem dX7_lays_67 : decode cX7_lays 67 = .ok (.iaload, 1) := by decide +kernel
theorem dX7_lays_68 : decode cX7_lays 68 = .ok (.iconst 1, 1) := by decide +kernel
theorem dX7_lays_69 : decode cX7_lays 69 = .ok (.iadd, 1) := by decide +kernel
theorem dX7_lays_70 : decode cX7_lays 70 = .ok (.iastore, 1) := by decide +kernel
theorem dX7_lays_71 : decode cX7_lays 71 = .ok (.return_, 1) := by decide +kernel
theorem dX7_meansNow_0 : decode cX7_meansNow 0 = .ok (.iload_n 1, 1) := by decide +kernel
theorem dX7_meansNow_1 : decode cX7_meansNow 1 = .ok (.ifCond .lt 7, 3) := by decide +kernel
theorem dX7_meansNow_4 : decode cX7_meansNow 4 = .ok (.iload_n 1, 1) := by decide +kernel
theorem dX7_meansNow_5 : decode cX7_meansNow 5 = .ok (.goto 21, 3) := by decide +kernel
theorem dX7_meansNow_8 : decode cX7_meansNow 8 = .ok (.aload_n 0, 1) := by decide +kernel
theorem dX7_meansNow_9 : decode cX7_meansNow 9 = .ok (.getfield 132, 3) := by decide +kernel
theorem dX7_meansNow_12 : decode cX7_meansNow 12 = .ok (.bipush 10, 2) := by decide +kernel
theorem dX7_meansNow_14 : decode cX7_meansNow 14 = .ok (.aload_n 0, 1) := by decide +kernel
theorem dX7_meansNow_15 : decode cX7_meansNow 15 = .ok (.getfield 236, 3) := by decide +kernel
theorem dX7_meansNow_18 : decode cX7_meansNow 18 = .ok (.iconst 1, 1) := by decide +kernel
theorem dX7_meansNow_19 : decode cX7_meansNow 19 = .ok (.isub, 1) := by decide +kernel
theorem dX7_meansNow_20 : decode cX7_meansNow 20 = .ok (.imul, 1) := by decide +kernel
theorem dX7_meansNow_21 : decode cX7_meansNow 21 = .ok (.iconst 1, 1) := by decide +kernel
theorem dX7_meansNow_22 : decode cX7_meansNow 22 = .ok (.isub, 1) := by decide +kernel
theorem dX7_meansNow_23 : decode cX7_meansNow 23 = .ok (.iload_n 1, 1) := by decide +kernel
theorem dX7_meansNow_24 : decode cX7_meansNow 24 = .ok (.isub, 1) := by decide +kernel
theorem dX7_meansNow_25 : decode cX7_meansNow 25 = .ok (.iaload, 1) := by decide +kernel
theorem dX7_meansNow_26 : decode cX7_meansNow 26 = .ok (.ireturn, 1) := by decide +kernel
theorem dX7_numberOf_0 : decode cX7_numberOf 0 = .ok (.iload_n 1, 1) := by decide +kernel
theorem dX7_numberOf_1 : decode cX7_numberOf 1 = .ok (.iconst (-1), 1) := by decide +kernel
theorem dX7_numberOf_2 : decode cX7_numberOf 2 = .ok (.if_icmp .ne 7, 3) := by decide +kernel
theorem dX7_numberOf_5 : decode cX7_numberOf 5 = .ok (.iconst 0, 1) := by decide +kernel
theorem dX7_numberOf_6 : decode cX7_numberOf 6 = .ok (.goto 15, 3) := by decide +kernel
theorem dX7_numberOf_9 : decode cX7_numberOf 9 = .ok (.aload_n 0, 1) := by decide +kernel
theorem dX7_numberOf_10 : decode cX7_numberOf 10 = .ok (.getfield 35, 3) := by decide +kernel
theorem dX7_numberOf_13 : decode cX7_numberOf 13 = .ok (.aload_n 0, 1) := by decide +kernel
theorem dX7_numberOf_14 : decode cX7_numberOf 14 = .ok (.iload_n 1, 1) := by decide +kernel
theorem dX7_numberOf_15 : decode cX7_numberOf 15 = .ok (.iconst 1, 1) := by decide +kernel
theorem dX7_numberOf_16 : decode cX7_numberOf 16 = .ok (.iload_n 2, 1) := by decide +kernel
theorem dX7_numberOf_17 : decode cX7_numberOf 17 = .ok (.invokevirtual 181, 3) := by decide +kernel
theorem dX7_numberOf_20 : decode cX7_numberOf 20 = .ok (.iaload, 1) := by decide +kernel
theorem dX7_numberOf_21 : decode cX7_numberOf 21 = .ok (.ireturn, 1) := by decide +kernel
theorem dX7_typeNow_0 : decode cX7_typeNow 0 = .ok (.aload_n 0, 1) := by decide +kernel
theorem dX7_typeNow_1 : decode cX7_typeNow 1 = .ok (.getfield 50, 3) := by decide +kernel
theorem dX7_typeNow_4 : decode cX7_typeNow 4 = .ok (.iload_n 3, 1) := by decide +kernel
theorem dX7_typeNow_5 : decode cX7_typeNow 5 = .ok (.iaload, 1) := by decide +kernel
theorem dX7_typeNow_6 : decode cX7_typeNow 6 = .ok (.bipush (-100), 2) := by decide +kernel
theorem dX7_typeNow_8 : decode cX7_typeNow 8 = .ok (.if_icmp .eq 14, 3) := by decide +kernel
theorem dX7_typeNow_11 : decode cX7_typeNow 11 = .ok (.aload_n 0, 1) := by decide +kernel
theorem dX7_typeNow_12 : decode cX7_typeNow 12 = .ok (.aload_n 0, 1) := by decide +kernel
theorem dX7_typeNow_13 : decode cX7_typeNow 13 = .ok (.getfield 50, 3) := by decide +kernel
theorem dX7_typeNow_16 : decode cX7_typeNow 16 = .ok (.iload_n 3, 1) := by decide +kernel
theorem dX7_typeNow_17 : decode cX7_typeNow 17 = .ok (.iaload, 1) := by decide +kernel
theorem dX7_typeNow_18 : decode cX7_typeNow 18 = .ok (.invokevirtual 239, 3) := by decide +kernel
theorem dX7_typeNow_21 : decode cX7_typeNow 21 = .ok (.ireturn, 1) := by decide +kernel
theorem dX7_typeNow_22 : decode cX7_typeNow 22 = .ok (.iload_n 1, 1) := by decide +kernel
theorem dX7_typeNow_23 : decode cX7_typeNow 23 = .ok (.iconst 1, 1) := by decide +kernel
theorem dX7_typeNow_24 : decode cX7_typeNow 24 = .ok (.if_icmp .ne 23, 3) := by decide +kernel
theorem dX7_typeNow_27 : decode cX7_typeNow 27 = .ok (.aload_n 0, 1) := by decide +kernel
theorem dX7_typeNow_28 : decode cX7_typeNow 28 = .ok (.getfield 32, 3) := by decide +kernel
theorem dX7_typeNow_31 : decode cX7_typeNow 31 = .ok (.aload_n 0, 1) := by decide +kernel
theorem dX7_typeNow_32 : decode cX7_typeNow 32 = .ok (.iload_n 2, 1) := by decide +kernel
theorem dX7_typeNow_33 : decode cX7_typeNow 33 = .ok (.iconst 0, 1) := by decide +kernel
theorem dX7_typeNow_34 : decode cX7_typeNow 34 = .ok (.aload_n 0, 1) := by decide +kernel
theorem dX7_typeNow_35 : decode cX7_typeNow 35 = .ok (.getfield 47, 3) := by decide +kernel
theorem dX7_typeNow_38 : decode cX7_typeNow 38 = .ok (.iload_n 3, 1) := by decide +kernel
theorem dX7_typeNow_39 : decode cX7_typeNow 39 = .ok (.iaload, 1) := by decide +kernel
theorem dX7_typeNow_40 : decode cX7_typeNow 40 = .ok (.invokevirtual 181, 3) := by decide +kernel
theorem dX7_typeNow_43 : decode cX7_typeNow 43 = .ok (.iaload, 1) := by decide +kernel
theorem dX7_typeNow_44 : decode cX7_typeNow 44 = .ok (.goto 10, 3) := by decide +kernel
theorem dX7_typeNow_47 : decode cX7_typeNow 47 = .ok (.aload_n 0, 1) := by decide +kernel
theorem dX7_typeNow_48 : decode cX7_typeNow 48 = .ok (.iconst 1, 1) := by decide +kernel
theorem dX7_typeNow_49 : decode cX7_typeNow 49 = .ok (.iconst (-1), 1) := by decide +kernel
theorem dX7_typeNow_50 : decode cX7_typeNow 50 = .ok (.iconst (-1), 1) := by decide +kernel
theorem dX7_typeNow_51 : decode cX7_typeNow 51 = .ok (.invokevirtual 167, 3) := by decide +kernel
theorem dX7_typeNow_54 : decode cX7_typeNow 54 = .ok (.ireturn, 1) := by decide +kernel
theorem dX7_leaves_0 : decode cX7_leaves 0 = .ok (.aload_n 0, 1) := by decide +kernel
theorem dX7_leaves_1 : decode cX7_leaves 1 = .ok (.getfield 236, 3) := by decide +kernel
theorem dX7_leaves_4 : decode cX7_leaves 4 = .ok (.iconst 1, 1) := by decide +kernel
theorem dX7_leaves_5 : decode cX7_leaves 5 = .ok (.isub, 1) := by decide +kernel
theorem dX7_leaves_6 : decode cX7_leaves 6 = .ok (.istore_n 1, 1) := by decide +kernel
theorem dX7_leaves_7 : decode cX7_leaves 7 = .ok (.aload_n 0, 1) := by decide +kernel
theorem dX7_leaves_8 : decode cX7_leaves 8 = .ok (.getfield 23, 3) := by decide +kernel
theorem dX7_leaves_11 : decode cX7_leaves 11 = .ok (.aload_n 0, 1) := by decide +kernel
theorem dX7_leaves_12 : decode cX7_leaves 12 = .ok (.getfield 198, 3) := by decide +kernel
theorem dX7_leaves_15 : decode cX7_leaves 15 = .ok (.iconst 0, 1) := by decide +kernel
theorem dX7_leaves_16 : decode cX7_leaves 16 = .ok (.iastore, 1) := by decide +kernel
theorem dX7_leaves_17 : decode cX7_leaves 17 = .ok (.bipush 60, 2) := by decide +kernel
theorem dX7_leaves_19 : decode cX7_leaves 19 = .ok (.iload_n 1, 1) := by decide +kernel
theorem dX7_leaves_20 : decode cX7_leaves 20 = .ok (.imul, 1) := by decide +kernel
theorem dX7_leaves_21 : decode cX7_leaves 21 = .ok (.istore_n 2, 1) := by decide +kernel
theorem dX7_leaves_22 : decode cX7_leaves 22 = .ok (.iload_n 2, 1) := by decide +kernel
theorem dX7_leaves_23 : decode cX7_leaves 23 = .ok (.bipush 60, 2) := by decide +kernel
theorem dX7_leaves_25 : decode cX7_leaves 25 = .ok (.iload_n 1, 1) := by decide +kernel
theorem dX7_leaves_26 : decode cX7_leaves 26 = .ok (.imul, 1) := by decide +kernel
theorem dX7_leaves_27 : decode cX7_leaves 27 = .ok (.aload_n 0, 1) := by decide +kernel
theorem dX7_leaves_28 : decode cX7_leaves 28 = .ok (.getfield 135, 3) := by decide +kernel
theorem dX7_leaves_31 : decode cX7_leaves 31 = .ok (.iload_n 1, 1) := by decide +kernel
theorem dX7_leaves_32 : decode cX7_leaves 32 = .ok (.iaload, 1) := by decide +kernel
theorem dX7_leaves_33 : decode cX7_leaves 33 = .ok (.iadd, 1) := by decide +kernel
theorem dX7_leaves_34 : decode cX7_leaves 34 = .ok (.if_icmp .ge 41, 3) := by decide +kernel
theorem dX7_leaves_37 : decode cX7_leaves 37 = .ok (.aload_n 0, 1) := by decide +kernel
theorem dX7_leaves_38 : decode cX7_leaves 38 = .ok (.aload_n 0, 1) := by decide +kernel
theorem dX7_leaves_39 : decode cX7_leaves 39 = .ok (.getfield 198, 3) := by decide +kernel
theorem dX7_leaves_42 : decode cX7_leaves 42 = .ok (.aload_n 0, 1) := by decide +kernel
theorem dX7_leaves_43 : decode cX7_leaves 43 = .ok (.getfield 138, 3) := by decide +kernel
theorem dX7_leaves_46 : decode cX7_leaves 46 = .ok (.iload_n 2, 1) := by decide +kernel
theorem dX7_leaves_47 : decode cX7_leaves 47 = .ok (.iaload, 1) := by decide +kernel
theorem dX7_leaves_48 : decode cX7_leaves 48 = .ok (.aload_n 0, 1) := by decide +kernel
theorem dX7_leaves_49 : decode cX7_leaves 49 = .ok (.getfield 141, 3) := by decide +kernel
theorem dX7_leaves_52 : decode cX7_leaves 52 = .ok (.iload_n 2, 1) := by decide +kernel
theorem dX7_leaves_53 : decode cX7_leaves 53 = .ok (.iaload, 1) := by decide +kernel
theorem dX7_leaves_54 : decode cX7_leaves 54 = .ok (.aload_n 0, 1) := by decide +kernel
theorem dX7_leaves_55 : decode cX7_leaves 55 = .ok (.getfield 144, 3) := by decide +kernel
theorem dX7_leaves_58 : decode cX7_leaves 58 = .ok (.iload_n 2, 1) := by decide +kernel
theorem dX7_leaves_59 : decode cX7_leaves 59 = .ok (.iaload, 1) := by decide +kernel
theorem dX7_leaves_60 : decode cX7_leaves 60 = .ok (.aload_n 0, 1) := by decide +kernel
theorem dX7_leaves_61 : decode cX7_leaves 61 = .ok (.getfield 147, 3) := by decide +kernel
theorem dX7_leaves_64 : decode cX7_leaves 64 = .ok (.iload_n 2, 1) := by decide +kernel
theorem dX7_leaves_65 : decode cX7_leaves 65 = .ok (.iaload, 1) := by decide +kernel
theorem dX7_leaves_66 : decode cX7_leaves 66 = .ok (.invokevirtual 184, 3) := by decide +kernel
theorem dX7_leaves_69 : decode cX7_leaves 69 = .ok (.iinc 2 1, 3) := by decide +kernel
theorem dX7_leaves_72 : decode cX7_leaves 72 = .ok (.goto (-50), 3) := by decide +kernel
theorem dX7_leaves_75 : decode cX7_leaves 75 = .ok (.aload_n 0, 1) := by decide +kernel
theorem dX7_leaves_76 : decode cX7_leaves 76 = .ok (.dup, 1) := by decide +kernel
theorem dX7_leaves_77 : decode cX7_leaves 77 = .ok (.getfield 198, 3) := by decide +kernel
theorem dX7_leaves_80 : decode cX7_leaves 80 = .ok (.iconst 1, 1) := by decide +kernel
theorem dX7_leaves_81 : decode cX7_leaves 81 = .ok (.iadd, 1) := by decide +kernel
theorem dX7_leaves_82 : decode cX7_leaves 82 = .ok (.putfield 198, 3) := by decide +kernel
theorem dX7_leaves_85 : decode cX7_leaves 85 = .ok (.aload_n 0, 1) := by decide +kernel
theorem dX7_leaves_86 : decode cX7_leaves 86 = .ok (.dup, 1) := by decide +kernel
theorem dX7_leaves_87 : decode cX7_leaves 87 = .ok (.getfield 236, 3) := by decide +kernel
theorem dX7_leaves_90 : decode cX7_leaves 90 = .ok (.iconst 1, 1) := by decide +kernel
theorem dX7_leaves_91 : decode cX7_leaves 91 = .ok (.isub, 1) := by decide +kernel
theorem dX7_leaves_92 : decode cX7_leaves 92 = .ok (.putfield 236, 3) := by decide +kernel
theorem dX7_leaves_95 : decode cX7_leaves 95 = .ok (.aload_n 0, 1) := by decide +kernel
theorem dX7_leaves_96 : decode cX7_leaves 96 = .ok (.getfield 236, 3) := by decide +kernel
theorem dX7_leaves_99 : decode cX7_leaves 99 = .ok (.ifCond .le 48, 3) := by decide +kernel
theorem dX7_leaves_102 : decode cX7_leaves 102 = .ok (.aload_n 0, 1) := by decide +kernel
theorem dX7_leaves_103 : decode cX7_leaves 103 = .ok (.getfield 126, 3) := by decide +kernel
theorem dX7_leaves_106 : decode cX7_leaves 106 = .ok (.aload_n 0, 1) := by decide +kernel
theorem dX7_leaves_107 : decode cX7_leaves 107 = .ok (.getfield 236, 3) := by decide +kernel
theorem dX7_leaves_110 : decode cX7_leaves 110 = .ok (.iconst 1, 1) := by decide +kernel
theorem dX7_leaves_111 : decode cX7_leaves 111 = .ok (.isub, 1) := by decide +kernel
theorem dX7_leaves_112 : decode cX7_leaves 112 = .ok (.iaload, 1) := by decide +kernel
theorem dX7_leaves_113 : decode cX7_leaves 113 = .ok (.istore_n 2, 1) := by decide +kernel
theorem dX7_leaves_114 : decode cX7_leaves 114 = .ok (.aload_n 0, 1) := by decide +kernel
theorem dX7_leaves_115 : decode cX7_leaves 115 = .ok (.iconst 2, 1) := by decide +kernel
theorem dX7_leaves_116 : decode cX7_leaves 116 = .ok (.aload_n 0, 1) := by decide +kernel
theorem dX7_leaves_117 : decode cX7_leaves 117 = .ok (.getfield 47, 3) := by decide +kernel
theorem dX7_leaves_120 : decode cX7_leaves 120 = .ok (.iload_n 2, 1) := by decide +kernel
theorem dX7_leaves_121 : decode cX7_leaves 121 = .ok (.iaload, 1) := by decide +kernel
theorem dX7_leaves_122 : decode cX7_leaves 122 = .ok (.aload_n 0, 1) := by decide +kernel
theorem dX7_leaves_123 : decode cX7_leaves 123 = .ok (.getfield 198, 3) := by decide +kernel
theorem dX7_leaves_126 : decode cX7_leaves 126 = .ok (.iconst 1, 1) := by decide +kernel
theorem dX7_leaves_127 : decode cX7_leaves 127 = .ok (.isub, 1) := by decide +kernel
theorem dX7_leaves_128 : decode cX7_leaves 128 = .ok (.iconst 0, 1) := by decide +kernel
theorem dX7_leaves_129 : decode cX7_leaves 129 = .ok (.invokevirtual 242, 3) := by decide +kernel
theorem dX7_leaves_132 : decode cX7_leaves 132 = .ok (.aload_n 0, 1) := by decide +kernel
theorem dX7_leaves_133 : decode cX7_leaves 133 = .ok (.getfield 126, 3) := by decide +kernel
theorem dX7_leaves_136 : decode cX7_leaves 136 = .ok (.aload_n 0, 1) := by decide +kernel
theorem dX7_leaves_137 : decode cX7_leaves 137 = .ok (.getfield 236, 3) := by decide +kernel
theorem dX7_leaves_140 : decode cX7_leaves 140 = .ok (.iconst 1, 1) := by decide +kernel
theorem dX7_leaves_141 : decode cX7_leaves 141 = .ok (.isub, 1) := by decide +kernel
theorem dX7_leaves_142 : decode cX7_leaves 142 = .ok (.dup2, 1) := by decide +kernel
theorem dX7_leaves_143 : decode cX7_leaves 143 = .ok (.iaload, 1) := by decide +kernel
theorem dX7_leaves_144 : decode cX7_leaves 144 = .ok (.iconst 1, 1) := by decide +kernel
theorem dX7_leaves_145 : decode cX7_leaves 145 = .ok (.iadd, 1) := by decide +kernel
theorem dX7_leaves_146 : decode cX7_leaves 146 = .ok (.iastore, 1) := by decide +kernel
theorem dX7_leaves_147 : decode cX7_leaves 147 = .ok (.aload_n 0, 1) := by decide +kernel
theorem dX7_leaves_148 : decode cX7_leaves 148 = .ok (.getfield 198, 3) := by decide +kernel
theorem dX7_leaves_151 : decode cX7_leaves 151 = .ok (.iconst 1, 1) := by decide +kernel
theorem dX7_leaves_152 : decode cX7_leaves 152 = .ok (.isub, 1) := by decide +kernel
theorem dX7_leaves_153 : decode cX7_leaves 153 = .ok (.ireturn, 1) := by decide +kernel
theorem dX7_makes_0 : decode cX7_makes 0 = .ok (.iconst (-1), 1) := by decide +kernel
theorem dX7_makes_1 : decode cX7_makes 1 = .ok (.istore 4, 2) := by decide +kernel
theorem dX7_makes_3 : decode cX7_makes 3 = .ok (.aload_n 0, 1) := by decide +kernel
theorem dX7_makes_4 : decode cX7_makes 4 = .ok (.iload_n 3, 1) := by decide +kernel
theorem dX7_makes_5 : decode cX7_makes 5 = .ok (.iload_n 2, 1) := by decide +kernel
theorem dX7_makes_6 : decode cX7_makes 6 = .ok (.invokevirtual 246, 3) := by decide +kernel
theorem dX7_makes_9 : decode cX7_makes 9 = .ok (.aload_n 0, 1) := by decide +kernel
theorem dX7_makes_10 : decode cX7_makes 10 = .ok (.getfield 236, 3) := by decide +kernel
theorem dX7_makes_13 : decode cX7_makes 13 = .ok (.ifCond .le 295, 3) := by decide +kernel
theorem dX7_makes_16 : decode cX7_makes 16 = .ok (.aload_n 0, 1) := by decide +kernel
theorem dX7_makes_17 : decode cX7_makes 17 = .ok (.getfield 120, 3) := by decide +kernel
theorem dX7_makes_20 : decode cX7_makes 20 = .ok (.aload_n 0, 1) := by decide +kernel
theorem dX7_makes_21 : decode cX7_makes 21 = .ok (.getfield 236, 3) := by decide +kernel
theorem dX7_makes_24 : decode cX7_makes 24 = .ok (.iconst 1, 1) := by decide +kernel
theorem dX7_makes_25 : decode cX7_makes 25 = .ok (.isub, 1) := by decide +kernel
theorem dX7_makes_26 : decode cX7_makes 26 = .ok (.iaload, 1) := by decide +kernel
theorem dX7_makes_27 : decode cX7_makes 27 = .ok (.istore 5, 2) := by decide +kernel
theorem dX7_makes_29 : decode cX7_makes 29 = .ok (.aload_n 0, 1) := by decide +kernel
theorem dX7_makes_30 : decode cX7_makes 30 = .ok (.getfield 123, 3) := by decide +kernel
theorem dX7_makes_33 : decode cX7_makes 33 = .ok (.aload_n 0, 1) := by decide +kernel
theorem dX7_makes_34 : decode cX7_makes 34 = .ok (.getfield 236, 3) := by decide +kernel
theorem dX7_makes_37 : decode cX7_makes 37 = .ok (.iconst 1, 1) := by decide +kernel
theorem dX7_makes_38 : decode cX7_makes 38 = .ok (.isub, 1) := by decide +kernel
theorem dX7_makes_39 : decode cX7_makes 39 = .ok (.iaload, 1) := by decide +kernel
theorem dX7_makes_40 : decode cX7_makes 40 = .ok (.istore 6, 2) := by decide +kernel
theorem dX7_makes_42 : decode cX7_makes 42 = .ok (.aload_n 0, 1) := by decide +kernel
theorem dX7_makes_43 : decode cX7_makes 43 = .ok (.getfield 126, 3) := by decide +kernel
theorem dX7_makes_46 : decode cX7_makes 46 = .ok (.aload_n 0, 1) := by decide +kernel
theorem dX7_makes_47 : decode cX7_makes 47 = .ok (.getfield 236, 3) := by decide +kernel
theorem dX7_makes_50 : decode cX7_makes 50 = .ok (.iconst 1, 1) := by decide +kernel
theorem dX7_makes_51 : decode cX7_makes 51 = .ok (.isub, 1) := by decide +kernel
theorem dX7_makes_52 : decode cX7_makes 52 = .ok (.iaload, 1) := by decide +kernel
theorem dX7_makes_53 : decode cX7_makes 53 = .ok (.istore 7, 2) := by decide +kernel
theorem dX7_makes_55 : decode cX7_makes 55 = .ok (.iload 7, 2) := by decide +kernel
theorem dX7_makes_57 : decode cX7_makes 57 = .ok (.bipush 60, 2) := by decide +kernel
theorem dX7_makes_59 : decode cX7_makes 59 = .ok (.iload 5, 2) := by decide +kernel
theorem dX7_makes_61 : decode cX7_makes 61 = .ok (.imul, 1) := by decide +kernel
theorem dX7_makes_62 : decode cX7_makes 62 = .ok (.aload_n 0, 1) := by decide +kernel
theorem dX7_makes_63 : decode cX7_makes 63 = .ok (.getfield 38, 3) := by decide +kernel
theorem dX7_makes_66 : decode cX7_makes 66 = .ok (.iload 5, 2) := by decide +kernel
theorem dX7_makes_68 : decode cX7_makes 68 = .ok (.iaload, 1) := by decide +kernel
theorem dX7_makes_69 : decode cX7_makes 69 = .ok (.iadd, 1) := by decide +kernel
theorem dX7_makes_70 : decode cX7_makes 70 = .ok (.if_icmp .ne 12, 3) := by decide +kernel
theorem dX7_makes_73 : decode cX7_makes 73 = .ok (.aload_n 0, 1) := by decide +kernel
theorem dX7_makes_74 : decode cX7_makes 74 = .ok (.invokevirtual 250, 3) := by decide +kernel
theorem dX7_makes_77 : decode cX7_makes 77 = .ok (.istore 4, 2) := by decide +kernel
theorem dX7_makes_79 : decode cX7_makes 79 = .ok (.goto 226, 3) := by decide +kernel
theorem dX7_makes_82 : decode cX7_makes 82 = .ok (.aload_n 0, 1) := by decide +kernel
theorem dX7_makes_83 : decode cX7_makes 83 = .ok (.getfield 44, 3) := by decide +kernel
theorem dX7_makes_86 : decode cX7_makes 86 = .ok (.iload 7, 2) := by decide +kernel
theorem dX7_makes_88 : decode cX7_makes 88 = .ok (.iaload, 1) := by decide +kernel
theorem dX7_makes_89 : decode cX7_makes 89 = .ok (.iconst 2, 1) := by decide +kernel
theorem dX7_makes_90 : decode cX7_makes 90 = .ok (.if_icmp .ne 46, 3) := by decide +kernel
theorem dX7_makes_93 : decode cX7_makes 93 = .ok (.aload_n 0, 1) := by decide +kernel
theorem dX7_makes_94 : decode cX7_makes 94 = .ok (.aload_n 0, 1) := by decide +kernel
theorem dX7_makes_95 : decode cX7_makes 95 = .ok (.getfield 50, 3) := by decide +kernel
theorem dX7_makes_98 : decode cX7_makes 98 = .ok (.iload 7, 2) := by decide +kernel
theorem dX7_makes_100 : decode cX7_makes 100 = .ok (.iaload, 1) := by decide +kernel
theorem dX7_makes_101 : decode cX7_makes 101 = .ok (.iload 6, 2) := by decide +kernel
theorem dX7_makes_103 : decode cX7_makes 103 = .ok (.iconst (-1), 1) := by decide +kernel
theorem dX7_makes_104 : decode cX7_makes 104 = .ok (.if_icmp .ne 7, 3) := by decide +kernel
theorem dX7_makes_107 : decode cX7_makes 107 = .ok (.iconst (-1), 1) := by decide +kernel
theorem dX7_makes_108 : decode cX7_makes 108 = .ok (.goto 22, 3) := by decide +kernel
theorem dX7_makes_111 : decode cX7_makes 111 = .ok (.aload_n 0, 1) := by decide +kernel
theorem dX7_makes_112 : decode cX7_makes 112 = .ok (.getfield 32, 3) := by decide +kernel
theorem dX7_makes_115 : decode cX7_makes 115 = .ok (.aload_n 0, 1) := by decide +kernel
theorem dX7_makes_116 : decode cX7_makes 116 = .ok (.iload 6, 2) := by decide +kernel
theorem dX7_makes_118 : decode cX7_makes 118 = .ok (.iconst 2, 1) := by decide +kernel
theorem dX7_makes_119 : decode cX7_makes 119 = .ok (.aload_n 0, 1) := by decide +kernel
theorem dX7_makes_120 : decode cX7_makes 120 = .ok (.getfield 47, 3) := by decide +kernel
theorem dX7_makes_123 : decode cX7_makes 123 = .ok (.iload 7, 2) := by decide +kernel
theorem dX7_makes_125 : decode cX7_makes 125 = .ok (.iaload, 1) := by decide +kernel
theorem dX7_makes_126 : decode cX7_makes 126 = .ok (.invokevirtual 181, 3) := by decide +kernel
theorem dX7_makes_129 : decode cX7_makes 129 = .ok (.iaload, 1) := by decide +kernel
theorem dX7_makes_130 : decode cX7_makes 130 = .ok (.invokevirtual 246, 3) := by decide +kernel
theorem dX7_makes_133 : decode cX7_makes 133 = .ok (.goto 172, 3) := by decide +kernel
theorem dX7_makes_136 : decode cX7_makes 136 = .ok (.aload_n 0, 1) := by decide +kernel
theorem dX7_makes_137 : decode cX7_makes 137 = .ok (.getfield 44, 3) := by decide +kernel
theorem dX7_makes_140 : decode cX7_makes 140 = .ok (.iload 7, 2) := by decide +kernel
theorem dX7_makes_142 : decode cX7_makes 142 = .ok (.iaload, 1) := by decide +kernel
theorem dX7_makes_143 : decode cX7_makes 143 = .ok (.ifCond .ne 71, 3) := by decide +kernel
theorem dX7_makes_146 : decode cX7_makes 146 = .ok (.aload_n 0, 1) := by decide +kernel
theorem dX7_makes_147 : decode cX7_makes 147 = .ok (.iload_n 1, 1) := by decide +kernel
theorem dX7_makes_148 : decode cX7_makes 148 = .ok (.iload 6, 2) := by decide +kernel
theorem dX7_makes_150 : decode cX7_makes 150 = .ok (.iload 7, 2) := by decide +kernel
theorem dX7_makes_152 : decode cX7_makes 152 = .ok (.invokevirtual 254, 3) := by decide +kernel
theorem dX7_makes_155 : decode cX7_makes 155 = .ok (.istore 8, 2) := by decide +kernel
theorem dX7_makes_157 : decode cX7_makes 157 = .ok (.aload_n 0, 1) := by decide +kernel
theorem dX7_makes_158 : decode cX7_makes 158 = .ok (.getfield 132, 3) := by decide +kernel
theorem dX7_makes_161 : decode cX7_makes 161 = .ok (.bipush 10, 2) := by decide +kernel
theorem dX7_makes_163 : decode cX7_makes 163 = .ok (.aload_n 0, 1) := by decide +kernel
theorem dX7_makes_164 : decode cX7_makes 164 = .ok (.getfield 236, 3) := by decide +kernel
theorem dX7_makes_167 : decode cX7_makes 167 = .ok (.iconst 1, 1) := by decide +kernel
theorem dX7_makes_168 : decode cX7_makes 168 = .ok (.isub, 1) := by decide +kernel
theorem dX7_makes_169 : decode cX7_makes 169 = .ok (.imul, 1) := by decide +kernel
theorem dX7_makes_170 : decode cX7_makes 170 = .ok (.aload_n 0, 1) := by decide +kernel
theorem dX7_makes_171 : decode cX7_makes 171 = .ok (.getfield 47, 3) := by decide +kernel
theorem dX7_makes_174 : decode cX7_makes 174 = .ok (.iload 7, 2) := by decide +kernel
theorem dX7_makes_176 : decode cX7_makes 176 = .ok (.iaload, 1) := by decide +kernel
theorem dX7_makes_177 : decode cX7_makes 177 = .ok (.iadd, 1) := by decide +kernel
theorem dX7_makes_178 : decode cX7_makes 178 = .ok (.iload 8, 2) := by decide +kernel
theorem dX7_makes_180 : decode cX7_makes 180 = .ok (.iastore, 1) := by decide +kernel
theorem dX7_makes_181 : decode cX7_makes 181 = .ok (.aload_n 0, 1) := by decide +kernel
theorem dX7_makes_182 : decode cX7_makes 182 = .ok (.iconst 0, 1) := by decide +kernel
theorem dX7_makes_183 : decode cX7_makes 183 = .ok (.aload_n 0, 1) := by decide +kernel
theorem dX7_makes_184 : decode cX7_makes 184 = .ok (.getfield 47, 3) := by decide +kernel
theorem dX7_makes_187 : decode cX7_makes 187 = .ok (.iload 7, 2) := by decide +kernel
theorem dX7_makes_189 : decode cX7_makes 189 = .ok (.iaload, 1) := by decide +kernel
theorem dX7_makes_190 : decode cX7_makes 190 = .ok (.iload 8, 2) := by decide +kernel
theorem dX7_makes_192 : decode cX7_makes 192 = .ok (.iconst 0, 1) := by decide +kernel
theorem dX7_makes_193 : decode cX7_makes 193 = .ok (.invokevirtual 242, 3) := by decide +kernel
theorem dX7_makes_196 : decode cX7_makes 196 = .ok (.aload_n 0, 1) := by decide +kernel
theorem dX7_makes_197 : decode cX7_makes 197 = .ok (.getfield 126, 3) := by decide +kernel
theorem dX7_makes_200 : decode cX7_makes 200 = .ok (.aload_n 0, 1) := by decide +kernel
theorem dX7_makes_201 : decode cX7_makes 201 = .ok (.getfield 236, 3) := by decide +kernel
theorem dX7_makes_204 : decode cX7_makes 204 = .ok (.iconst 1, 1) := by decide +kernel
theorem dX7_makes_205 : decode cX7_makes 205 = .ok (.isub, 1) := by decide +kernel
theorem dX7_makes_206 : decode cX7_makes 206 = .ok (.dup2, 1) := by decide +kernel
theorem dX7_makes_207 : decode cX7_makes 207 = .ok (.iaload, 1) := by decide +kernel
theorem dX7_makes_208 : decode cX7_makes 208 = .ok (.iconst 1, 1) := by decide +kernel
theorem dX7_makes_209 : decode cX7_makes 209 = .ok (.iadd, 1) := by decide +kernel
theorem dX7_makes_210 : decode cX7_makes 210 = .ok (.iastore, 1) := by decide +kernel
theorem dX7_makes_211 : decode cX7_makes 211 = .ok (.goto 94, 3) := by decide +kernel
theorem dX7_makes_214 : decode cX7_makes 214 = .ok (.aload_n 0, 1) := by decide +kernel
theorem dX7_makes_215 : decode cX7_makes 215 = .ok (.aload_n 0, 1) := by decide +kernel
theorem dX7_makes_216 : decode cX7_makes 216 = .ok (.getfield 50, 3) := by decide +kernel
theorem dX7_makes_219 : decode cX7_makes 219 = .ok (.iload 7, 2) := by decide +kernel
theorem dX7_makes_221 : decode cX7_makes 221 = .ok (.iaload, 1) := by decide +kernel
theorem dX7_makes_222 : decode cX7_makes 222 = .ok (.invokevirtual 239, 3) := by decide +kernel
theorem dX7_makes_225 : decode cX7_makes 225 = .ok (.istore 8, 2) := by decide +kernel
theorem dX7_makes_227 : decode cX7_makes 227 = .ok (.aload_n 0, 1) := by decide +kernel
theorem dX7_makes_228 : decode cX7_makes 228 = .ok (.getfield 53, 3) := by decide +kernel
theorem dX7_makes_231 : decode cX7_makes 231 = .ok (.iload 7, 2) := by decide +kernel
theorem dX7_makes_233 : decode cX7_makes 233 = .ok (.iaload, 1) := by decide +kernel
theorem dX7_makes_234 : decode cX7_makes 234 = .ok (.bipush (-100), 2) := by decide +kernel
theorem dX7_makes_236 : decode cX7_makes 236 = .ok (.if_icmp .ne 8, 3) := by decide +kernel
theorem dX7_makes_239 : decode cX7_makes 239 = .ok (.iload 8, 2) := by decide +kernel
theorem dX7_makes_241 : decode cX7_makes 241 = .ok (.goto 20, 3) := by decide +kernel
theorem dX7_makes_244 : decode cX7_makes 244 = .ok (.aload_n 0, 1) := by decide +kernel
theorem dX7_makes_245 : decode cX7_makes 245 = .ok (.iload 8, 2) := by decide +kernel
theorem dX7_makes_247 : decode cX7_makes 247 = .ok (.aload_n 0, 1) := by decide +kernel
theorem dX7_makes_248 : decode cX7_makes 248 = .ok (.aload_n 0, 1) := by decide +kernel
theorem dX7_makes_249 : decode cX7_makes 249 = .ok (.getfield 53, 3) := by decide +kernel
theorem dX7_makes_252 : decode cX7_makes 252 = .ok (.iload 7, 2) := by decide +kernel
theorem dX7_makes_254 : decode cX7_makes 254 = .ok (.iaload, 1) := by decide +kernel
theorem dX7_makes_255 : decode cX7_makes 255 = .ok (.invokevirtual 239, 3) := by decide +kernel
theorem dX7_makes_258 : decode cX7_makes 258 = .ok (.invokevirtual 178, 3) := by decide +kernel
theorem dX7_makes_261 : decode cX7_makes 261 = .ok (.istore 8, 2) := by decide +kernel
theorem dX7_makes_263 : decode cX7_makes 263 = .ok (.aload_n 0, 1) := by decide +kernel
theorem dX7_makes_264 : decode cX7_makes 264 = .ok (.iconst 1, 1) := by decide +kernel
theorem dX7_makes_265 : decode cX7_makes 265 = .ok (.aload_n 0, 1) := by decide +kernel
theorem dX7_makes_266 : decode cX7_makes 266 = .ok (.getfield 47, 3) := by decide +kernel
theorem dX7_makes_269 : decode cX7_makes 269 = .ok (.iload 7, 2) := by decide +kernel
theorem dX7_makes_271 : decode cX7_makes 271 = .ok (.iaload, 1) := by decide +kernel
theorem dX7_makes_272 : decode cX7_makes 272 = .ok (.iload 8, 2) := by decide +kernel
theorem dX7_makes_274 : decode cX7_makes 274 = .ok (.aload_n 0, 1) := by decide +kernel
theorem dX7_makes_275 : decode cX7_makes 275 = .ok (.iload 6, 2) := by decide +kernel
theorem dX7_makes_277 : decode cX7_makes 277 = .ok (.aload_n 0, 1) := by decide +kernel
theorem dX7_makes_278 : decode cX7_makes 278 = .ok (.getfield 47, 3) := by decide +kernel
theorem dX7_makes_281 : decode cX7_makes 281 = .ok (.iload 7, 2) := by decide +kernel
theorem dX7_makes_283 : decode cX7_makes 283 = .ok (.iaload, 1) := by decide +kernel
theorem dX7_makes_284 : decode cX7_makes 284 = .ok (.invokevirtual 257, 3) := by decide +kernel
theorem dX7_makes_287 : decode cX7_makes 287 = .ok (.invokevirtual 242, 3) := by decide +kernel
theorem dX7_makes_290 : decode cX7_makes 290 = .ok (.aload_n 0, 1) := by decide +kernel
theorem dX7_makes_291 : decode cX7_makes 291 = .ok (.getfield 126, 3) := by decide +kernel
theorem dX7_makes_294 : decode cX7_makes 294 = .ok (.aload_n 0, 1) := by decide +kernel
theorem dX7_makes_295 : decode cX7_makes 295 = .ok (.getfield 236, 3) := by decide +kernel
theorem dX7_makes_298 : decode cX7_makes 298 = .ok (.iconst 1, 1) := by decide +kernel
theorem dX7_makes_299 : decode cX7_makes 299 = .ok (.isub, 1) := by decide +kernel
theorem dX7_makes_300 : decode cX7_makes 300 = .ok (.dup2, 1) := by decide +kernel
theorem dX7_makes_301 : decode cX7_makes 301 = .ok (.iaload, 1) := by decide +kernel
theorem dX7_makes_302 : decode cX7_makes 302 = .ok (.iconst 1, 1) := by decide +kernel
theorem dX7_makes_303 : decode cX7_makes 303 = .ok (.iadd, 1) := by decide +kernel
theorem dX7_makes_304 : decode cX7_makes 304 = .ok (.iastore, 1) := by decide +kernel
theorem dX7_makes_305 : decode cX7_makes 305 = .ok (.goto (-296), 3) := by decide +kernel
theorem dX7_makes_308 : decode cX7_makes 308 = .ok (.iload 4, 2) := by decide +kernel
theorem dX7_makes_310 : decode cX7_makes 310 = .ok (.ireturn, 1) := by decide +kernel
theorem dX7_fits_0 : decode cX7_fits 0 = .ok (.aload_n 0, 1) := by decide +kernel
theorem dX7_fits_1 : decode cX7_fits 1 = .ok (.getfield 7, 3) := by decide +kernel
theorem dX7_fits_4 : decode cX7_fits 4 = .ok (.sipush 200, 3) := by decide +kernel
theorem dX7_fits_7 : decode cX7_fits 7 = .ok (.if_icmp .gt 16, 3) := by decide +kernel
theorem dX7_fits_10 : decode cX7_fits 10 = .ok (.aload_n 0, 1) := by decide +kernel
theorem dX7_fits_11 : decode cX7_fits 11 = .ok (.getfield 198, 3) := by decide +kernel
theorem dX7_fits_14 : decode cX7_fits 14 = .ok (.bipush 30, 2) := by decide +kernel
theorem dX7_fits_16 : decode cX7_fits 16 = .ok (.if_icmp .gt 7, 3) := by decide +kernel
theorem dX7_fits_19 : decode cX7_fits 19 = .ok (.iconst 1, 1) := by decide +kernel
theorem dX7_fits_20 : decode cX7_fits 20 = .ok (.goto 4, 3) := by decide +kernel
theorem dX7_fits_23 : decode cX7_fits 23 = .ok (.iconst 0, 1) := by decide +kernel
theorem dX7_fits_24 : decode cX7_fits 24 = .ok (.istore_n 3, 1) := by decide +kernel
theorem dX7_fits_25 : decode cX7_fits 25 = .ok (.aload_n 0, 1) := by decide +kernel
theorem dX7_fits_26 : decode cX7_fits 26 = .ok (.iload_n 3, 1) := by decide +kernel
theorem dX7_fits_27 : decode cX7_fits 27 = .ok (.ifCond .eq 10, 3) := by decide +kernel
theorem dX7_fits_30 : decode cX7_fits 30 = .ok (.aload_n 0, 1) := by decide +kernel
theorem dX7_fits_31 : decode cX7_fits 31 = .ok (.getfield 7, 3) := by decide +kernel
theorem dX7_fits_34 : decode cX7_fits 34 = .ok (.goto 4, 3) := by decide +kernel
theorem dX7_fits_37 : decode cX7_fits 37 = .ok (.iload_n 1, 1) := by decide +kernel
theorem dX7_fits_38 : decode cX7_fits 38 = .ok (.putfield 7, 3) := by decide +kernel
theorem dX7_fits_41 : decode cX7_fits 41 = .ok (.aload_n 0, 1) := by decide +kernel
theorem dX7_fits_42 : decode cX7_fits 42 = .ok (.iload_n 3, 1) := by decide +kernel
theorem dX7_fits_43 : decode cX7_fits 43 = .ok (.ifCond .eq 10, 3) := by decide +kernel
theorem dX7_fits_46 : decode cX7_fits 46 = .ok (.aload_n 0, 1) := by decide +kernel
theorem dX7_fits_47 : decode cX7_fits 47 = .ok (.getfield 198, 3) := by decide +kernel
theorem dX7_fits_50 : decode cX7_fits 50 = .ok (.goto 4, 3) := by decide +kernel
theorem dX7_fits_53 : decode cX7_fits 53 = .ok (.iload_n 2, 1) := by decide +kernel
theorem dX7_fits_54 : decode cX7_fits 54 = .ok (.putfield 198, 3) := by decide +kernel
theorem dX7_fits_57 : decode cX7_fits 57 = .ok (.iload_n 3, 1) := by decide +kernel
theorem dX7_fits_58 : decode cX7_fits 58 = .ok (.ireturn, 1) := by decide +kernel
theorem dX7_seals_0 : decode cX7_seals 0 = .ok (.aload_n 0, 1) := by decide +kernel
theorem dX7_seals_1 : decode cX7_seals 1 = .ok (.iload_n 2, 1) := by decide +kernel
theorem dX7_seals_2 : decode cX7_seals 2 = .ok (.invokevirtual 201, 3) := by decide +kernel
theorem dX7_seals_5 : decode cX7_seals 5 = .ok (.ifCond .eq 15, 3) := by decide +kernel
theorem dX7_seals_8 : decode cX7_seals 8 = .ok (.aload_n 0, 1) := by decide +kernel
theorem dX7_seals_9 : decode cX7_seals 9 = .ok (.iload_n 3, 1) := by decide +kernel
theorem dX7_seals_10 : decode cX7_seals 10 = .ok (.invokevirtual 217, 3) := by decide +kernel
theorem dX7_seals_13 : decode cX7_seals 13 = .ok (.ifCond .eq 7, 3) := by decide +kernel
theorem dX7_seals_16 : decode cX7_seals 16 = .ok (.iconst 1, 1) := by decide +kernel
theorem dX7_seals_17 : decode cX7_seals 17 = .ok (.goto 4, 3) := by decide +kernel
theorem dX7_seals_20 : decode cX7_seals 20 = .ok (.iconst 0, 1) := by decide +kernel
theorem dX7_seals_21 : decode cX7_seals 21 = .ok (.istore 4, 2) := by decide +kernel
theorem dX7_seals_23 : decode cX7_seals 23 = .ok (.aload_n 0, 1) := by decide +kernel
theorem dX7_seals_24 : decode cX7_seals 24 = .ok (.getfield 7, 3) := by decide +kernel
theorem dX7_seals_27 : decode cX7_seals 27 = .ok (.istore 5, 2) := by decide +kernel
theorem dX7_seals_29 : decode cX7_seals 29 = .ok (.aload_n 0, 1) := by decide +kernel
theorem dX7_seals_30 : decode cX7_seals 30 = .ok (.getfield 198, 3) := by decide +kernel
theorem dX7_seals_33 : decode cX7_seals 33 = .ok (.istore 6, 2) := by decide +kernel
theorem dX7_seals_35 : decode cX7_seals 35 = .ok (.iload 4, 2) := by decide +kernel
theorem dX7_seals_37 : decode cX7_seals 37 = .ok (.ifCond .eq 16, 3) := by decide +kernel
theorem dX7_seals_40 : decode cX7_seals 40 = .ok (.aload_n 0, 1) := by decide +kernel
theorem dX7_seals_41 : decode cX7_seals 41 = .ok (.iload_n 2, 1) := by decide +kernel
theorem dX7_seals_42 : decode cX7_seals 42 = .ok (.iload_n 3, 1) := by decide +kernel
theorem dX7_seals_43 : decode cX7_seals 43 = .ok (.invokevirtual 233, 3) := by decide +kernel
theorem dX7_seals_46 : decode cX7_seals 46 = .ok (.ifCond .ne 7, 3) := by decide +kernel
theorem dX7_seals_49 : decode cX7_seals 49 = .ok (.iconst 1, 1) := by decide +kernel
theorem dX7_seals_50 : decode cX7_seals 50 = .ok (.goto 4, 3) := by decide +kernel
theorem dX7_seals_53 : decode cX7_seals 53 = .ok (.iconst 0, 1) := by decide +kernel
theorem dX7_seals_54 : decode cX7_seals 54 = .ok (.istore 7, 2) := by decide +kernel
theorem dX7_seals_56 : decode cX7_seals 56 = .ok (.iload 7, 2) := by decide +kernel
theorem dX7_seals_58 : decode cX7_seals 58 = .ok (.ifCond .eq 13, 3) := by decide +kernel
theorem dX7_seals_61 : decode cX7_seals 61 = .ok (.aload_n 0, 1) := by decide +kernel
theorem dX7_seals_62 : decode cX7_seals 62 = .ok (.iload_n 1, 1) := by decide +kernel
theorem dX7_seals_63 : decode cX7_seals 63 = .ok (.iload_n 2, 1) := by decide +kernel
theorem dX7_seals_64 : decode cX7_seals 64 = .ok (.iload_n 3, 1) := by decide +kernel
theorem dX7_seals_65 : decode cX7_seals 65 = .ok (.invokevirtual 260, 3) := by decide +kernel
theorem dX7_seals_68 : decode cX7_seals 68 = .ok (.goto 4, 3) := by decide +kernel
theorem dX7_seals_71 : decode cX7_seals 71 = .ok (.iconst (-1), 1) := by decide +kernel
theorem dX7_seals_72 : decode cX7_seals 72 = .ok (.istore 8, 2) := by decide +kernel
theorem dX7_seals_74 : decode cX7_seals 74 = .ok (.iload 7, 2) := by decide +kernel
theorem dX7_seals_76 : decode cX7_seals 76 = .ok (.ifCond .eq 18, 3) := by decide +kernel
theorem dX7_seals_79 : decode cX7_seals 79 = .ok (.aload_n 0, 1) := by decide +kernel
theorem dX7_seals_80 : decode cX7_seals 80 = .ok (.iload 5, 2) := by decide +kernel
theorem dX7_seals_82 : decode cX7_seals 82 = .ok (.iload 6, 2) := by decide +kernel
theorem dX7_seals_84 : decode cX7_seals 84 = .ok (.invokevirtual 263, 3) := by decide +kernel
theorem dX7_seals_87 : decode cX7_seals 87 = .ok (.ifCond .eq 7, 3) := by decide +kernel
theorem dX7_seals_90 : decode cX7_seals 90 = .ok (.iconst 1, 1) := by decide +kernel
theorem dX7_seals_91 : decode cX7_seals 91 = .ok (.goto 4, 3) := by decide +kernel
theorem dX7_seals_94 : decode cX7_seals 94 = .ok (.iconst 0, 1) := by decide +kernel
theorem dX7_seals_95 : decode cX7_seals 95 = .ok (.istore 7, 2) := by decide +kernel
theorem dX7_seals_97 : decode cX7_seals 97 = .ok (.aload_n 0, 1) := by decide +kernel
theorem dX7_seals_98 : decode cX7_seals 98 = .ok (.iload 4, 2) := by decide +kernel
theorem dX7_seals_100 : decode cX7_seals 100 = .ok (.ifCond .ne 7, 3) := by decide +kernel
theorem dX7_seals_103 : decode cX7_seals 103 = .ok (.iconst 1, 1) := by decide +kernel
theorem dX7_seals_104 : decode cX7_seals 104 = .ok (.goto 13, 3) := by decide +kernel
theorem dX7_seals_107 : decode cX7_seals 107 = .ok (.iload 7, 2) := by decide +kernel
theorem dX7_seals_109 : decode cX7_seals 109 = .ok (.ifCond .eq 7, 3) := by decide +kernel
theorem dX7_seals_112 : decode cX7_seals 112 = .ok (.iconst 0, 1) := by decide +kernel
theorem dX7_seals_113 : decode cX7_seals 113 = .ok (.goto 4, 3) := by decide +kernel
theorem dX7_seals_116 : decode cX7_seals 116 = .ok (.iconst 2, 1) := by decide +kernel
theorem dX7_seals_117 : decode cX7_seals 117 = .ok (.invokevirtual 175, 3) := by decide +kernel
theorem dX7_seals_120 : decode cX7_seals 120 = .ok (.ifCond .eq 7, 3) := by decide +kernel
theorem dX7_seals_123 : decode cX7_seals 123 = .ok (.iconst 0, 1) := by decide +kernel
theorem dX7_seals_124 : decode cX7_seals 124 = .ok (.goto 5, 3) := by decide +kernel
theorem dX7_seals_127 : decode cX7_seals 127 = .ok (.iload 8, 2) := by decide +kernel
theorem dX7_seals_129 : decode cX7_seals 129 = .ok (.ireturn, 1) := by decide +kernel
theorem dX7_seal_0 : decode cX7_seal 0 = .ok (.aload_n 0, 1) := by decide +kernel
theorem dX7_seal_1 : decode cX7_seal 1 = .ok (.iconst 0, 1) := by decide +kernel
theorem dX7_seal_2 : decode cX7_seal 2 = .ok (.iload_n 1, 1) := by decide +kernel
theorem dX7_seal_3 : decode cX7_seal 3 = .ok (.iload_n 2, 1) := by decide +kernel
theorem dX7_seal_4 : decode cX7_seal 4 = .ok (.invokevirtual 267, 3) := by decide +kernel
theorem dX7_seal_7 : decode cX7_seal 7 = .ok (.ireturn, 1) := by decide +kernel
theorem dX7_view_0 : decode cX7_view 0 = .ok (.aload_n 0, 1) := by decide +kernel
theorem dX7_view_1 : decode cX7_view 1 = .ok (.iconst 1, 1) := by decide +kernel
theorem dX7_view_2 : decode cX7_view 2 = .ok (.iload_n 1, 1) := by decide +kernel
theorem dX7_view_3 : decode cX7_view 3 = .ok (.iload_n 2, 1) := by decide +kernel
theorem dX7_view_4 : decode cX7_view 4 = .ok (.invokevirtual 267, 3) := by decide +kernel
theorem dX7_view_7 : decode cX7_view 7 = .ok (.ireturn, 1) := by decide +kernel
theorem dX7_finer_0 : decode cX7_finer 0 = .ok (.aload_n 0, 1) := by decide +kernel
theorem dX7_finer_1 : decode cX7_finer 1 = .ok (.aload_n 0, 1) := by decide +kernel
theorem dX7_finer_2 : decode cX7_finer 2 = .ok (.iload_n 1, 1) := by decide +kernel
theorem dX7_finer_3 : decode cX7_finer 3 = .ok (.invokevirtual 217, 3) := by decide +kernel
theorem dX7_finer_6 : decode cX7_finer 6 = .ok (.ifCond .eq 15, 3) := by decide +kernel
theorem dX7_finer_9 : decode cX7_finer 9 = .ok (.aload_n 0, 1) := by decide +kernel
theorem dX7_finer_10 : decode cX7_finer 10 = .ok (.iload_n 2, 1) := by decide +kernel
theorem dX7_finer_11 : decode cX7_finer 11 = .ok (.invokevirtual 217, 3) := by decide +kernel
theorem dX7_finer_14 : decode cX7_finer 14 = .ok (.ifCond .eq 7, 3) := by decide +kernel
theorem dX7_finer_17 : decode cX7_finer 17 = .ok (.iconst 0, 1) := by decide +kernel
theorem dX7_finer_18 : decode cX7_finer 18 = .ok (.goto 4, 3) := by decide +kernel
theorem dX7_finer_21 : decode cX7_finer 21 = .ok (.iconst 1, 1) := by decide +kernel
theorem dX7_finer_22 : decode cX7_finer 22 = .ok (.invokevirtual 175, 3) := by decide +kernel
theorem dX7_finer_25 : decode cX7_finer 25 = .ok (.ifCond .eq 5, 3) := by decide +kernel
theorem dX7_finer_28 : decode cX7_finer 28 = .ok (.iconst 0, 1) := by decide +kernel
theorem dX7_finer_29 : decode cX7_finer 29 = .ok (.ireturn, 1) := by decide +kernel
theorem dX7_finer_30 : decode cX7_finer 30 = .ok (.aload_n 0, 1) := by decide +kernel
theorem dX7_finer_31 : decode cX7_finer 31 = .ok (.getfield 7, 3) := by decide +kernel
theorem dX7_finer_34 : decode cX7_finer 34 = .ok (.istore_n 3, 1) := by decide +kernel
theorem dX7_finer_35 : decode cX7_finer 35 = .ok (.aload_n 0, 1) := by decide +kernel
theorem dX7_finer_36 : decode cX7_finer 36 = .ok (.getfield 198, 3) := by decide +kernel
theorem dX7_finer_39 : decode cX7_finer 39 = .ok (.istore 4, 2) := by decide +kernel
theorem dX7_finer_41 : decode cX7_finer 41 = .ok (.aload_n 0, 1) := by decide +kernel
theorem dX7_finer_42 : decode cX7_finer 42 = .ok (.iconst 2, 1) := by decide +kernel
theorem dX7_finer_43 : decode cX7_finer 43 = .ok (.iconst (-1), 1) := by decide +kernel
theorem dX7_finer_44 : decode cX7_finer 44 = .ok (.iload_n 1, 1) := by decide +kernel
theorem dX7_finer_45 : decode cX7_finer 45 = .ok (.invokevirtual 260, 3) := by decide +kernel
theorem dX7_finer_48 : decode cX7_finer 48 = .ok (.istore 5, 2) := by decide +kernel
theorem dX7_finer_50 : decode cX7_finer 50 = .ok (.aload_n 0, 1) := by decide +kernel
theorem dX7_finer_51 : decode cX7_finer 51 = .ok (.iload 5, 2) := by decide +kernel
theorem dX7_finer_53 : decode cX7_finer 53 = .ok (.iload_n 2, 1) := by decide +kernel
theorem dX7_finer_54 : decode cX7_finer 54 = .ok (.invokevirtual 233, 3) := by decide +kernel
theorem dX7_finer_57 : decode cX7_finer 57 = .ok (.ifCond .ne 7, 3) := by decide +kernel
theorem dX7_finer_60 : decode cX7_finer 60 = .ok (.iconst 1, 1) := by decide +kernel
theorem dX7_finer_61 : decode cX7_finer 61 = .ok (.goto 4, 3) := by decide +kernel
theorem dX7_finer_64 : decode cX7_finer 64 = .ok (.iconst 0, 1) := by decide +kernel
theorem dX7_finer_65 : decode cX7_finer 65 = .ok (.istore 6, 2) := by decide +kernel
theorem dX7_finer_67 : decode cX7_finer 67 = .ok (.aload_n 0, 1) := by decide +kernel
theorem dX7_finer_68 : decode cX7_finer 68 = .ok (.iload_n 3, 1) := by decide +kernel
theorem dX7_finer_69 : decode cX7_finer 69 = .ok (.putfield 7, 3) := by decide +kernel
theorem dX7_finer_72 : decode cX7_finer 72 = .ok (.aload_n 0, 1) := by decide +kernel
theorem dX7_finer_73 : decode cX7_finer 73 = .ok (.iload 4, 2) := by decide +kernel
theorem dX7_finer_75 : decode cX7_finer 75 = .ok (.putfield 198, 3) := by decide +kernel
theorem dX7_finer_78 : decode cX7_finer 78 = .ok (.iload 6, 2) := by decide +kernel
theorem dX7_finer_80 : decode cX7_finer 80 = .ok (.ireturn, 1) := by decide +kernel
theorem dX7_compares_0 : decode cX7_compares 0 = .ok (.iconst 0, 1) := by decide +kernel
theorem dX7_compares_1 : decode cX7_compares 1 = .ok (.istore_n 1, 1) := by decide +kernel
theorem dX7_compares_2 : decode cX7_compares 2 = .ok (.iload_n 1, 1) := by decide +kernel
theorem dX7_compares_3 : decode cX7_compares 3 = .ok (.aload_n 0, 1) := by decide +kernel
theorem dX7_compares_4 : decode cX7_compares 4 = .ok (.getfield 204, 3) := by decide +kernel
theorem dX7_compares_7 : decode cX7_compares 7 = .ok (.if_icmp .ge 238, 3) := by decide +kernel
theorem dX7_compares_10 : decode cX7_compares 10 = .ok (.iconst 0, 1) := by decide +kernel
theorem dX7_compares_11 : decode cX7_compares 11 = .ok (.istore_n 2, 1) := by decide +kernel
theorem dX7_compares_12 : decode cX7_compares 12 = .ok (.iload_n 2, 1) := by decide +kernel
theorem dX7_compares_13 : decode cX7_compares 13 = .ok (.aload_n 0, 1) := by decide +kernel
theorem dX7_compares_14 : decode cX7_compares 14 = .ok (.getfield 204, 3) := by decide +kernel
theorem dX7_compares_17 : decode cX7_compares 17 = .ok (.if_icmp .ge 222, 3) := by decide +kernel
theorem dX7_compares_20 : decode cX7_compares 20 = .ok (.aload_n 0, 1) := by decide +kernel
theorem dX7_compares_21 : decode cX7_compares 21 = .ok (.getfield 38, 3) := by decide +kernel
theorem dX7_compares_24 : decode cX7_compares 24 = .ok (.iload_n 1, 1) := by decide +kernel
theorem dX7_compares_25 : decode cX7_compares 25 = .ok (.iaload, 1) := by decide +kernel
theorem dX7_compares_26 : decode cX7_compares 26 = .ok (.aload_n 0, 1) := by decide +kernel
theorem dX7_compares_27 : decode cX7_compares 27 = .ok (.getfield 38, 3) := by decide +kernel
theorem dX7_compares_30 : decode cX7_compares 30 = .ok (.iload_n 2, 1) := by decide +kernel
theorem dX7_compares_31 : decode cX7_compares 31 = .ok (.iaload, 1) := by decide +kernel
theorem dX7_compares_32 : decode cX7_compares 32 = .ok (.if_icmp .ne 7, 3) := by decide +kernel
theorem dX7_compares_35 : decode cX7_compares 35 = .ok (.iconst 1, 1) := by decide +kernel
theorem dX7_compares_36 : decode cX7_compares 36 = .ok (.goto 4, 3) := by decide +kernel
theorem dX7_compares_39 : decode cX7_compares 39 = .ok (.iconst 0, 1) := by decide +kernel
theorem dX7_compares_40 : decode cX7_compares 40 = .ok (.istore_n 3, 1) := by decide +kernel
theorem dX7_compares_41 : decode cX7_compares 41 = .ok (.iconst 0, 1) := by decide +kernel
theorem dX7_compares_42 : decode cX7_compares 42 = .ok (.istore 4, 2) := by decide +kernel
theorem dX7_compares_44 : decode cX7_compares 44 = .ok (.iload 4, 2) := by decide +kernel
theorem dX7_compares_46 : decode cX7_compares 46 = .ok (.aload_n 0, 1) := by decide +kernel
theorem dX7_compares_47 : decode cX7_compares 47 = .ok (.getfield 38, 3) := by decide +kernel
theorem dX7_compares_50 : decode cX7_compares 50 = .ok (.iload_n 1, 1) := by decide +kernel
theorem dX7_compares_51 : decode cX7_compares 51 = .ok (.iaload, 1) := by decide +kernel
theorem dX7_compares_52 : decode cX7_compares 52 = .ok (.if_icmp .ge 169, 3) := by decide +kernel
theorem dX7_compares_55 : decode cX7_compares 55 = .ok (.iload_n 3, 1) := by decide +kernel
theorem dX7_compares_56 : decode cX7_compares 56 = .ok (.ifCond .eq 165, 3) := by decide +kernel
theorem dX7_compares_59 : decode cX7_compares 59 = .ok (.bipush 60, 2) := by decide +kernel
theorem dX7_compares_61 : decode cX7_compares 61 = .ok (.iload_n 1, 1) := by decide +kernel
theorem dX7_compares_62 : decode cX7_compares 62 = .ok (.imul, 1) := by decide +kernel
theorem dX7_compares_63 : decode cX7_compares 63 = .ok (.iload 4, 2) := by decide +kernel
theorem dX7_compares_65 : decode cX7_compares 65 = .ok (.iadd, 1) := by decide +kernel
theorem dX7_compares_66 : decode cX7_compares 66 = .ok (.istore 5, 2) := by decide +kernel
theorem dX7_compares_68 : decode cX7_compares 68 = .ok (.bipush 60, 2) := by decide +kernel
theorem dX7_compares_70 : decode cX7_compares 70 = .ok (.iload_n 2, 1) := by decide +kernel
theorem dX7_compares_71 : decode cX7_compares 71 = .ok (.imul, 1) := by decide +kernel
theorem dX7_compares_72 : decode cX7_compares 72 = .ok (.iload 4, 2) := by decide +kernel
theorem dX7_compares_74 : decode cX7_compares 74 = .ok (.iadd, 1) := by decide +kernel
theorem dX7_compares_75 : decode cX7_compares 75 = .ok (.istore 6, 2) := by decide +kernel
theorem dX7_compares_77 : decode cX7_compares 77 = .ok (.aload_n 0, 1) := by decide +kernel
theorem dX7_compares_78 : decode cX7_compares 78 = .ok (.getfield 44, 3) := by decide +kernel
theorem dX7_compares_81 : decode cX7_compares 81 = .ok (.iload 5, 2) := by decide +kernel
theorem dX7_compares_83 : decode cX7_compares 83 = .ok (.iaload, 1) := by decide +kernel
theorem dX7_compares_84 : decode cX7_compares 84 = .ok (.iconst 2, 1) := by decide +kernel
theorem dX7_compares_85 : decode cX7_compares 85 = .ok (.if_icmp .ne 44, 3) := by decide +kernel
theorem dX7_compares_88 : decode cX7_compares 88 = .ok (.aload_n 0, 1) := by decide +kernel
theorem dX7_compares_89 : decode cX7_compares 89 = .ok (.getfield 153, 3) := by decide +kernel
theorem dX7_compares_92 : decode cX7_compares 92 = .ok (.bipush 20, 2) := by decide +kernel
theorem dX7_compares_94 : decode cX7_compares 94 = .ok (.aload_n 0, 1) := by decide +kernel
theorem dX7_compares_95 : decode cX7_compares 95 = .ok (.getfield 50, 3) := by decide +kernel
theorem dX7_compares_98 : decode cX7_compares 98 = .ok (.iload 5, 2) := by decide +kernel
theorem dX7_compares_100 : decode cX7_compares 100 = .ok (.iaload, 1) := by decide +kernel
theorem dX7_compares_101 : decode cX7_compares 101 = .ok (.imul, 1) := by decide +kernel
theorem dX7_compares_102 : decode cX7_compares 102 = .ok (.aload_n 0, 1) := by decide +kernel
theorem dX7_compares_103 : decode cX7_compares 103 = .ok (.getfield 44, 3) := by decide +kernel
theorem dX7_compares_106 : decode cX7_compares 106 = .ok (.iload 6, 2) := by decide +kernel
theorem dX7_compares_108 : decode cX7_compares 108 = .ok (.iaload, 1) := by decide +kernel
theorem dX7_compares_109 : decode cX7_compares 109 = .ok (.iconst 2, 1) := by decide +kernel
theorem dX7_compares_110 : decode cX7_compares 110 = .ok (.if_icmp .ne 13, 3) := by decide +kernel
theorem dX7_compares_113 : decode cX7_compares 113 = .ok (.aload_n 0, 1) := by decide +kernel
theorem dX7_compares_114 : decode cX7_compares 114 = .ok (.getfield 50, 3) := by decide +kernel
theorem dX7_compares_117 : decode cX7_compares 117 = .ok (.iload 6, 2) := by decide +kernel
theorem dX7_compares_119 : decode cX7_compares 119 = .ok (.iaload, 1) := by decide +kernel
theorem dX7_compares_120 : decode cX7_compares 120 = .ok (.goto 4, 3) := by decide +kernel
theorem dX7_compares_123 : decode cX7_compares 123 = .ok (.iconst 0, 1) := by decide +kernel
theorem dX7_compares_124 : decode cX7_compares 124 = .ok (.iadd, 1) := by decide +kernel
theorem dX7_compares_125 : decode cX7_compares 125 = .ok (.baload, 1) := by decide +kernel
theorem dX7_compares_126 : decode cX7_compares 126 = .ok (.goto 42, 3) := by decide +kernel
theorem dX7_compares_129 : decode cX7_compares 129 = .ok (.aload_n 0, 1) := by decide +kernel
theorem dX7_compares_130 : decode cX7_compares 130 = .ok (.getfield 50, 3) := by decide +kernel
theorem dX7_compares_133 : decode cX7_compares 133 = .ok (.iload 5, 2) := by decide +kernel
theorem dX7_compares_135 : decode cX7_compares 135 = .ok (.iaload, 1) := by decide +kernel
theorem dX7_compares_136 : decode cX7_compares 136 = .ok (.aload_n 0, 1) := by decide +kernel
theorem dX7_compares_137 : decode cX7_compares 137 = .ok (.getfield 50, 3) := by decide +kernel
theorem dX7_compares_140 : decode cX7_compares 140 = .ok (.iload 6, 2) := by decide +kernel
theorem dX7_compares_142 : decode cX7_compares 142 = .ok (.iaload, 1) := by decide +kernel
theorem dX7_compares_143 : decode cX7_compares 143 = .ok (.if_icmp .ne 24, 3) := by decide +kernel
theorem dX7_compares_146 : decode cX7_compares 146 = .ok (.aload_n 0, 1) := by decide +kernel
theorem dX7_compares_147 : decode cX7_compares 147 = .ok (.getfield 53, 3) := by decide +kernel
theorem dX7_compares_150 : decode cX7_compares 150 = .ok (.iload 5, 2) := by decide +kernel
theorem dX7_compares_152 : decode cX7_compares 152 = .ok (.iaload, 1) := by decide +kernel
theorem dX7_compares_153 : decode cX7_compares 153 = .ok (.aload_n 0, 1) := by decide +kernel
theorem dX7_compares_154 : decode cX7_compares 154 = .ok (.getfield 53, 3) := by decide +kernel
theorem dX7_compares_157 : decode cX7_compares 157 = .ok (.iload 6, 2) := by decide +kernel
theorem dX7_compares_159 : decode cX7_compares 159 = .ok (.iaload, 1) := by decide +kernel
theorem dX7_compares_160 : decode cX7_compares 160 = .ok (.if_icmp .ne 7, 3) := by decide +kernel
theorem dX7_compares_163 : decode cX7_compares 163 = .ok (.iconst 1, 1) := by decide +kernel
theorem dX7_compares_164 : decode cX7_compares 164 = .ok (.goto 4, 3) := by decide +kernel
theorem dX7_compares_167 : decode cX7_compares 167 = .ok (.iconst 0, 1) := by decide +kernel
theorem dX7_compares_168 : decode cX7_compares 168 = .ok (.istore 7, 2) := by decide +kernel
theorem dX7_compares_170 : decode cX7_compares 170 = .ok (.aload_n 0, 1) := by decide +kernel
theorem dX7_compares_171 : decode cX7_compares 171 = .ok (.getfield 44, 3) := by decide +kernel
theorem dX7_compares_174 : decode cX7_compares 174 = .ok (.iload 5, 2) := by decide +kernel
theorem dX7_compares_176 : decode cX7_compares 176 = .ok (.iaload, 1) := by decide +kernel
theorem dX7_compares_177 : decode cX7_compares 177 = .ok (.aload_n 0, 1) := by decide +kernel
theorem dX7_compares_178 : decode cX7_compares 178 = .ok (.getfield 44, 3) := by decide +kernel
theorem dX7_compares_181 : decode cX7_compares 181 = .ok (.iload 6, 2) := by decide +kernel
theorem dX7_compares_183 : decode cX7_compares 183 = .ok (.iaload, 1) := by decide +kernel
theorem dX7_compares_184 : decode cX7_compares 184 = .ok (.if_icmp .ne 29, 3) := by decide +kernel
theorem dX7_compares_187 : decode cX7_compares 187 = .ok (.aload_n 0, 1) := by decide +kernel
theorem dX7_compares_188 : decode cX7_compares 188 = .ok (.getfield 47, 3) := by decide +kernel
theorem dX7_compares_191 : decode cX7_compares 191 = .ok (.iload 5, 2) := by decide +kernel
theorem dX7_compares_193 : decode cX7_compares 193 = .ok (.iaload, 1) := by decide +kernel
theorem dX7_compares_194 : decode cX7_compares 194 = .ok (.aload_n 0, 1) := by decide +kernel
theorem dX7_compares_195 : decode cX7_compares 195 = .ok (.getfield 47, 3) := by decide +kernel
theorem dX7_compares_198 : decode cX7_compares 198 = .ok (.iload 6, 2) := by decide +kernel
theorem dX7_compares_200 : decode cX7_compares 200 = .ok (.iaload, 1) := by decide +kernel
theorem dX7_compares_201 : decode cX7_compares 201 = .ok (.if_icmp .ne 12, 3) := by decide +kernel
theorem dX7_compares_204 : decode cX7_compares 204 = .ok (.iload 7, 2) := by decide +kernel
theorem dX7_compares_206 : decode cX7_compares 206 = .ok (.ifCond .eq 7, 3) := by decide +kernel
theorem dX7_compares_209 : decode cX7_compares 209 = .ok (.iconst 1, 1) := by decide +kernel
theorem dX7_compares_210 : decode cX7_compares 210 = .ok (.goto 4, 3) := by decide +kernel
theorem dX7_compares_213 : decode cX7_compares 213 = .ok (.iconst 0, 1) := by decide +kernel
theorem dX7_compares_214 : decode cX7_compares 214 = .ok (.istore_n 3, 1) := by decide +kernel
theorem dX7_compares_215 : decode cX7_compares 215 = .ok (.iinc 4 1, 3) := by decide +kernel
theorem dX7_compares_218 : decode cX7_compares 218 = .ok (.goto (-174), 3) := by decide +kernel
theorem dX7_compares_221 : decode cX7_compares 221 = .ok (.aload_n 0, 1) := by decide +kernel
theorem dX7_compares_222 : decode cX7_compares 222 = .ok (.getfield 153, 3) := by decide +kernel
theorem dX7_compares_225 : decode cX7_compares 225 = .ok (.bipush 20, 2) := by decide +kernel
theorem dX7_compares_227 : decode cX7_compares 227 = .ok (.iload_n 1, 1) := by decide +kernel
theorem dX7_compares_228 : decode cX7_compares 228 = .ok (.imul, 1) := by decide +kernel
theorem dX7_compares_229 : decode cX7_compares 229 = .ok (.iload_n 2, 1) := by decide +kernel
theorem dX7_compares_230 : decode cX7_compares 230 = .ok (.iadd, 1) := by decide +kernel
theorem dX7_compares_231 : decode cX7_compares 231 = .ok (.iload_n 3, 1) := by decide +kernel
theorem dX7_compares_232 : decode cX7_compares 232 = .ok (.bastore, 1) := by decide +kernel
theorem dX7_compares_233 : decode cX7_compares 233 = .ok (.iinc 2 1, 3) := by decide +kernel
theorem dX7_compares_236 : decode cX7_compares 236 = .ok (.goto (-224), 3) := by decide +kernel
theorem dX7_compares_239 : decode cX7_compares 239 = .ok (.iinc 1 1, 3) := by decide +kernel
theorem dX7_compares_242 : decode cX7_compares 242 = .ok (.goto (-240), 3) := by decide +kernel
theorem dX7_compares_245 : decode cX7_compares 245 = .ok (.return_, 1) := by decide +kernel
theorem dX7_alike_0 : decode cX7_alike 0 = .ok (.aload_n 0, 1) := by decide +kernel
theorem dX7_alike_1 : decode cX7_alike 1 = .ok (.aload_n 0, 1) := by decide +kernel
theorem dX7_alike_2 : decode cX7_alike 2 = .ok (.iload_n 1, 1) := by decide +kernel
theorem dX7_alike_3 : decode cX7_alike 3 = .ok (.invokevirtual 217, 3) := by decide +kernel
theorem dX7_alike_6 : decode cX7_alike 6 = .ok (.ifCond .eq 15, 3) := by decide +kernel
theorem dX7_alike_9 : decode cX7_alike 9 = .ok (.aload_n 0, 1) := by decide +kernel
theorem dX7_alike_10 : decode cX7_alike 10 = .ok (.iload_n 2, 1) := by decide +kernel
theorem dX7_alike_11 : decode cX7_alike 11 = .ok (.invokevirtual 217, 3) := by decide +kernel
theorem dX7_alike_14 : decode cX7_alike 14 = .ok (.ifCond .eq 7, 3) := by decide +kernel
theorem dX7_alike_17 : decode cX7_alike 17 = .ok (.iconst 0, 1) := by decide +kernel
theorem dX7_alike_18 : decode cX7_alike 18 = .ok (.goto 4, 3) := by decide +kernel
theorem dX7_alike_21 : decode cX7_alike 21 = .ok (.iconst 1, 1) := by decide +kernel
theorem dX7_alike_22 : decode cX7_alike 22 = .ok (.invokevirtual 175, 3) := by decide +kernel
theorem dX7_alike_25 : decode cX7_alike 25 = .ok (.ifCond .eq 5, 3) := by decide +kernel
theorem dX7_alike_28 : decode cX7_alike 28 = .ok (.iconst 0, 1) := by decide +kernel
theorem dX7_alike_29 : decode cX7_alike 29 = .ok (.ireturn, 1) := by decide +kernel
theorem dX7_alike_30 : decode cX7_alike 30 = .ok (.aload_n 0, 1) := by decide +kernel
theorem dX7_alike_31 : decode cX7_alike 31 = .ok (.invokevirtual 270, 3) := by decide +kernel
theorem dX7_alike_34 : decode cX7_alike 34 = .ok (.aload_n 0, 1) := by decide +kernel
theorem dX7_alike_35 : decode cX7_alike 35 = .ok (.getfield 153, 3) := by decide +kernel
theorem dX7_alike_38 : decode cX7_alike 38 = .ok (.bipush 20, 2) := by decide +kernel
theorem dX7_alike_40 : decode cX7_alike 40 = .ok (.iload_n 1, 1) := by decide +kernel
theorem dX7_alike_41 : decode cX7_alike 41 = .ok (.imul, 1) := by decide +kernel
theorem dX7_alike_42 : decode cX7_alike 42 = .ok (.iload_n 2, 1) := by decide +kernel
theorem dX7_alike_43 : decode cX7_alike 43 = .ok (.iadd, 1) := by decide +kernel
theorem dX7_alike_44 : decode cX7_alike 44 = .ok (.baload, 1) := by decide +kernel
theorem dX7_alike_45 : decode cX7_alike 45 = .ok (.ireturn, 1) := by decide +kernel
theorem dX7_findsBody_0 : decode cX7_findsBody 0 = .ok (.iconst (-1), 1) := by decide +kernel
theorem dX7_findsBody_1 : decode cX7_findsBody 1 = .ok (.istore 4, 2) := by decide +kernel
theorem dX7_findsBody_3 : decode cX7_findsBody 3 = .ok (.bipush 20, 2) := by decide +kernel
theorem dX7_findsBody_5 : decode cX7_findsBody 5 = .ok (.iload_n 1, 1) := by decide +kernel
theorem dX7_findsBody_6 : decode cX7_findsBody 6 = .ok (.imul, 1) := by decide +kernel
theorem dX7_findsBody_7 : decode cX7_findsBody 7 = .ok (.istore 5, 2) := by decide +kernel
theorem dX7_findsBody_9 : decode cX7_findsBody 9 = .ok (.iload 5, 2) := by decide +kernel
theorem dX7_findsBody_11 : decode cX7_findsBody 11 = .ok (.bipush 20, 2) := by decide +kernel
theorem dX7_findsBody_13 : decode cX7_findsBody 13 = .ok (.iload_n 1, 1) := by decide +kernel
theorem dX7_findsBody_14 : decode cX7_findsBody 14 = .ok (.imul, 1) := by decide +kernel
theorem dX7_findsBody_15 : decode cX7_findsBody 15 = .ok (.aload_n 0, 1) := by decide +kernel
theorem dX7_findsBody_16 : decode cX7_findsBody 16 = .ok (.getfield 56, 3) := by decide +kernel
theorem dX7_findsBody_19 : decode cX7_findsBody 19 = .ok (.iload_n 1, 1) := by decide +kernel
theorem dX7_findsBody_20 : decode cX7_findsBody 20 = .ok (.iaload, 1) := by decide +kernel
theorem dX7_findsBody_21 : decode cX7_findsBody 21 = .ok (.iadd, 1) := by decide +kernel
theorem dX7_findsBody_22 : decode cX7_findsBody 22 = .ok (.if_icmp .ge 40, 3) := by decide +kernel
theorem dX7_findsBody_25 : decode cX7_findsBody 25 = .ok (.aload_n 0, 1) := by decide +kernel
theorem dX7_findsBody_26 : decode cX7_findsBody 26 = .ok (.getfield 59, 3) := by decide +kernel
theorem dX7_findsBody_29 : decode cX7_findsBody 29 = .ok (.iload 5, 2) := by decide +kernel
theorem dX7_findsBody_31 : decode cX7_findsBody 31 = .ok (.iaload, 1) := by decide +kernel
theorem dX7_findsBody_32 : decode cX7_findsBody 32 = .ok (.iload_n 2, 1) := by decide +kernel
theorem dX7_findsBody_33 : decode cX7_findsBody 33 = .ok (.if_icmp .ne 19, 3) := by decide +kernel
theorem dX7_findsBody_36 : decode cX7_findsBody 36 = .ok (.aload_n 0, 1) := by decide +kernel
theorem dX7_findsBody_37 : decode cX7_findsBody 37 = .ok (.getfield 62, 3) := by decide +kernel
theorem dX7_findsBody_40 : decode cX7_findsBody 40 = .ok (.iload 5, 2) := by decide +kernel
theorem dX7_findsBody_42 : decode cX7_findsBody 42 = .ok (.iaload, 1) := by decide +kernel
theorem dX7_findsBody_43 : decode cX7_findsBody 43 = .ok (.iload_n 3, 1) := by decide +kernel
theorem dX7_findsBody_44 : decode cX7_findsBody 44 = .ok (.if_icmp .ne 8, 3) := by decide +kernel
theorem dX7_findsBody_47 : decode cX7_findsBody 47 = .ok (.iload 5, 2) := by decide +kernel
theorem dX7_findsBody_49 : decode cX7_findsBody 49 = .ok (.goto 5, 3) := by decide +kernel
theorem dX7_findsBody_52 : decode cX7_findsBody 52 = .ok (.iload 4, 2) := by decide +kernel
theorem dX7_findsBody_54 : decode cX7_findsBody 54 = .ok (.istore 4, 2) := by decide +kernel
theorem dX7_findsBody_56 : decode cX7_findsBody 56 = .ok (.iinc 5 1, 3) := by decide +kernel
theorem dX7_findsBody_59 : decode cX7_findsBody 59 = .ok (.goto (-50), 3) := by decide +kernel
theorem dX7_findsBody_62 : decode cX7_findsBody 62 = .ok (.iload 4, 2) := by decide +kernel
theorem dX7_findsBody_64 : decode cX7_findsBody 64 = .ok (.ireturn, 1) := by decide +kernel
theorem dX7_writes_0 : decode cX7_writes 0 = .ok (.sipush 160, 3) := by decide +kernel
theorem dX7_writes_3 : decode cX7_writes 3 = .ok (.aload_n 0, 1) := by decide +kernel
theorem dX7_writes_4 : decode cX7_writes 4 = .ok (.getfield 56, 3) := by decide +kernel
theorem dX7_writes_7 : decode cX7_writes 7 = .ok (.bipush 8, 2) := by decide +kernel
theorem dX7_writes_9 : decode cX7_writes 9 = .ok (.iaload, 1) := by decide +kernel
theorem dX7_writes_10 : decode cX7_writes 10 = .ok (.iadd, 1) := by decide +kernel
theorem dX7_writes_11 : decode cX7_writes 11 = .ok (.istore 7, 2) := by decide +kernel
theorem dX7_writes_13 : decode cX7_writes 13 = .ok (.aload_n 0, 1) := by decide +kernel
theorem dX7_writes_14 : decode cX7_writes 14 = .ok (.getfield 59, 3) := by decide +kernel
theorem dX7_writes_17 : decode cX7_writes 17 = .ok (.iload 7, 2) := by decide +kernel
theorem dX7_writes_19 : decode cX7_writes 19 = .ok (.iload_n 1, 1) := by decide +kernel
theorem dX7_writes_20 : decode cX7_writes 20 = .ok (.iastore, 1) := by decide +kernel
theorem dX7_writes_21 : decode cX7_writes 21 = .ok (.aload_n 0, 1) := by decide +kernel
theorem dX7_writes_22 : decode cX7_writes 22 = .ok (.getfield 62, 3) := by decide +kernel
theorem dX7_writes_25 : decode cX7_writes 25 = .ok (.iload 7, 2) := by decide +kernel
theorem dX7_writes_27 : decode cX7_writes 27 = .ok (.iload_n 2, 1) := by decide +kernel
theorem dX7_writes_28 : decode cX7_writes 28 = .ok (.iastore, 1) := by decide +kernel
theorem dX7_writes_29 : decode cX7_writes 29 = .ok (.aload_n 0, 1) := by decide +kernel
theorem dX7_writes_30 : decode cX7_writes 30 = .ok (.getfield 65, 3) := by decide +kernel
theorem dX7_writes_33 : decode cX7_writes 33 = .ok (.iload 7, 2) := by decide +kernel
theorem dX7_writes_35 : decode cX7_writes 35 = .ok (.iload_n 3, 1) := by decide +kernel
theorem dX7_writes_36 : decode cX7_writes 36 = .ok (.iastore, 1) := by decide +kernel
theorem dX7_writes_37 : decode cX7_writes 37 = .ok (.aload_n 0, 1) := by decide +kernel
theorem dX7_writes_38 : decode cX7_writes 38 = .ok (.getfield 68, 3) := by decide +kernel
theorem dX7_writes_41 : decode cX7_writes 41 = .ok (.iload 7, 2) := by decide +kernel
theorem dX7_writes_43 : decode cX7_writes 43 = .ok (.iload 4, 2) := by decide +kernel
theorem dX7_writes_45 : decode cX7_writes 45 = .ok (.iastore, 1) := by decide +kernel
theorem dX7_writes_46 : decode cX7_writes 46 = .ok (.aload_n 0, 1) := by decide +kernel
theorem dX7_writes_47 : decode cX7_writes 47 = .ok (.getfield 71, 3) := by decide +kernel
theorem dX7_writes_50 : decode cX7_writes 50 = .ok (.iload 7, 2) := by decide +kernel
theorem dX7_writes_52 : decode cX7_writes 52 = .ok (.iload 5, 2) := by decide +kernel
theorem dX7_writes_54 : decode cX7_writes 54 = .ok (.iastore, 1) := by decide +kernel
theorem dX7_writes_55 : decode cX7_writes 55 = .ok (.aload_n 0, 1) := by decide +kernel
theorem dX7_writes_56 : decode cX7_writes 56 = .ok (.getfield 74, 3) := by decide +kernel
theorem dX7_writes_59 : decode cX7_writes 59 = .ok (.iload 7, 2) := by decide +kernel
theorem dX7_writes_61 : decode cX7_writes 61 = .ok (.iload 6, 2) := by decide +kernel
theorem dX7_writes_63 : decode cX7_writes 63 = .ok (.iastore, 1) := by decide +kernel
theorem dX7_writes_64 : decode cX7_writes 64 = .ok (.aload_n 0, 1) := by decide +kernel
theorem dX7_writes_65 : decode cX7_writes 65 = .ok (.getfield 56, 3) := by decide +kernel
theorem dX7_writes_68 : decode cX7_writes 68 = .ok (.bipush 8, 2) := by decide +kernel
theorem dX7_writes_70 : decode cX7_writes 70 = .ok (.dup2, 1) := by decide +kernel
theorem dX7_writes_71 : decode cX7_writes 71 = .ok (.iaload, 1) := by decide +kernel
theorem dX7_writes_72 : decode cX7_writes 72 = .ok (.iconst 1, 1) := by decide +kernel
theorem dX7_writes_73 : decode cX7_writes 73 = .ok (.iadd, 1) := by decide +kernel
theorem dX7_writes_74 : decode cX7_writes 74 = .ok (.iastore, 1) := by decide +kernel
theorem dX7_writes_75 : decode cX7_writes 75 = .ok (.aload_n 0, 1) := by decide +kernel
theorem dX7_writes_76 : decode cX7_writes 76 = .ok (.getfield 56, 3) := by decide +kernel
theorem dX7_writes_79 : decode cX7_writes 79 = .ok (.bipush 8, 2) := by decide +kernel
theorem dX7_writes_81 : decode cX7_writes 81 = .ok (.iaload, 1) := by decide +kernel
theorem dX7_writes_82 : decode cX7_writes 82 = .ok (.ireturn, 1) := by decide +kernel
theorem dX7_isFrom_0 : decode cX7_isFrom 0 = .ok (.iload_n 0, 1) := by decide +kernel
theorem dX7_isFrom_1 : decode cX7_isFrom 1 = .ok (.iconst (-1), 1) := by decide +kernel
theorem dX7_isFrom_2 : decode cX7_isFrom 2 = .ok (.bipush 9, 2) := by decide +kernel
theorem dX7_isFrom_4 : decode cX7_isFrom 4 = .ok (.invokestatic 159, 3) := by decide +kernel
theorem dX7_isFrom_7 : decode cX7_isFrom 7 = .ok (.ireturn, 1) := by decide +kernel
theorem dX7_bodyType_0 : decode cX7_bodyType 0 = .ok (.aload_n 0, 1) := by decide +kernel
theorem dX7_bodyType_1 : decode cX7_bodyType 1 = .ok (.iload_n 1, 1) := by decide +kernel
theorem dX7_bodyType_2 : decode cX7_bodyType 2 = .ok (.invokestatic 188, 3) := by decide +kernel
theorem dX7_bodyType_5 : decode cX7_bodyType 5 = .ok (.ifCond .eq 10, 3) := by decide +kernel
theorem dX7_bodyType_8 : decode cX7_bodyType 8 = .ok (.iload_n 2, 1) := by decide +kernel
theorem dX7_bodyType_9 : decode cX7_bodyType 9 = .ok (.invokestatic 273, 3) := by decide +kernel
theorem dX7_bodyType_12 : decode cX7_bodyType 12 = .ok (.ifCond .ne 7, 3) := by decide +kernel
theorem dX7_bodyType_15 : decode cX7_bodyType 15 = .ok (.iconst 1, 1) := by decide +kernel
theorem dX7_bodyType_16 : decode cX7_bodyType 16 = .ok (.goto 20, 3) := by decide +kernel
theorem dX7_bodyType_19 : decode cX7_bodyType 19 = .ok (.aload_n 0, 1) := by decide +kernel
theorem dX7_bodyType_20 : decode cX7_bodyType 20 = .ok (.bipush 8, 2) := by decide +kernel
theorem dX7_bodyType_22 : decode cX7_bodyType 22 = .ok (.iconst 0, 1) := by decide +kernel
theorem dX7_bodyType_23 : decode cX7_bodyType 23 = .ok (.iload_n 1, 1) := by decide +kernel
theorem dX7_bodyType_24 : decode cX7_bodyType 24 = .ok (.invokevirtual 276, 3) := by decide +kernel
theorem dX7_bodyType_27 : decode cX7_bodyType 27 = .ok (.iconst (-1), 1) := by decide +kernel
theorem dX7_bodyType_28 : decode cX7_bodyType 28 = .ok (.if_icmp .eq 7, 3) := by decide +kernel
theorem dX7_bodyType_31 : decode cX7_bodyType 31 = .ok (.iconst 2, 1) := by decide +kernel
theorem dX7_bodyType_32 : decode cX7_bodyType 32 = .ok (.goto 4, 3) := by decide +kernel
theorem dX7_bodyType_35 : decode cX7_bodyType 35 = .ok (.iconst 0, 1) := by decide +kernel
theorem dX7_bodyType_36 : decode cX7_bodyType 36 = .ok (.invokevirtual 175, 3) := by decide +kernel
theorem dX7_bodyType_39 : decode cX7_bodyType 39 = .ok (.ifCond .eq 5, 3) := by decide +kernel
theorem dX7_bodyType_42 : decode cX7_bodyType 42 = .ok (.iconst 0, 1) := by decide +kernel
theorem dX7_bodyType_43 : decode cX7_bodyType 43 = .ok (.ireturn, 1) := by decide +kernel
theorem dX7_bodyType_44 : decode cX7_bodyType 44 = .ok (.aload_n 0, 1) := by decide +kernel
theorem dX7_bodyType_45 : decode cX7_bodyType 45 = .ok (.iconst 0, 1) := by decide +kernel
theorem dX7_bodyType_46 : decode cX7_bodyType 46 = .ok (.iload_n 1, 1) := by decide +kernel
theorem dX7_bodyType_47 : decode cX7_bodyType 47 = .ok (.iconst 0, 1) := by decide +kernel
theorem dX7_bodyType_48 : decode cX7_bodyType 48 = .ok (.bipush (-100), 2) := by decide +kernel
theorem dX7_bodyType_50 : decode cX7_bodyType 50 = .ok (.iload_n 2, 1) := by decide +kernel
theorem dX7_bodyType_51 : decode cX7_bodyType 51 = .ok (.iconst 0, 1) := by decide +kernel
theorem dX7_bodyType_52 : decode cX7_bodyType 52 = .ok (.invokevirtual 279, 3) := by decide +kernel
theorem dX7_bodyType_55 : decode cX7_bodyType 55 = .ok (.ireturn, 1) := by decide +kernel
theorem dX7_isBodyTold_0 : decode cX7_isBodyTold 0 = .ok (.iload_n 1, 1) := by decide +kernel
theorem dX7_isBodyTold_1 : decode cX7_isBodyTold 1 = .ok (.ifCond .lt 11, 3) := by decide +kernel
theorem dX7_isBodyTold_4 : decode cX7_isBodyTold 4 = .ok (.aload_n 0, 1) := by decide +kernel
theorem dX7_isBodyTold_5 : decode cX7_isBodyTold 5 = .ok (.iload_n 1, 1) := by decide +kernel
theorem dX7_isBodyTold_6 : decode cX7_isBodyTold 6 = .ok (.invokevirtual 171, 3) := by decide +kernel
theorem dX7_isBodyTold_9 : decode cX7_isBodyTold 9 = .ok (.goto 22, 3) := by decide +kernel
theorem dX7_isBodyTold_12 : decode cX7_isBodyTold 12 = .ok (.aload_n 0, 1) := by decide +kernel
theorem dX7_isBodyTold_13 : decode cX7_isBodyTold 13 = .ok (.bipush 8, 2) := by decide +kernel
theorem dX7_isBodyTold_15 : decode cX7_isBodyTold 15 = .ok (.iconst 0, 1) := by decide +kernel
theorem dX7_isBodyTold_16 : decode cX7_isBodyTold 16 = .ok (.iconst (-1), 1) := by decide +kernel
theorem dX7_isBodyTold_17 : decode cX7_isBodyTold 17 = .ok (.iload_n 1, 1) := by decide +kernel
theorem dX7_isBodyTold_18 : decode cX7_isBodyTold 18 = .ok (.isub, 1) := by decide +kernel
theorem dX7_isBodyTold_19 : decode cX7_isBodyTold 19 = .ok (.invokevirtual 276, 3) := by decide +kernel
theorem dX7_isBodyTold_22 : decode cX7_isBodyTold 22 = .ok (.iconst (-1), 1) := by decide +kernel
theorem dX7_isBodyTold_23 : decode cX7_isBodyTold 23 = .ok (.if_icmp .eq 7, 3) := by decide +kernel
theorem dX7_isBodyTold_26 : decode cX7_isBodyTold 26 = .ok (.iconst 1, 1) := by decide +kernel
theorem dX7_isBodyTold_27 : decode cX7_isBodyTold 27 = .ok (.goto 4, 3) := by decide +kernel
theorem dX7_isBodyTold_30 : decode cX7_isBodyTold 30 = .ok (.iconst 0, 1) := by decide +kernel
theorem dX7_isBodyTold_31 : decode cX7_isBodyTold 31 = .ok (.ireturn, 1) := by decide +kernel
theorem dX7_bodyValue_0 : decode cX7_bodyValue 0 = .ok (.aload_n 0, 1) := by decide +kernel
theorem dX7_bodyValue_1 : decode cX7_bodyValue 1 = .ok (.iload_n 2, 1) := by decide +kernel
theorem dX7_bodyValue_2 : decode cX7_bodyValue 2 = .ok (.invokevirtual 283, 3) := by decide +kernel
theorem dX7_bodyValue_5 : decode cX7_bodyValue 5 = .ok (.ifCond .eq 21, 3) := by decide +kernel
theorem dX7_bodyValue_8 : decode cX7_bodyValue 8 = .ok (.iload_n 3, 1) := by decide +kernel
theorem dX7_bodyValue_9 : decode cX7_bodyValue 9 = .ok (.bipush (-100), 2) := by decide +kernel
theorem dX7_bodyValue_11 : decode cX7_bodyValue 11 = .ok (.if_icmp .eq 11, 3) := by decide +kernel
theorem dX7_bodyValue_14 : decode cX7_bodyValue 14 = .ok (.aload_n 0, 1) := by decide +kernel
theorem dX7_bodyValue_15 : decode cX7_bodyValue 15 = .ok (.iload_n 3, 1) := by decide +kernel
theorem dX7_bodyValue_16 : decode cX7_bodyValue 16 = .ok (.invokevirtual 283, 3) := by decide +kernel
theorem dX7_bodyValue_19 : decode cX7_bodyValue 19 = .ok (.ifCond .eq 7, 3) := by decide +kernel
theorem dX7_bodyValue_22 : decode cX7_bodyValue 22 = .ok (.iconst 1, 1) := by decide +kernel
theorem dX7_bodyValue_23 : decode cX7_bodyValue 23 = .ok (.goto 4, 3) := by decide +kernel
theorem dX7_bodyValue_26 : decode cX7_bodyValue 26 = .ok (.iconst 0, 1) := by decide +kernel
theorem dX7_bodyValue_27 : decode cX7_bodyValue 27 = .ok (.istore 6, 2) := by decide +kernel
theorem dX7_bodyValue_29 : decode cX7_bodyValue 29 = .ok (.iload_n 1, 1) := by decide +kernel
theorem dX7_bodyValue_30 : decode cX7_bodyValue 30 = .ok (.invokestatic 188, 3) := by decide +kernel
theorem dX7_bodyValue_33 : decode cX7_bodyValue 33 = .ok (.ifCond .eq 23, 3) := by decide +kernel
theorem dX7_bodyValue_36 : decode cX7_bodyValue 36 = .ok (.iload 4, 2) := by decide +kernel
theorem dX7_bodyValue_38 : decode cX7_bodyValue 38 = .ok (.invokestatic 273, 3) := by decide +kernel
theorem dX7_bodyValue_41 : decode cX7_bodyValue 41 = .ok (.ifCond .eq 15, 3) := by decide +kernel
theorem dX7_bodyValue_44 : decode cX7_bodyValue 44 = .ok (.iload 5, 2) := by decide +kernel
theorem dX7_bodyValue_46 : decode cX7_bodyValue 46 = .ok (.invokestatic 195, 3) := by decide +kernel
theorem dX7_bodyValue_49 : decode cX7_bodyValue 49 = .ok (.ifCond .eq 7, 3) := by decide +kernel
theorem dX7_bodyValue_52 : decode cX7_bodyValue 52 = .ok (.iconst 1, 1) := by decide +kernel
theorem dX7_bodyValue_53 : decode cX7_bodyValue 53 = .ok (.goto 4, 3) := by decide +kernel
theorem dX7_bodyValue_56 : decode cX7_bodyValue 56 = .ok (.iconst 0, 1) := by decide +kernel
theorem dX7_bodyValue_57 : decode cX7_bodyValue 57 = .ok (.istore 7, 2) := by decide +kernel
theorem dX7_bodyValue_59 : decode cX7_bodyValue 59 = .ok (.aload_n 0, 1) := by decide +kernel
theorem dX7_bodyValue_60 : decode cX7_bodyValue 60 = .ok (.iload 6, 2) := by decide +kernel
theorem dX7_bodyValue_62 : decode cX7_bodyValue 62 = .ok (.ifCond .ne 7, 3) := by decide +kernel
theorem dX7_bodyValue_65 : decode cX7_bodyValue 65 = .ok (.iconst 1, 1) := by decide +kernel
theorem dX7_bodyValue_66 : decode cX7_bodyValue 66 = .ok (.goto 29, 3) := by decide +kernel
theorem dX7_bodyValue_69 : decode cX7_bodyValue 69 = .ok (.iload 7, 2) := by decide +kernel
theorem dX7_bodyValue_71 : decode cX7_bodyValue 71 = .ok (.ifCond .ne 7, 3) := by decide +kernel
theorem dX7_bodyValue_74 : decode cX7_bodyValue 74 = .ok (.iconst 2, 1) := by decide +kernel
theorem dX7_bodyValue_75 : decode cX7_bodyValue 75 = .ok (.goto 20, 3) := by decide +kernel
theorem dX7_bodyValue_78 : decode cX7_bodyValue 78 = .ok (.aload_n 0, 1) := by decide +kernel
theorem dX7_bodyValue_79 : decode cX7_bodyValue 79 = .ok (.bipush 8, 2) := by decide +kernel
theorem dX7_bodyValue_81 : decode cX7_bodyValue 81 = .ok (.iconst 1, 1) := by decide +kernel
theorem dX7_bodyValue_82 : decode cX7_bodyValue 82 = .ok (.iload_n 1, 1) := by decide +kernel
theorem dX7_bodyValue_83 : decode cX7_bodyValue 83 = .ok (.invokevirtual 276, 3) := by decide +kernel
theorem dX7_bodyValue_86 : decode cX7_bodyValue 86 = .ok (.iconst (-1), 1) := by decide +kernel
theorem dX7_bodyValue_87 : decode cX7_bodyValue 87 = .ok (.if_icmp .eq 7, 3) := by decide +kernel
theorem dX7_bodyValue_90 : decode cX7_bodyValue 90 = .ok (.iconst 3, 1) := by decide +kernel
theorem dX7_bodyValue_91 : decode cX7_bodyValue 91 = .ok (.goto 4, 3) := by decide +kernel
theorem dX7_bodyValue_94 : decode cX7_bodyValue 94 = .ok (.iconst 0, 1) := by decide +kernel
theorem dX7_bodyValue_95 : decode cX7_bodyValue 95 = .ok (.invokevirtual 175, 3) := by decide +kernel
theorem dX7_bodyValue_98 : decode cX7_bodyValue 98 = .ok (.ifCond .eq 5, 3) := by decide +kernel
theorem dX7_bodyValue_101 : decode cX7_bodyValue 101 = .ok (.iconst 0, 1) := by decide +kernel
theorem dX7_bodyValue_102 : decode cX7_bodyValue 102 = .ok (.ireturn, 1) := by decide +kernel
theorem dX7_bodyValue_103 : decode cX7_bodyValue 103 = .ok (.aload_n 0, 1) := by decide +kernel
theorem dX7_bodyValue_104 : decode cX7_bodyValue 104 = .ok (.iconst 1, 1) := by decide +kernel
theorem dX7_bodyValue_105 : decode cX7_bodyValue 105 = .ok (.iload_n 1, 1) := by decide +kernel
theorem dX7_bodyValue_106 : decode cX7_bodyValue 106 = .ok (.iload_n 2, 1) := by decide +kernel
theorem dX7_bodyValue_107 : decode cX7_bodyValue 107 = .ok (.iload_n 3, 1) := by decide +kernel
theorem dX7_bodyValue_108 : decode cX7_bodyValue 108 = .ok (.iload 4, 2) := by decide +kernel
theorem dX7_bodyValue_110 : decode cX7_bodyValue 110 = .ok (.iload 5, 2) := by decide +kernel
theorem dX7_bodyValue_112 : decode cX7_bodyValue 112 = .ok (.invokevirtual 279, 3) := by decide +kernel
theorem dX7_bodyValue_115 : decode cX7_bodyValue 115 = .ok (.ireturn, 1) := by decide +kernel
theorem dX7_functor_0 : decode cX7_functor 0 = .ok (.aload_n 0, 1) := by decide +kernel
theorem dX7_functor_1 : decode cX7_functor 1 = .ok (.iload_n 1, 1) := by decide +kernel
theorem dX7_functor_2 : decode cX7_functor 2 = .ok (.invokevirtual 217, 3) := by decide +kernel
theorem dX7_functor_5 : decode cX7_functor 5 = .ok (.ifCond .eq 20, 3) := by decide +kernel
theorem dX7_functor_8 : decode cX7_functor 8 = .ok (.iload_n 2, 1) := by decide +kernel
theorem dX7_functor_9 : decode cX7_functor 9 = .ok (.iconst (-1), 1) := by decide +kernel
theorem dX7_functor_10 : decode cX7_functor 10 = .ok (.if_icmp .eq 11, 3) := by decide +kernel
theorem dX7_functor_13 : decode cX7_functor 13 = .ok (.aload_n 0, 1) := by decide +kernel
theorem dX7_functor_14 : decode cX7_functor 14 = .ok (.iload_n 2, 1) := by decide +kernel
theorem dX7_functor_15 : decode cX7_functor 15 = .ok (.invokevirtual 217, 3) := by decide +kernel
theorem dX7_functor_18 : decode cX7_functor 18 = .ok (.ifCond .eq 7, 3) := by decide +kernel
theorem dX7_functor_21 : decode cX7_functor 21 = .ok (.iconst 1, 1) := by decide +kernel
theorem dX7_functor_22 : decode cX7_functor 22 = .ok (.goto 4, 3) := by decide +kernel
theorem dX7_functor_25 : decode cX7_functor 25 = .ok (.iconst 0, 1) := by decide +kernel
theorem dX7_functor_26 : decode cX7_functor 26 = .ok (.istore 4, 2) := by decide +kernel
theorem dX7_functor_28 : decode cX7_functor 28 = .ok (.iload 4, 2) := by decide +kernel
theorem dX7_functor_30 : decode cX7_functor 30 = .ok (.ifCond .eq 16, 3) := by decide +kernel
theorem dX7_functor_33 : decode cX7_functor 33 = .ok (.aload_n 0, 1) := by decide +kernel
theorem dX7_functor_34 : decode cX7_functor 34 = .ok (.getfield 286, 3) := by decide +kernel
theorem dX7_functor_37 : decode cX7_functor 37 = .ok (.bipush 8, 2) := by decide +kernel
theorem dX7_functor_39 : decode cX7_functor 39 = .ok (.if_icmp .ge 7, 3) := by decide +kernel
theorem dX7_functor_42 : decode cX7_functor 42 = .ok (.iconst 1, 1) := by decide +kernel
theorem dX7_functor_43 : decode cX7_functor 43 = .ok (.goto 4, 3) := by decide +kernel
theorem dX7_functor_46 : decode cX7_functor 46 = .ok (.iconst 0, 1) := by decide +kernel
theorem dX7_functor_47 : decode cX7_functor 47 = .ok (.istore 5, 2) := by decide +kernel
theorem dX7_functor_49 : decode cX7_functor 49 = .ok (.sipush 160, 3) := by decide +kernel
theorem dX7_functor_52 : decode cX7_functor 52 = .ok (.istore 6, 2) := by decide +kernel
theorem dX7_functor_54 : decode cX7_functor 54 = .ok (.iload 5, 2) := by decide +kernel
theorem dX7_functor_56 : decode cX7_functor 56 = .ok (.ifCond .eq 66, 3) := by decide +kernel
theorem dX7_functor_59 : decode cX7_functor 59 = .ok (.iload 6, 2) := by decide +kernel
theorem dX7_functor_61 : decode cX7_functor 61 = .ok (.sipush 160, 3) := by decide +kernel
theorem dX7_functor_64 : decode cX7_functor 64 = .ok (.aload_n 0, 1) := by decide +kernel
theorem dX7_functor_65 : decode cX7_functor 65 = .ok (.getfield 56, 3) := by decide +kernel
theorem dX7_functor_68 : decode cX7_functor 68 = .ok (.bipush 8, 2) := by decide +kernel
theorem dX7_functor_70 : decode cX7_functor 70 = .ok (.iaload, 1) := by decide +kernel
theorem dX7_functor_71 : decode cX7_functor 71 = .ok (.iadd, 1) := by decide +kernel
theorem dX7_functor_72 : decode cX7_functor 72 = .ok (.if_icmp .ge 50, 3) := by decide +kernel
theorem dX7_functor_75 : decode cX7_functor 75 = .ok (.aload_n 0, 1) := by decide +kernel
theorem dX7_functor_76 : decode cX7_functor 76 = .ok (.getfield 71, 3) := by decide +kernel
theorem dX7_functor_79 : decode cX7_functor 79 = .ok (.iload 6, 2) := by decide +kernel
theorem dX7_functor_81 : decode cX7_functor 81 = .ok (.iaload, 1) := by decide +kernel
theorem dX7_functor_82 : decode cX7_functor 82 = .ok (.iconst (-1), 1) := by decide +kernel
theorem dX7_functor_83 : decode cX7_functor 83 = .ok (.if_icmp .eq 26, 3) := by decide +kernel
theorem dX7_functor_86 : decode cX7_functor 86 = .ok (.aload_n 0, 1) := by decide +kernel
theorem dX7_functor_87 : decode cX7_functor 87 = .ok (.iload_n 1, 1) := by decide +kernel
theorem dX7_functor_88 : decode cX7_functor 88 = .ok (.aload_n 0, 1) := by decide +kernel
theorem dX7_functor_89 : decode cX7_functor 89 = .ok (.getfield 59, 3) := by decide +kernel
theorem dX7_functor_92 : decode cX7_functor 92 = .ok (.iload 6, 2) := by decide +kernel
theorem dX7_functor_94 : decode cX7_functor 94 = .ok (.iaload, 1) := by decide +kernel
theorem dX7_functor_95 : decode cX7_functor 95 = .ok (.aload_n 0, 1) := by decide +kernel
theorem dX7_functor_96 : decode cX7_functor 96 = .ok (.getfield 71, 3) := by decide +kernel
theorem dX7_functor_99 : decode cX7_functor 99 = .ok (.iload 6, 2) := by decide +kernel
theorem dX7_functor_101 : decode cX7_functor 101 = .ok (.iaload, 1) := by decide +kernel
theorem dX7_functor_102 : decode cX7_functor 102 = .ok (.invokevirtual 207, 3) := by decide +kernel
theorem dX7_functor_105 : decode cX7_functor 105 = .ok (.iconst (-1), 1) := by decide +kernel
theorem dX7_functor_106 : decode cX7_functor 106 = .ok (.if_icmp .eq 7, 3) := by decide +kernel
theorem dX7_functor_109 : decode cX7_functor 109 = .ok (.iconst 1, 1) := by decide +kernel
theorem dX7_functor_110 : decode cX7_functor 110 = .ok (.goto 4, 3) := by decide +kernel
theorem dX7_functor_113 : decode cX7_functor 113 = .ok (.iconst 0, 1) := by decide +kernel
theorem dX7_functor_114 : decode cX7_functor 114 = .ok (.istore 5, 2) := by decide +kernel
theorem dX7_functor_116 : decode cX7_functor 116 = .ok (.iinc 6 1, 3) := by decide +kernel
theorem dX7_functor_119 : decode cX7_functor 119 = .ok (.goto (-65), 3) := by decide +kernel
theorem dX7_functor_122 : decode cX7_functor 122 = .ok (.aload_n 0, 1) := by decide +kernel
theorem dX7_functor_123 : decode cX7_functor 123 = .ok (.iload 4, 2) := by decide +kernel
theorem dX7_functor_125 : decode cX7_functor 125 = .ok (.ifCond .ne 7, 3) := by decide +kernel
theorem dX7_functor_128 : decode cX7_functor 128 = .ok (.iconst 1, 1) := by decide +kernel
theorem dX7_functor_129 : decode cX7_functor 129 = .ok (.goto 13, 3) := by decide +kernel
theorem dX7_functor_132 : decode cX7_functor 132 = .ok (.iload 5, 2) := by decide +kernel
theorem dX7_functor_134 : decode cX7_functor 134 = .ok (.ifCond .eq 7, 3) := by decide +kernel
theorem dX7_functor_137 : decode cX7_functor 137 = .ok (.iconst 0, 1) := by decide +kernel
theorem dX7_functor_138 : decode cX7_functor 138 = .ok (.goto 4, 3) := by decide +kernel
theorem dX7_functor_141 : decode cX7_functor 141 = .ok (.iconst 2, 1) := by decide +kernel
theorem dX7_functor_142 : decode cX7_functor 142 = .ok (.invokevirtual 175, 3) := by decide +kernel
theorem dX7_functor_145 : decode cX7_functor 145 = .ok (.ifCond .eq 5, 3) := by decide +kernel
theorem dX7_functor_148 : decode cX7_functor 148 = .ok (.iconst 0, 1) := by decide +kernel
theorem dX7_functor_149 : decode cX7_functor 149 = .ok (.ireturn, 1) := by decide +kernel
theorem dX7_functor_150 : decode cX7_functor 150 = .ok (.iconst 0, 1) := by decide +kernel
theorem dX7_functor_151 : decode cX7_functor 151 = .ok (.istore 6, 2) := by decide +kernel
theorem dX7_functor_153 : decode cX7_functor 153 = .ok (.iload 6, 2) := by decide +kernel
theorem dX7_functor_155 : decode cX7_functor 155 = .ok (.aload_n 0, 1) := by decide +kernel
theorem dX7_functor_156 : decode cX7_functor 156 = .ok (.getfield 56, 3) := by decide +kernel
theorem dX7_functor_159 : decode cX7_functor 159 = .ok (.bipush 8, 2) := by decide +kernel
theorem dX7_functor_161 : decode cX7_functor 161 = .ok (.iaload, 1) := by decide +kernel
theorem dX7_functor_162 : decode cX7_functor 162 = .ok (.if_icmp .ge 113, 3) := by decide +kernel
theorem dX7_functor_165 : decode cX7_functor 165 = .ok (.sipush 160, 3) := by decide +kernel
theorem dX7_functor_168 : decode cX7_functor 168 = .ok (.iload 6, 2) := by decide +kernel
theorem dX7_functor_170 : decode cX7_functor 170 = .ok (.iadd, 1) := by decide +kernel
theorem dX7_functor_171 : decode cX7_functor 171 = .ok (.istore 7, 2) := by decide +kernel
theorem dX7_functor_173 : decode cX7_functor 173 = .ok (.bipush 20, 2) := by decide +kernel
theorem dX7_functor_175 : decode cX7_functor 175 = .ok (.aload_n 0, 1) := by decide +kernel
theorem dX7_functor_176 : decode cX7_functor 176 = .ok (.getfield 286, 3) := by decide +kernel
theorem dX7_functor_179 : decode cX7_functor 179 = .ok (.imul, 1) := by decide +kernel
theorem dX7_functor_180 : decode cX7_functor 180 = .ok (.iload 6, 2) := by decide +kernel
theorem dX7_functor_182 : decode cX7_functor 182 = .ok (.iadd, 1) := by decide +kernel
theorem dX7_functor_183 : decode cX7_functor 183 = .ok (.istore 8, 2) := by decide +kernel
theorem dX7_functor_185 : decode cX7_functor 185 = .ok (.aload_n 0, 1) := by decide +kernel
theorem dX7_functor_186 : decode cX7_functor 186 = .ok (.getfield 59, 3) := by decide +kernel
theorem dX7_functor_189 : decode cX7_functor 189 = .ok (.iload 8, 2) := by decide +kernel
theorem dX7_functor_191 : decode cX7_functor 191 = .ok (.aload_n 0, 1) := by decide +kernel
theorem dX7_functor_192 : decode cX7_functor 192 = .ok (.getfield 59, 3) := by decide +kernel
theorem dX7_functor_195 : decode cX7_functor 195 = .ok (.iload 7, 2) := by decide +kernel
theorem dX7_functor_197 : decode cX7_functor 197 = .ok (.iaload, 1) := by decide +kernel
theorem dX7_functor_198 : decode cX7_functor 198 = .ok (.iastore, 1) := by decide +kernel
theorem dX7_functor_199 : decode cX7_functor 199 = .ok (.aload_n 0, 1) := by decide +kernel
theorem dX7_functor_200 : decode cX7_functor 200 = .ok (.getfield 62, 3) := by decide +kernel
theorem dX7_functor_203 : decode cX7_functor 203 = .ok (.iload 8, 2) := by decide +kernel
theorem dX7_functor_205 : decode cX7_functor 205 = .ok (.aload_n 0, 1) := by decide +kernel
theorem dX7_functor_206 : decode cX7_functor 206 = .ok (.getfield 62, 3) := by decide +kernel
theorem dX7_functor_209 : decode cX7_functor 209 = .ok (.iload 7, 2) := by decide +kernel
theorem dX7_functor_211 : decode cX7_functor 211 = .ok (.iaload, 1) := by decide +kernel
theorem dX7_functor_212 : decode cX7_functor 212 = .ok (.iastore, 1) := by decide +kernel
theorem dX7_functor_213 : decode cX7_functor 213 = .ok (.aload_n 0, 1) := by decide +kernel
theorem dX7_functor_214 : decode cX7_functor 214 = .ok (.getfield 65, 3) := by decide +kernel
theorem dX7_functor_217 : decode cX7_functor 217 = .ok (.iload 8, 2) := by decide +kernel
theorem dX7_functor_219 : decode cX7_functor 219 = .ok (.aload_n 0, 1) := by decide +kernel
theorem dX7_functor_220 : decode cX7_functor 220 = .ok (.getfield 65, 3) := by decide +kernel
theorem dX7_functor_223 : decode cX7_functor 223 = .ok (.iload 7, 2) := by decide +kernel
theorem dX7_functor_225 : decode cX7_functor 225 = .ok (.iaload, 1) := by decide +kernel
theorem dX7_functor_226 : decode cX7_functor 226 = .ok (.iastore, 1) := by decide +kernel
theorem dX7_functor_227 : decode cX7_functor 227 = .ok (.aload_n 0, 1) := by decide +kernel
theorem dX7_functor_228 : decode cX7_functor 228 = .ok (.getfield 68, 3) := by decide +kernel
theorem dX7_functor_231 : decode cX7_functor 231 = .ok (.iload 8, 2) := by decide +kernel
theorem dX7_functor_233 : decode cX7_functor 233 = .ok (.aload_n 0, 1) := by decide +kernel
theorem dX7_functor_234 : decode cX7_functor 234 = .ok (.getfield 68, 3) := by decide +kernel
theorem dX7_functor_237 : decode cX7_functor 237 = .ok (.iload 7, 2) := by decide +kernel
theorem dX7_functor_239 : decode cX7_functor 239 = .ok (.iaload, 1) := by decide +kernel
theorem dX7_functor_240 : decode cX7_functor 240 = .ok (.iastore, 1) := by decide +kernel
theorem dX7_functor_241 : decode cX7_functor 241 = .ok (.aload_n 0, 1) := by decide +kernel
theorem dX7_functor_242 : decode cX7_functor 242 = .ok (.getfield 71, 3) := by decide +kernel
theorem dX7_functor_245 : decode cX7_functor 245 = .ok (.iload 8, 2) := by decide +kernel
theorem dX7_functor_247 : decode cX7_functor 247 = .ok (.aload_n 0, 1) := by decide +kernel
theorem dX7_functor_248 : decode cX7_functor 248 = .ok (.getfield 71, 3) := by decide +kernel
theorem dX7_functor_251 : decode cX7_functor 251 = .ok (.iload 7, 2) := by decide +kernel
theorem dX7_functor_253 : decode cX7_functor 253 = .ok (.iaload, 1) := by decide +kernel
theorem dX7_functor_254 : decode cX7_functor 254 = .ok (.iastore, 1) := by decide +kernel
theorem dX7_functor_255 : decode cX7_functor 255 = .ok (.aload_n 0, 1) := by decide +kernel
theorem dX7_functor_256 : decode cX7_functor 256 = .ok (.getfield 74, 3) := by decide +kernel
theorem dX7_functor_259 : decode cX7_functor 259 = .ok (.iload 8, 2) := by decide +kernel
theorem dX7_functor_261 : decode cX7_functor 261 = .ok (.aload_n 0, 1) := by decide +kernel
theorem dX7_functor_262 : decode cX7_functor 262 = .ok (.getfield 74, 3) := by decide +kernel
theorem dX7_functor_265 : decode cX7_functor 265 = .ok (.iload 7, 2) := by decide +kernel
theorem dX7_functor_267 : decode cX7_functor 267 = .ok (.iaload, 1) := by decide +kernel
theorem dX7_functor_268 : decode cX7_functor 268 = .ok (.iastore, 1) := by decide +kernel
theorem dX7_functor_269 : decode cX7_functor 269 = .ok (.iinc 6 1, 3) := by decide +kernel
theorem dX7_functor_272 : decode cX7_functor 272 = .ok (.goto (-119), 3) := by decide +kernel
theorem dX7_functor_275 : decode cX7_functor 275 = .ok (.aload_n 0, 1) := by decide +kernel
theorem dX7_functor_276 : decode cX7_functor 276 = .ok (.getfield 56, 3) := by decide +kernel
theorem dX7_functor_279 : decode cX7_functor 279 = .ok (.aload_n 0, 1) := by decide +kernel
theorem dX7_functor_280 : decode cX7_functor 280 = .ok (.getfield 286, 3) := by decide +kernel
theorem dX7_functor_283 : decode cX7_functor 283 = .ok (.aload_n 0, 1) := by decide +kernel
theorem dX7_functor_284 : decode cX7_functor 284 = .ok (.getfield 56, 3) := by decide +kernel
theorem dX7_functor_287 : decode cX7_functor 287 = .ok (.bipush 8, 2) := by decide +kernel
theorem dX7_functor_289 : decode cX7_functor 289 = .ok (.iaload, 1) := by decide +kernel
theorem dX7_functor_290 : decode cX7_functor 290 = .ok (.iastore, 1) := by decide +kernel
theorem dX7_functor_291 : decode cX7_functor 291 = .ok (.aload_n 0, 1) := by decide +kernel
theorem dX7_functor_292 : decode cX7_functor 292 = .ok (.getfield 56, 3) := by decide +kernel
theorem dX7_functor_295 : decode cX7_functor 295 = .ok (.bipush 8, 2) := by decide +kernel
theorem dX7_functor_297 : decode cX7_functor 297 = .ok (.iconst 0, 1) := by decide +kernel
theorem dX7_functor_298 : decode cX7_functor 298 = .ok (.iastore, 1) := by decide +kernel
theorem dX7_functor_299 : decode cX7_functor 299 = .ok (.aload_n 0, 1) := by decide +kernel
theorem dX7_functor_300 : decode cX7_functor 300 = .ok (.getfield 77, 3) := by decide +kernel
theorem dX7_functor_303 : decode cX7_functor 303 = .ok (.aload_n 0, 1) := by decide +kernel
theorem dX7_functor_304 : decode cX7_functor 304 = .ok (.getfield 286, 3) := by decide +kernel
theorem dX7_functor_307 : decode cX7_functor 307 = .ok (.iload_n 1, 1) := by decide +kernel
theorem dX7_functor_308 : decode cX7_functor 308 = .ok (.iastore, 1) := by decide +kernel
theorem dX7_functor_309 : decode cX7_functor 309 = .ok (.aload_n 0, 1) := by decide +kernel
theorem dX7_functor_310 : decode cX7_functor 310 = .ok (.getfield 80, 3) := by decide +kernel
theorem dX7_functor_313 : decode cX7_functor 313 = .ok (.aload_n 0, 1) := by decide +kernel
theorem dX7_functor_314 : decode cX7_functor 314 = .ok (.getfield 286, 3) := by decide +kernel
theorem dX7_functor_317 : decode cX7_functor 317 = .ok (.iload_n 2, 1) := by decide +kernel
theorem dX7_functor_318 : decode cX7_functor 318 = .ok (.iastore, 1) := by decide +kernel
theorem dX7_functor_319 : decode cX7_functor 319 = .ok (.aload_n 0, 1) := by decide +kernel
theorem dX7_functor_320 : decode cX7_functor 320 = .ok (.getfield 83, 3) := by decide +kernel
theorem dX7_functor_323 : decode cX7_functor 323 = .ok (.aload_n 0, 1) := by decide +kernel
theorem dX7_functor_324 : decode cX7_functor 324 = .ok (.getfield 286, 3) := by decide +kernel
theorem dX7_functor_327 : decode cX7_functor 327 = .ok (.iload_n 3, 1) := by decide +kernel
theorem dX7_functor_328 : decode cX7_functor 328 = .ok (.bastore, 1) := by decide +kernel
theorem dX7_functor_329 : decode cX7_functor 329 = .ok (.aload_n 0, 1) := by decide +kernel
theorem dX7_functor_330 : decode cX7_functor 330 = .ok (.dup, 1) := by decide +kernel
theorem dX7_functor_331 : decode cX7_functor 331 = .ok (.getfield 286, 3) := by decide +kernel
theorem dX7_functor_334 : decode cX7_functor 334 = .ok (.iconst 1, 1) := by decide +kernel
theorem dX7_functor_335 : decode cX7_functor 335 = .ok (.iadd, 1) := by decide +kernel
theorem dX7_functor_336 : decode cX7_functor 336 = .ok (.putfield 286, 3) := by decide +kernel
theorem dX7_functor_339 : decode cX7_functor 339 = .ok (.aload_n 0, 1) := by decide +kernel
theorem dX7_functor_340 : decode cX7_functor 340 = .ok (.getfield 286, 3) := by decide +kernel
theorem dX7_functor_343 : decode cX7_functor 343 = .ok (.iconst 1, 1) := by decide +kernel
theorem dX7_functor_344 : decode cX7_functor 344 = .ok (.isub, 1) := by decide +kernel
theorem dX7_functor_345 : decode cX7_functor 345 = .ok (.ireturn, 1) := by decide +kernel
theorem dX7_cut_0 : decode cX7_cut 0 = .ok (.iload_n 0, 1) := by decide +kernel
theorem dX7_cut_1 : decode cX7_cut 1 = .ok (.sipush 10000, 3) := by decide +kernel
theorem dX7_cut_4 : decode cX7_cut 4 = .ok (.if_icmp .le 9, 3) := by decide +kernel
theorem dX7_cut_7 : decode cX7_cut 7 = .ok (.sipush 10000, 3) := by decide +kernel
theorem dX7_cut_10 : decode cX7_cut 10 = .ok (.goto 17, 3) := by decide +kernel
theorem dX7_cut_13 : decode cX7_cut 13 = .ok (.iload_n 0, 1) := by decide +kernel
theorem dX7_cut_14 : decode cX7_cut 14 = .ok (.sipush (-10000), 3) := by decide +kernel
theorem dX7_cut_17 : decode cX7_cut 17 = .ok (.if_icmp .ge 9, 3) := by decide +kernel
theorem dX7_cut_20 : decode cX7_cut 20 = .ok (.sipush (-10000), 3) := by decide +kernel
theorem dX7_cut_23 : decode cX7_cut 23 = .ok (.goto 4, 3) := by decide +kernel
theorem dX7_cut_26 : decode cX7_cut 26 = .ok (.iload_n 0, 1) := by decide +kernel
theorem dX7_cut_27 : decode cX7_cut 27 = .ok (.ireturn, 1) := by decide +kernel
theorem dX7_gives_0 : decode cX7_gives 0 = .ok (.aload_n 0, 1) := by decide +kernel
theorem dX7_gives_1 : decode cX7_gives 1 = .ok (.getfield 23, 3) := by decide +kernel
theorem dX7_gives_4 : decode cX7_gives 4 = .ok (.aload_n 0, 1) := by decide +kernel
theorem dX7_gives_5 : decode cX7_gives 5 = .ok (.getfield 198, 3) := by decide +kernel
theorem dX7_gives_8 : decode cX7_gives 8 = .ok (.iconst 0, 1) := by decide +kernel
theorem dX7_gives_9 : decode cX7_gives 9 = .ok (.iastore, 1) := by decide +kernel
theorem dX7_gives_10 : decode cX7_gives 10 = .ok (.bipush 20, 2) := by decide +kernel
theorem dX7_gives_12 : decode cX7_gives 12 = .ok (.iload_n 1, 1) := by decide +kernel
theorem dX7_gives_13 : decode cX7_gives 13 = .ok (.imul, 1) := by decide +kernel
theorem dX7_gives_14 : decode cX7_gives 14 = .ok (.istore_n 3, 1) := by decide +kernel
theorem dX7_gives_15 : decode cX7_gives 15 = .ok (.iload_n 3, 1) := by decide +kernel
theorem dX7_gives_16 : decode cX7_gives 16 = .ok (.bipush 20, 2) := by decide +kernel
theorem dX7_gives_18 : decode cX7_gives 18 = .ok (.iload_n 1, 1) := by decide +kernel
theorem dX7_gives_19 : decode cX7_gives 19 = .ok (.imul, 1) := by decide +kernel
theorem dX7_gives_20 : decode cX7_gives 20 = .ok (.aload_n 0, 1) := by decide +kernel
theorem dX7_gives_21 : decode cX7_gives 21 = .ok (.getfield 56, 3) := by decide +kernel
theorem dX7_gives_24 : decode cX7_gives 24 = .ok (.iload_n 1, 1) := by decide +kernel
theorem dX7_gives_25 : decode cX7_gives 25 = .ok (.iaload, 1) := by decide +kernel
theorem dX7_gives_26 : decode cX7_gives 26 = .ok (.iadd, 1) := by decide +kernel
theorem dX7_gives_27 : decode cX7_gives 27 = .ok (.if_icmp .ge 191, 3) := by decide +kernel
theorem dX7_gives_30 : decode cX7_gives 30 = .ok (.aload_n 0, 1) := by decide +kernel
theorem dX7_gives_31 : decode cX7_gives 31 = .ok (.getfield 71, 3) := by decide +kernel
theorem dX7_gives_34 : decode cX7_gives 34 = .ok (.iload_n 3, 1) := by decide +kernel
theorem dX7_gives_35 : decode cX7_gives 35 = .ok (.iaload, 1) := by decide +kernel
theorem dX7_gives_36 : decode cX7_gives 36 = .ok (.iconst (-1), 1) := by decide +kernel
theorem dX7_gives_37 : decode cX7_gives 37 = .ok (.if_icmp .ne 7, 3) := by decide +kernel
theorem dX7_gives_40 : decode cX7_gives 40 = .ok (.iconst (-1), 1) := by decide +kernel
theorem dX7_gives_41 : decode cX7_gives 41 = .ok (.goto 20, 3) := by decide +kernel
theorem dX7_gives_44 : decode cX7_gives 44 = .ok (.aload_n 0, 1) := by decide +kernel
theorem dX7_gives_45 : decode cX7_gives 45 = .ok (.iload_n 2, 1) := by decide +kernel
theorem dX7_gives_46 : decode cX7_gives 46 = .ok (.aload_n 0, 1) := by decide +kernel
theorem dX7_gives_47 : decode cX7_gives 47 = .ok (.getfield 59, 3) := by decide +kernel
theorem dX7_gives_50 : decode cX7_gives 50 = .ok (.iload_n 3, 1) := by decide +kernel
theorem dX7_gives_51 : decode cX7_gives 51 = .ok (.iaload, 1) := by decide +kernel
theorem dX7_gives_52 : decode cX7_gives 52 = .ok (.aload_n 0, 1) := by decide +kernel
theorem dX7_gives_53 : decode cX7_gives 53 = .ok (.getfield 71, 3) := by decide +kernel
theorem dX7_gives_56 : decode cX7_gives 56 = .ok (.iload_n 3, 1) := by decide +kernel
theorem dX7_gives_57 : decode cX7_gives 57 = .ok (.iaload, 1) := by decide +kernel
theorem dX7_gives_58 : decode cX7_gives 58 = .ok (.invokevirtual 181, 3) := by decide +kernel
theorem dX7_gives_61 : decode cX7_gives 61 = .ok (.istore 4, 2) := by decide +kernel
theorem dX7_gives_63 : decode cX7_gives 63 = .ok (.aload_n 0, 1) := by decide +kernel
theorem dX7_gives_64 : decode cX7_gives 64 = .ok (.getfield 59, 3) := by decide +kernel
theorem dX7_gives_67 : decode cX7_gives 67 = .ok (.iload_n 3, 1) := by decide +kernel
theorem dX7_gives_68 : decode cX7_gives 68 = .ok (.iaload, 1) := by decide +kernel
theorem dX7_gives_69 : decode cX7_gives 69 = .ok (.ifCond .ne 45, 3) := by decide +kernel
theorem dX7_gives_72 : decode cX7_gives 72 = .ok (.aload_n 0, 1) := by decide +kernel
theorem dX7_gives_73 : decode cX7_gives 73 = .ok (.aload_n 0, 1) := by decide +kernel
theorem dX7_gives_74 : decode cX7_gives 74 = .ok (.getfield 198, 3) := by decide +kernel
theorem dX7_gives_77 : decode cX7_gives 77 = .ok (.iconst 0, 1) := by decide +kernel
theorem dX7_gives_78 : decode cX7_gives 78 = .ok (.aload_n 0, 1) := by decide +kernel
theorem dX7_gives_79 : decode cX7_gives 79 = .ok (.getfield 62, 3) := by decide +kernel
theorem dX7_gives_82 : decode cX7_gives 82 = .ok (.iload_n 3, 1) := by decide +kernel
theorem dX7_gives_83 : decode cX7_gives 83 = .ok (.iaload, 1) := by decide +kernel
theorem dX7_gives_84 : decode cX7_gives 84 = .ok (.iload 4, 2) := by decide +kernel
theorem dX7_gives_86 : decode cX7_gives 86 = .ok (.iconst (-1), 1) := by decide +kernel
theorem dX7_gives_87 : decode cX7_gives 87 = .ok (.if_icmp .ne 13, 3) := by decide +kernel
theorem dX7_gives_90 : decode cX7_gives 90 = .ok (.aload_n 0, 1) := by decide +kernel
theorem dX7_gives_91 : decode cX7_gives 91 = .ok (.iconst 1, 1) := by decide +kernel
theorem dX7_gives_92 : decode cX7_gives 92 = .ok (.iconst (-1), 1) := by decide +kernel
theorem dX7_gives_93 : decode cX7_gives 93 = .ok (.iconst (-1), 1) := by decide +kernel
theorem dX7_gives_94 : decode cX7_gives 94 = .ok (.invokevirtual 167, 3) := by decide +kernel
theorem dX7_gives_97 : decode cX7_gives 97 = .ok (.goto 10, 3) := by decide +kernel
theorem dX7_gives_100 : decode cX7_gives 100 = .ok (.aload_n 0, 1) := by decide +kernel
theorem dX7_gives_101 : decode cX7_gives 101 = .ok (.getfield 32, 3) := by decide +kernel
theorem dX7_gives_104 : decode cX7_gives 104 = .ok (.iload 4, 2) := by decide +kernel
theorem dX7_gives_106 : decode cX7_gives 106 = .ok (.iaload, 1) := by decide +kernel
theorem dX7_gives_107 : decode cX7_gives 107 = .ok (.iconst 0, 1) := by decide +kernel
theorem dX7_gives_108 : decode cX7_gives 108 = .ok (.invokevirtual 184, 3) := by decide +kernel
theorem dX7_gives_111 : decode cX7_gives 111 = .ok (.goto 101, 3) := by decide +kernel
theorem dX7_gives_114 : decode cX7_gives 114 = .ok (.aload_n 0, 1) := by decide +kernel
theorem dX7_gives_115 : decode cX7_gives 115 = .ok (.aload_n 0, 1) := by decide +kernel
theorem dX7_gives_116 : decode cX7_gives 116 = .ok (.getfield 198, 3) := by decide +kernel
theorem dX7_gives_119 : decode cX7_gives 119 = .ok (.aload_n 0, 1) := by decide +kernel
theorem dX7_gives_120 : decode cX7_gives 120 = .ok (.getfield 65, 3) := by decide +kernel
theorem dX7_gives_123 : decode cX7_gives 123 = .ok (.iload_n 3, 1) := by decide +kernel
theorem dX7_gives_124 : decode cX7_gives 124 = .ok (.iaload, 1) := by decide +kernel
theorem dX7_gives_125 : decode cX7_gives 125 = .ok (.invokevirtual 224, 3) := by decide +kernel
theorem dX7_gives_128 : decode cX7_gives 128 = .ok (.istore 5, 2) := by decide +kernel
theorem dX7_gives_130 : decode cX7_gives 130 = .ok (.aload_n 0, 1) := by decide +kernel
theorem dX7_gives_131 : decode cX7_gives 131 = .ok (.getfield 68, 3) := by decide +kernel
theorem dX7_gives_134 : decode cX7_gives 134 = .ok (.iload_n 3, 1) := by decide +kernel
theorem dX7_gives_135 : decode cX7_gives 135 = .ok (.iaload, 1) := by decide +kernel
theorem dX7_gives_136 : decode cX7_gives 136 = .ok (.bipush (-100), 2) := by decide +kernel
theorem dX7_gives_138 : decode cX7_gives 138 = .ok (.if_icmp .ne 8, 3) := by decide +kernel
theorem dX7_gives_141 : decode cX7_gives 141 = .ok (.iload 5, 2) := by decide +kernel
theorem dX7_gives_143 : decode cX7_gives 143 = .ok (.goto 23, 3) := by decide +kernel
theorem dX7_gives_146 : decode cX7_gives 146 = .ok (.aload_n 0, 1) := by decide +kernel
theorem dX7_gives_147 : decode cX7_gives 147 = .ok (.iload 5, 2) := by decide +kernel
theorem dX7_gives_149 : decode cX7_gives 149 = .ok (.aload_n 0, 1) := by decide +kernel
theorem dX7_gives_150 : decode cX7_gives 150 = .ok (.aload_n 0, 1) := by decide +kernel
theorem dX7_gives_151 : decode cX7_gives 151 = .ok (.getfield 198, 3) := by decide +kernel
theorem dX7_gives_154 : decode cX7_gives 154 = .ok (.aload_n 0, 1) := by decide +kernel
theorem dX7_gives_155 : decode cX7_gives 155 = .ok (.getfield 68, 3) := by decide +kernel
theorem dX7_gives_158 : decode cX7_gives 158 = .ok (.iload_n 3, 1) := by decide +kernel
theorem dX7_gives_159 : decode cX7_gives 159 = .ok (.iaload, 1) := by decide +kernel
theorem dX7_gives_160 : decode cX7_gives 160 = .ok (.invokevirtual 224, 3) := by decide +kernel
theorem dX7_gives_163 : decode cX7_gives 163 = .ok (.invokevirtual 178, 3) := by decide +kernel
theorem dX7_gives_166 : decode cX7_gives 166 = .ok (.istore 5, 2) := by decide +kernel
theorem dX7_gives_168 : decode cX7_gives 168 = .ok (.aload_n 0, 1) := by decide +kernel
theorem dX7_gives_169 : decode cX7_gives 169 = .ok (.aload_n 0, 1) := by decide +kernel
theorem dX7_gives_170 : decode cX7_gives 170 = .ok (.getfield 198, 3) := by decide +kernel
theorem dX7_gives_173 : decode cX7_gives 173 = .ok (.iconst 1, 1) := by decide +kernel
theorem dX7_gives_174 : decode cX7_gives 174 = .ok (.aload_n 0, 1) := by decide +kernel
theorem dX7_gives_175 : decode cX7_gives 175 = .ok (.getfield 62, 3) := by decide +kernel
theorem dX7_gives_178 : decode cX7_gives 178 = .ok (.iload_n 3, 1) := by decide +kernel
theorem dX7_gives_179 : decode cX7_gives 179 = .ok (.iaload, 1) := by decide +kernel
theorem dX7_gives_180 : decode cX7_gives 180 = .ok (.iload 5, 2) := by decide +kernel
theorem dX7_gives_182 : decode cX7_gives 182 = .ok (.aload_n 0, 1) := by decide +kernel
theorem dX7_gives_183 : decode cX7_gives 183 = .ok (.getfield 74, 3) := by decide +kernel
theorem dX7_gives_186 : decode cX7_gives 186 = .ok (.iload_n 3, 1) := by decide +kernel
theorem dX7_gives_187 : decode cX7_gives 187 = .ok (.iaload, 1) := by decide +kernel
theorem dX7_gives_188 : decode cX7_gives 188 = .ok (.iload 4, 2) := by decide +kernel
theorem dX7_gives_190 : decode cX7_gives 190 = .ok (.iconst (-1), 1) := by decide +kernel
theorem dX7_gives_191 : decode cX7_gives 191 = .ok (.if_icmp .ne 7, 3) := by decide +kernel
theorem dX7_gives_194 : decode cX7_gives 194 = .ok (.iconst 0, 1) := by decide +kernel
theorem dX7_gives_195 : decode cX7_gives 195 = .ok (.goto 10, 3) := by decide +kernel
theorem dX7_gives_198 : decode cX7_gives 198 = .ok (.aload_n 0, 1) := by decide +kernel
theorem dX7_gives_199 : decode cX7_gives 199 = .ok (.getfield 35, 3) := by decide +kernel
theorem dX7_gives_202 : decode cX7_gives 202 = .ok (.iload 4, 2) := by decide +kernel
theorem dX7_gives_204 : decode cX7_gives 204 = .ok (.iaload, 1) := by decide +kernel
theorem dX7_gives_205 : decode cX7_gives 205 = .ok (.iadd, 1) := by decide +kernel
theorem dX7_gives_206 : decode cX7_gives 206 = .ok (.invokestatic 289, 3) := by decide +kernel
theorem dX7_gives_209 : decode cX7_gives 209 = .ok (.invokevirtual 184, 3) := by decide +kernel
theorem dX7_gives_212 : decode cX7_gives 212 = .ok (.iinc 3 1, 3) := by decide +kernel
theorem dX7_gives_215 : decode cX7_gives 215 = .ok (.goto (-200), 3) := by decide +kernel
theorem dX7_gives_218 : decode cX7_gives 218 = .ok (.aload_n 0, 1) := by decide +kernel
theorem dX7_gives_219 : decode cX7_gives 219 = .ok (.dup, 1) := by decide +kernel
theorem dX7_gives_220 : decode cX7_gives 220 = .ok (.getfield 198, 3) := by decide +kernel
theorem dX7_gives_223 : decode cX7_gives 223 = .ok (.iconst 1, 1) := by decide +kernel
theorem dX7_gives_224 : decode cX7_gives 224 = .ok (.iadd, 1) := by decide +kernel
theorem dX7_gives_225 : decode cX7_gives 225 = .ok (.putfield 198, 3) := by decide +kernel
theorem dX7_gives_228 : decode cX7_gives 228 = .ok (.aload_n 0, 1) := by decide +kernel
theorem dX7_gives_229 : decode cX7_gives 229 = .ok (.getfield 198, 3) := by decide +kernel
theorem dX7_gives_232 : decode cX7_gives 232 = .ok (.iconst 1, 1) := by decide +kernel
theorem dX7_gives_233 : decode cX7_gives 233 = .ok (.isub, 1) := by decide +kernel
theorem dX7_gives_234 : decode cX7_gives 234 = .ok (.ireturn, 1) := by decide +kernel
theorem dX7_apply_0 : decode cX7_apply 0 = .ok (.iload_n 1, 1) := by decide +kernel
theorem dX7_apply_1 : decode cX7_apply 1 = .ok (.iconst 0, 1) := by decide +kernel
theorem dX7_apply_2 : decode cX7_apply 2 = .ok (.aload_n 0, 1) := by decide +kernel
theorem dX7_apply_3 : decode cX7_apply 3 = .ok (.getfield 286, 3) := by decide +kernel
theorem dX7_apply_6 : decode cX7_apply 6 = .ok (.iconst 1, 1) := by decide +kernel
theorem dX7_apply_7 : decode cX7_apply 7 = .ok (.isub, 1) := by decide +kernel
theorem dX7_apply_8 : decode cX7_apply 8 = .ok (.invokestatic 159, 3) := by decide +kernel
theorem dX7_apply_11 : decode cX7_apply 11 = .ok (.ifCond .eq 15, 3) := by decide +kernel
theorem dX7_apply_14 : decode cX7_apply 14 = .ok (.aload_n 0, 1) := by decide +kernel
theorem dX7_apply_15 : decode cX7_apply 15 = .ok (.iload_n 2, 1) := by decide +kernel
theorem dX7_apply_16 : decode cX7_apply 16 = .ok (.invokevirtual 201, 3) := by decide +kernel
theorem dX7_apply_19 : decode cX7_apply 19 = .ok (.ifCond .eq 7, 3) := by decide +kernel
theorem dX7_apply_22 : decode cX7_apply 22 = .ok (.iconst 1, 1) := by decide +kernel
theorem dX7_apply_23 : decode cX7_apply 23 = .ok (.goto 4, 3) := by decide +kernel
theorem dX7_apply_26 : decode cX7_apply 26 = .ok (.iconst 0, 1) := by decide +kernel
theorem dX7_apply_27 : decode cX7_apply 27 = .ok (.istore_n 3, 1) := by decide +kernel
theorem dX7_apply_28 : decode cX7_apply 28 = .ok (.iload_n 3, 1) := by decide +kernel
theorem dX7_apply_29 : decode cX7_apply 29 = .ok (.ifCond .eq 12, 3) := by decide +kernel
theorem dX7_apply_32 : decode cX7_apply 32 = .ok (.bipush 30, 2) := by decide +kernel
theorem dX7_apply_34 : decode cX7_apply 34 = .ok (.iload_n 1, 1) := by decide +kernel
theorem dX7_apply_35 : decode cX7_apply 35 = .ok (.imul, 1) := by decide +kernel
theorem dX7_apply_36 : decode cX7_apply 36 = .ok (.iload_n 2, 1) := by decide +kernel
theorem dX7_apply_37 : decode cX7_apply 37 = .ok (.iadd, 1) := by decide +kernel
theorem dX7_apply_38 : decode cX7_apply 38 = .ok (.goto 4, 3) := by decide +kernel
theorem dX7_apply_41 : decode cX7_apply 41 = .ok (.iconst 0, 1) := by decide +kernel
theorem dX7_apply_42 : decode cX7_apply 42 = .ok (.istore 4, 2) := by decide +kernel
theorem dX7_apply_44 : decode cX7_apply 44 = .ok (.iload_n 3, 1) := by decide +kernel
theorem dX7_apply_45 : decode cX7_apply 45 = .ok (.ifCond .eq 36, 3) := by decide +kernel
theorem dX7_apply_48 : decode cX7_apply 48 = .ok (.aload_n 0, 1) := by decide +kernel
theorem dX7_apply_49 : decode cX7_apply 49 = .ok (.getfield 83, 3) := by decide +kernel
theorem dX7_apply_52 : decode cX7_apply 52 = .ok (.iload_n 1, 1) := by decide +kernel
theorem dX7_apply_53 : decode cX7_apply 53 = .ok (.baload, 1) := by decide +kernel
theorem dX7_apply_54 : decode cX7_apply 54 = .ok (.ifCond .eq 27, 3) := by decide +kernel
theorem dX7_apply_57 : decode cX7_apply 57 = .ok (.aload_n 0, 1) := by decide +kernel
theorem dX7_apply_58 : decode cX7_apply 58 = .ok (.getfield 87, 3) := by decide +kernel
theorem dX7_apply_61 : decode cX7_apply 61 = .ok (.iload 4, 2) := by decide +kernel
theorem dX7_apply_63 : decode cX7_apply 63 = .ok (.iaload, 1) := by decide +kernel
theorem dX7_apply_64 : decode cX7_apply 64 = .ok (.iconst (-1), 1) := by decide +kernel
theorem dX7_apply_65 : decode cX7_apply 65 = .ok (.if_icmp .eq 16, 3) := by decide +kernel
theorem dX7_apply_68 : decode cX7_apply 68 = .ok (.aload_n 0, 1) := by decide +kernel
theorem dX7_apply_69 : decode cX7_apply 69 = .ok (.iconst 0, 1) := by decide +kernel
theorem dX7_apply_70 : decode cX7_apply 70 = .ok (.putfield 156, 3) := by decide +kernel
theorem dX7_apply_73 : decode cX7_apply 73 = .ok (.aload_n 0, 1) := by decide +kernel
theorem dX7_apply_74 : decode cX7_apply 74 = .ok (.getfield 87, 3) := by decide +kernel
theorem dX7_apply_77 : decode cX7_apply 77 = .ok (.iload 4, 2) := by decide +kernel
theorem dX7_apply_79 : decode cX7_apply 79 = .ok (.iaload, 1) := by decide +kernel
theorem dX7_apply_80 : decode cX7_apply 80 = .ok (.ireturn, 1) := by decide +kernel
theorem dX7_apply_81 : decode cX7_apply 81 = .ok (.aload_n 0, 1) := by decide +kernel
theorem dX7_apply_82 : decode cX7_apply 82 = .ok (.getfield 7, 3) := by decide +kernel
theorem dX7_apply_85 : decode cX7_apply 85 = .ok (.istore 5, 2) := by decide +kernel
theorem dX7_apply_87 : decode cX7_apply 87 = .ok (.aload_n 0, 1) := by decide +kernel
theorem dX7_apply_88 : decode cX7_apply 88 = .ok (.getfield 198, 3) := by decide +kernel
theorem dX7_apply_91 : decode cX7_apply 91 = .ok (.istore 6, 2) := by decide +kernel
theorem dX7_apply_93 : decode cX7_apply 93 = .ok (.iload_n 3, 1) := by decide +kernel
theorem dX7_apply_94 : decode cX7_apply 94 = .ok (.ifCond .eq 21, 3) := by decide +kernel
theorem dX7_apply_97 : decode cX7_apply 97 = .ok (.aload_n 0, 1) := by decide +kernel
theorem dX7_apply_98 : decode cX7_apply 98 = .ok (.iload_n 2, 1) := by decide +kernel
theorem dX7_apply_99 : decode cX7_apply 99 = .ok (.aload_n 0, 1) := by decide +kernel
theorem dX7_apply_100 : decode cX7_apply 100 = .ok (.getfield 77, 3) := by decide +kernel
theorem dX7_apply_103 : decode cX7_apply 103 = .ok (.iload_n 1, 1) := by decide +kernel
theorem dX7_apply_104 : decode cX7_apply 104 = .ok (.iaload, 1) := by decide +kernel
theorem dX7_apply_105 : decode cX7_apply 105 = .ok (.invokevirtual 233, 3) := by decide +kernel
theorem dX7_apply_108 : decode cX7_apply 108 = .ok (.ifCond .ne 7, 3) := by decide +kernel
theorem dX7_apply_111 : decode cX7_apply 111 = .ok (.iconst 1, 1) := by decide +kernel
theorem dX7_apply_112 : decode cX7_apply 112 = .ok (.goto 4, 3) := by decide +kernel
theorem dX7_apply_115 : decode cX7_apply 115 = .ok (.iconst 0, 1) := by decide +kernel
theorem dX7_apply_116 : decode cX7_apply 116 = .ok (.istore 7, 2) := by decide +kernel
theorem dX7_apply_118 : decode cX7_apply 118 = .ok (.iload 7, 2) := by decide +kernel
theorem dX7_apply_120 : decode cX7_apply 120 = .ok (.ifCond .eq 12, 3) := by decide +kernel
theorem dX7_apply_123 : decode cX7_apply 123 = .ok (.aload_n 0, 1) := by decide +kernel
theorem dX7_apply_124 : decode cX7_apply 124 = .ok (.iload_n 1, 1) := by decide +kernel
theorem dX7_apply_125 : decode cX7_apply 125 = .ok (.iload_n 2, 1) := by decide +kernel
theorem dX7_apply_126 : decode cX7_apply 126 = .ok (.invokevirtual 292, 3) := by decide +kernel
theorem dX7_apply_129 : decode cX7_apply 129 = .ok (.goto 4, 3) := by decide +kernel
theorem dX7_apply_132 : decode cX7_apply 132 = .ok (.iconst (-1), 1) := by decide +kernel
theorem dX7_apply_133 : decode cX7_apply 133 = .ok (.istore 8, 2) := by decide +kernel
theorem dX7_apply_135 : decode cX7_apply 135 = .ok (.iload 7, 2) := by decide +kernel
theorem dX7_apply_137 : decode cX7_apply 137 = .ok (.ifCond .eq 59, 3) := by decide +kernel
theorem dX7_apply_140 : decode cX7_apply 140 = .ok (.aload_n 0, 1) := by decide +kernel
theorem dX7_apply_141 : decode cX7_apply 141 = .ok (.getfield 80, 3) := by decide +kernel
theorem dX7_apply_144 : decode cX7_apply 144 = .ok (.iload_n 1, 1) := by decide +kernel
theorem dX7_apply_145 : decode cX7_apply 145 = .ok (.iaload, 1) := by decide +kernel
theorem dX7_apply_146 : decode cX7_apply 146 = .ok (.iconst (-1), 1) := by decide +kernel
theorem dX7_apply_147 : decode cX7_apply 147 = .ok (.if_icmp .eq 49, 3) := by decide +kernel
theorem dX7_apply_150 : decode cX7_apply 150 = .ok (.aload_n 0, 1) := by decide +kernel
theorem dX7_apply_151 : decode cX7_apply 151 = .ok (.iload 8, 2) := by decide +kernel
theorem dX7_apply_153 : decode cX7_apply 153 = .ok (.aload_n 0, 1) := by decide +kernel
theorem dX7_apply_154 : decode cX7_apply 154 = .ok (.getfield 80, 3) := by decide +kernel
theorem dX7_apply_157 : decode cX7_apply 157 = .ok (.iload_n 1, 1) := by decide +kernel
theorem dX7_apply_158 : decode cX7_apply 158 = .ok (.iaload, 1) := by decide +kernel
theorem dX7_apply_159 : decode cX7_apply 159 = .ok (.invokevirtual 233, 3) := by decide +kernel
theorem dX7_apply_162 : decode cX7_apply 162 = .ok (.ifCond .ne 7, 3) := by decide +kernel
theorem dX7_apply_165 : decode cX7_apply 165 = .ok (.iconst 1, 1) := by decide +kernel
theorem dX7_apply_166 : decode cX7_apply 166 = .ok (.goto 4, 3) := by decide +kernel
theorem dX7_apply_169 : decode cX7_apply 169 = .ok (.iconst 0, 1) := by decide +kernel
theorem dX7_apply_170 : decode cX7_apply 170 = .ok (.istore 7, 2) := by decide +kernel
theorem dX7_apply_172 : decode cX7_apply 172 = .ok (.iload 7, 2) := by decide +kernel
theorem dX7_apply_174 : decode cX7_apply 174 = .ok (.ifCond .eq 19, 3) := by decide +kernel
theorem dX7_apply_177 : decode cX7_apply 177 = .ok (.aload_n 0, 1) := by decide +kernel
theorem dX7_apply_178 : decode cX7_apply 178 = .ok (.iconst 0, 1) := by decide +kernel
theorem dX7_apply_179 : decode cX7_apply 179 = .ok (.iload 8, 2) := by decide +kernel
theorem dX7_apply_181 : decode cX7_apply 181 = .ok (.aload_n 0, 1) := by decide +kernel
theorem dX7_apply_182 : decode cX7_apply 182 = .ok (.getfield 80, 3) := by decide +kernel
theorem dX7_apply_185 : decode cX7_apply 185 = .ok (.iload_n 1, 1) := by decide +kernel
theorem dX7_apply_186 : decode cX7_apply 186 = .ok (.iaload, 1) := by decide +kernel
theorem dX7_apply_187 : decode cX7_apply 187 = .ok (.invokevirtual 260, 3) := by decide +kernel
theorem dX7_apply_190 : decode cX7_apply 190 = .ok (.goto 4, 3) := by decide +kernel
theorem dX7_apply_193 : decode cX7_apply 193 = .ok (.iconst (-1), 1) := by decide +kernel
theorem dX7_apply_194 : decode cX7_apply 194 = .ok (.istore 8, 2) := by decide +kernel
theorem dX7_apply_196 : decode cX7_apply 196 = .ok (.iload 7, 2) := by decide +kernel
theorem dX7_apply_198 : decode cX7_apply 198 = .ok (.ifCond .eq 26, 3) := by decide +kernel
theorem dX7_apply_201 : decode cX7_apply 201 = .ok (.aload_n 0, 1) := by decide +kernel
theorem dX7_apply_202 : decode cX7_apply 202 = .ok (.getfield 7, 3) := by decide +kernel
theorem dX7_apply_205 : decode cX7_apply 205 = .ok (.sipush 200, 3) := by decide +kernel
theorem dX7_apply_208 : decode cX7_apply 208 = .ok (.if_icmp .gt 16, 3) := by decide +kernel
theorem dX7_apply_211 : decode cX7_apply 211 = .ok (.aload_n 0, 1) := by decide +kernel
theorem dX7_apply_212 : decode cX7_apply 212 = .ok (.getfield 198, 3) := by decide +kernel
theorem dX7_apply_215 : decode cX7_apply 215 = .ok (.bipush 30, 2) := by decide +kernel
theorem dX7_apply_217 : decode cX7_apply 217 = .ok (.if_icmp .gt 7, 3) := by decide +kernel
theorem dX7_apply_220 : decode cX7_apply 220 = .ok (.iconst 1, 1) := by decide +kernel
theorem dX7_apply_221 : decode cX7_apply 221 = .ok (.goto 4, 3) := by decide +kernel
theorem dX7_apply_224 : decode cX7_apply 224 = .ok (.iconst 0, 1) := by decide +kernel
theorem dX7_apply_225 : decode cX7_apply 225 = .ok (.istore 7, 2) := by decide +kernel
theorem dX7_apply_227 : decode cX7_apply 227 = .ok (.aload_n 0, 1) := by decide +kernel
theorem dX7_apply_228 : decode cX7_apply 228 = .ok (.iload 7, 2) := by decide +kernel
theorem dX7_apply_230 : decode cX7_apply 230 = .ok (.ifCond .eq 10, 3) := by decide +kernel
theorem dX7_apply_233 : decode cX7_apply 233 = .ok (.aload_n 0, 1) := by decide +kernel
theorem dX7_apply_234 : decode cX7_apply 234 = .ok (.getfield 7, 3) := by decide +kernel
theorem dX7_apply_237 : decode cX7_apply 237 = .ok (.goto 5, 3) := by decide +kernel
theorem dX7_apply_240 : decode cX7_apply 240 = .ok (.iload 5, 2) := by decide +kernel
theorem dX7_apply_242 : decode cX7_apply 242 = .ok (.putfield 7, 3) := by decide +kernel
theorem dX7_apply_245 : decode cX7_apply 245 = .ok (.aload_n 0, 1) := by decide +kernel
theorem dX7_apply_246 : decode cX7_apply 246 = .ok (.iload 7, 2) := by decide +kernel
theorem dX7_apply_248 : decode cX7_apply 248 = .ok (.ifCond .eq 10, 3) := by decide +kernel
theorem dX7_apply_251 : decode cX7_apply 251 = .ok (.aload_n 0, 1) := by decide +kernel
theorem dX7_apply_252 : decode cX7_apply 252 = .ok (.getfield 198, 3) := by decide +kernel
theorem dX7_apply_255 : decode cX7_apply 255 = .ok (.goto 5, 3) := by decide +kernel
theorem dX7_apply_258 : decode cX7_apply 258 = .ok (.iload 6, 2) := by decide +kernel
theorem dX7_apply_260 : decode cX7_apply 260 = .ok (.putfield 198, 3) := by decide +kernel
theorem dX7_apply_263 : decode cX7_apply 263 = .ok (.aload_n 0, 1) := by decide +kernel
theorem dX7_apply_264 : decode cX7_apply 264 = .ok (.iload_n 3, 1) := by decide +kernel
theorem dX7_apply_265 : decode cX7_apply 265 = .ok (.ifCond .ne 7, 3) := by decide +kernel
theorem dX7_apply_268 : decode cX7_apply 268 = .ok (.iconst 1, 1) := by decide +kernel
theorem dX7_apply_269 : decode cX7_apply 269 = .ok (.goto 13, 3) := by decide +kernel
theorem dX7_apply_272 : decode cX7_apply 272 = .ok (.iload 7, 2) := by decide +kernel
theorem dX7_apply_274 : decode cX7_apply 274 = .ok (.ifCond .eq 7, 3) := by decide +kernel
theorem dX7_apply_277 : decode cX7_apply 277 = .ok (.iconst 0, 1) := by decide +kernel
theorem dX7_apply_278 : decode cX7_apply 278 = .ok (.goto 4, 3) := by decide +kernel
theorem dX7_apply_281 : decode cX7_apply 281 = .ok (.iconst 2, 1) := by decide +kernel
theorem dX7_apply_282 : decode cX7_apply 282 = .ok (.invokevirtual 175, 3) := by decide +kernel
theorem dX7_apply_285 : decode cX7_apply 285 = .ok (.ifCond .eq 5, 3) := by decide +kernel
theorem dX7_apply_288 : decode cX7_apply 288 = .ok (.iconst 0, 1) := by decide +kernel
theorem dX7_apply_289 : decode cX7_apply 289 = .ok (.ireturn, 1) := by decide +kernel
theorem dX7_apply_290 : decode cX7_apply 290 = .ok (.aload_n 0, 1) := by decide +kernel
theorem dX7_apply_291 : decode cX7_apply 291 = .ok (.getfield 87, 3) := by decide +kernel
theorem dX7_apply_294 : decode cX7_apply 294 = .ok (.iload 4, 2) := by decide +kernel
theorem dX7_apply_296 : decode cX7_apply 296 = .ok (.iload 8, 2) := by decide +kernel
theorem dX7_apply_298 : decode cX7_apply 298 = .ok (.iastore, 1) := by decide +kernel
theorem dX7_apply_299 : decode cX7_apply 299 = .ok (.iload 8, 2) := by decide +kernel
theorem dX7_apply_301 : decode cX7_apply 301 = .ok (.ireturn, 1) := by decide +kernel
theorem dX7_pack_0 : decode cX7_pack 0 = .ok (.aload_n 0, 1) := by decide +kernel
theorem dX7_pack_1 : decode cX7_pack 1 = .ok (.iload_n 1, 1) := by decide +kernel
theorem dX7_pack_2 : decode cX7_pack 2 = .ok (.invokevirtual 201, 3) := by decide +kernel
theorem dX7_pack_5 : decode cX7_pack 5 = .ok (.ifCond .eq 15, 3) := by decide +kernel
theorem dX7_pack_8 : decode cX7_pack 8 = .ok (.aload_n 0, 1) := by decide +kernel
theorem dX7_pack_9 : decode cX7_pack 9 = .ok (.iload_n 2, 1) := by decide +kernel
theorem dX7_pack_10 : decode cX7_pack 10 = .ok (.invokevirtual 217, 3) := by decide +kernel
theorem dX7_pack_13 : decode cX7_pack 13 = .ok (.ifCond .eq 7, 3) := by decide +kernel
theorem dX7_pack_16 : decode cX7_pack 16 = .ok (.iconst 1, 1) := by decide +kernel
theorem dX7_pack_17 : decode cX7_pack 17 = .ok (.goto 4, 3) := by decide +kernel
theorem dX7_pack_20 : decode cX7_pack 20 = .ok (.iconst 0, 1) := by decide +kernel
theorem dX7_pack_21 : decode cX7_pack 21 = .ok (.istore_n 3, 1) := by decide +kernel
theorem dX7_pack_22 : decode cX7_pack 22 = .ok (.aload_n 0, 1) := by decide +kernel
theorem dX7_pack_23 : decode cX7_pack 23 = .ok (.iload_n 3, 1) := by decide +kernel
theorem dX7_pack_24 : decode cX7_pack 24 = .ok (.ifCond .ne 7, 3) := by decide +kernel
theorem dX7_pack_27 : decode cX7_pack 27 = .ok (.iconst 1, 1) := by decide +kernel
theorem dX7_pack_28 : decode cX7_pack 28 = .ok (.goto 26, 3) := by decide +kernel
theorem dX7_pack_31 : decode cX7_pack 31 = .ok (.aload_n 0, 1) := by decide +kernel
theorem dX7_pack_32 : decode cX7_pack 32 = .ok (.getfield 295, 3) := by decide +kernel
theorem dX7_pack_35 : decode cX7_pack 35 = .ok (.bipush 10, 2) := by decide +kernel
theorem dX7_pack_37 : decode cX7_pack 37 = .ok (.if_icmp .eq 12, 3) := by decide +kernel
theorem dX7_pack_40 : decode cX7_pack 40 = .ok (.aload_n 0, 1) := by decide +kernel
theorem dX7_pack_41 : decode cX7_pack 41 = .ok (.iload_n 1, 1) := by decide +kernel
theorem dX7_pack_42 : decode cX7_pack 42 = .ok (.iload_n 2, 1) := by decide +kernel
theorem dX7_pack_43 : decode cX7_pack 43 = .ok (.invokevirtual 233, 3) := by decide +kernel
theorem dX7_pack_46 : decode cX7_pack 46 = .ok (.ifCond .eq 7, 3) := by decide +kernel
theorem dX7_pack_49 : decode cX7_pack 49 = .ok (.iconst 2, 1) := by decide +kernel
theorem dX7_pack_50 : decode cX7_pack 50 = .ok (.goto 4, 3) := by decide +kernel
theorem dX7_pack_53 : decode cX7_pack 53 = .ok (.iconst 0, 1) := by decide +kernel
theorem dX7_pack_54 : decode cX7_pack 54 = .ok (.invokevirtual 175, 3) := by decide +kernel
theorem dX7_pack_57 : decode cX7_pack 57 = .ok (.ifCond .eq 5, 3) := by decide +kernel
theorem dX7_pack_60 : decode cX7_pack 60 = .ok (.iconst 0, 1) := by decide +kernel
theorem dX7_pack_61 : decode cX7_pack 61 = .ok (.ireturn, 1) := by decide +kernel
theorem dX7_pack_62 : decode cX7_pack 62 = .ok (.aload_n 0, 1) := by decide +kernel
theorem dX7_pack_63 : decode cX7_pack 63 = .ok (.getfield 90, 3) := by decide +kernel
theorem dX7_pack_66 : decode cX7_pack 66 = .ok (.aload_n 0, 1) := by decide +kernel
theorem dX7_pack_67 : decode cX7_pack 67 = .ok (.getfield 295, 3) := by decide +kernel
theorem dX7_pack_70 : decode cX7_pack 70 = .ok (.iload_n 1, 1) := by decide +kernel
theorem dX7_pack_71 : decode cX7_pack 71 = .ok (.iastore, 1) := by decide +kernel
theorem dX7_pack_72 : decode cX7_pack 72 = .ok (.aload_n 0, 1) := by decide +kernel
theorem dX7_pack_73 : decode cX7_pack 73 = .ok (.getfield 93, 3) := by decide +kernel
theorem dX7_pack_76 : decode cX7_pack 76 = .ok (.aload_n 0, 1) := by decide +kernel
theorem dX7_pack_77 : decode cX7_pack 77 = .ok (.getfield 295, 3) := by decide +kernel
theorem dX7_pack_80 : decode cX7_pack 80 = .ok (.iload_n 2, 1) := by decide +kernel
theorem dX7_pack_81 : decode cX7_pack 81 = .ok (.iastore, 1) := by decide +kernel
theorem dX7_pack_82 : decode cX7_pack 82 = .ok (.aload_n 0, 1) := by decide +kernel
theorem dX7_pack_83 : decode cX7_pack 83 = .ok (.dup, 1) := by decide +kernel
theorem dX7_pack_84 : decode cX7_pack 84 = .ok (.getfield 295, 3) := by decide +kernel
theorem dX7_pack_87 : decode cX7_pack 87 = .ok (.iconst 1, 1) := by decide +kernel
theorem dX7_pack_88 : decode cX7_pack 88 = .ok (.iadd, 1) := by decide +kernel
theorem dX7_pack_89 : decode cX7_pack 89 = .ok (.putfield 295, 3) := by decide +kernel
theorem dX7_pack_92 : decode cX7_pack 92 = .ok (.aload_n 0, 1) := by decide +kernel
theorem dX7_pack_93 : decode cX7_pack 93 = .ok (.getfield 295, 3) := by decide +kernel
theorem dX7_pack_96 : decode cX7_pack 96 = .ok (.iconst 1, 1) := by decide +kernel
theorem dX7_pack_97 : decode cX7_pack 97 = .ok (.isub, 1) := by decide +kernel
theorem dX7_pack_98 : decode cX7_pack 98 = .ok (.ireturn, 1) := by decide +kernel
theorem dX7_unpack_0 : decode cX7_unpack 0 = .ok (.iload_n 1, 1) := by decide +kernel
theorem dX7_unpack_1 : decode cX7_unpack 1 = .ok (.iconst 0, 1) := by decide +kernel
theorem dX7_unpack_2 : decode cX7_unpack 2 = .ok (.aload_n 0, 1) := by decide +kernel
theorem dX7_unpack_3 : decode cX7_unpack 3 = .ok (.getfield 295, 3) := by decide +kernel
theorem dX7_unpack_6 : decode cX7_unpack 6 = .ok (.iconst 1, 1) := by decide +kernel
theorem dX7_unpack_7 : decode cX7_unpack 7 = .ok (.isub, 1) := by decide +kernel
theorem dX7_unpack_8 : decode cX7_unpack 8 = .ok (.invokestatic 159, 3) := by decide +kernel
theorem dX7_unpack_11 : decode cX7_unpack 11 = .ok (.istore_n 2, 1) := by decide +kernel
theorem dX7_unpack_12 : decode cX7_unpack 12 = .ok (.iload_n 2, 1) := by decide +kernel
theorem dX7_unpack_13 : decode cX7_unpack 13 = .ok (.ifCond .eq 23, 3) := by decide +kernel
theorem dX7_unpack_16 : decode cX7_unpack 16 = .ok (.aload_n 0, 1) := by decide +kernel
theorem dX7_unpack_17 : decode cX7_unpack 17 = .ok (.iconst 0, 1) := by decide +kernel
theorem dX7_unpack_18 : decode cX7_unpack 18 = .ok (.aload_n 0, 1) := by decide +kernel
theorem dX7_unpack_19 : decode cX7_unpack 19 = .ok (.getfield 90, 3) := by decide +kernel
theorem dX7_unpack_22 : decode cX7_unpack 22 = .ok (.iload_n 1, 1) := by decide +kernel
theorem dX7_unpack_23 : decode cX7_unpack 23 = .ok (.iaload, 1) := by decide +kernel
theorem dX7_unpack_24 : decode cX7_unpack 24 = .ok (.aload_n 0, 1) := by decide +kernel
theorem dX7_unpack_25 : decode cX7_unpack 25 = .ok (.getfield 93, 3) := by decide +kernel
theorem dX7_unpack_28 : decode cX7_unpack 28 = .ok (.iload_n 1, 1) := by decide +kernel
theorem dX7_unpack_29 : decode cX7_unpack 29 = .ok (.iaload, 1) := by decide +kernel
theorem dX7_unpack_30 : decode cX7_unpack 30 = .ok (.invokevirtual 267, 3) := by decide +kernel
theorem dX7_unpack_33 : decode cX7_unpack 33 = .ok (.goto 10, 3) := by decide +kernel
theorem dX7_unpack_36 : decode cX7_unpack 36 = .ok (.aload_n 0, 1) := by decide +kernel
theorem dX7_unpack_37 : decode cX7_unpack 37 = .ok (.iconst 0, 1) := by decide +kernel
theorem dX7_unpack_38 : decode cX7_unpack 38 = .ok (.iconst (-1), 1) := by decide +kernel
theorem dX7_unpack_39 : decode cX7_unpack 39 = .ok (.iconst (-1), 1) := by decide +kernel
theorem dX7_unpack_40 : decode cX7_unpack 40 = .ok (.invokevirtual 267, 3) := by decide +kernel
theorem dX7_unpack_43 : decode cX7_unpack 43 = .ok (.ireturn, 1) := by decide +kernel
theorem dX7_unit_0 : decode cX7_unit 0 = .ok (.aload_n 0, 1) := by decide +kernel
theorem dX7_unit_1 : decode cX7_unit 1 = .ok (.iload_n 1, 1) := by decide +kernel
theorem dX7_unit_2 : decode cX7_unit 2 = .ok (.invokevirtual 217, 3) := by decide +kernel
theorem dX7_unit_5 : decode cX7_unit 5 = .ok (.ifCond .eq 20, 3) := by decide +kernel
theorem dX7_unit_8 : decode cX7_unit 8 = .ok (.iload_n 2, 1) := by decide +kernel
theorem dX7_unit_9 : decode cX7_unit 9 = .ok (.ifCond .lt 16, 3) := by decide +kernel
theorem dX7_unit_12 : decode cX7_unit 12 = .ok (.iload_n 2, 1) := by decide +kernel
theorem dX7_unit_13 : decode cX7_unit 13 = .ok (.aload_n 0, 1) := by decide +kernel
theorem dX7_unit_14 : decode cX7_unit 14 = .ok (.getfield 298, 3) := by decide +kernel
theorem dX7_unit_17 : decode cX7_unit 17 = .ok (.ishr, 1) := by decide +kernel
theorem dX7_unit_18 : decode cX7_unit 18 = .ok (.ifCond .ne 7, 3) := by decide +kernel
theorem dX7_unit_21 : decode cX7_unit 21 = .ok (.iconst 1, 1) := by decide +kernel
theorem dX7_unit_22 : decode cX7_unit 22 = .ok (.goto 4, 3) := by decide +kernel
theorem dX7_unit_25 : decode cX7_unit 25 = .ok (.iconst 0, 1) := by decide +kernel
theorem dX7_unit_26 : decode cX7_unit 26 = .ok (.istore 4, 2) := by decide +kernel
theorem dX7_unit_28 : decode cX7_unit 28 = .ok (.aload_n 0, 1) := by decide +kernel
theorem dX7_unit_29 : decode cX7_unit 29 = .ok (.iload 4, 2) := by decide +kernel
theorem dX7_unit_31 : decode cX7_unit 31 = .ok (.ifCond .ne 7, 3) := by decide +kernel
theorem dX7_unit_34 : decode cX7_unit 34 = .ok (.iconst 1, 1) := by decide +kernel
theorem dX7_unit_35 : decode cX7_unit 35 = .ok (.goto 17, 3) := by decide +kernel
theorem dX7_unit_38 : decode cX7_unit 38 = .ok (.aload_n 0, 1) := by decide +kernel
theorem dX7_unit_39 : decode cX7_unit 39 = .ok (.getfield 298, 3) := by decide +kernel
theorem dX7_unit_42 : decode cX7_unit 42 = .ok (.bipush 8, 2) := by decide +kernel
theorem dX7_unit_44 : decode cX7_unit 44 = .ok (.if_icmp .ne 7, 3) := by decide +kernel
theorem dX7_unit_47 : decode cX7_unit 47 = .ok (.iconst 2, 1) := by decide +kernel
theorem dX7_unit_48 : decode cX7_unit 48 = .ok (.goto 4, 3) := by decide +kernel
theorem dX7_unit_51 : decode cX7_unit 51 = .ok (.iconst 0, 1) := by decide +kernel
theorem dX7_unit_52 : decode cX7_unit 52 = .ok (.invokevirtual 175, 3) := by decide +kernel
theorem dX7_unit_55 : decode cX7_unit 55 = .ok (.ifCond .eq 5, 3) := by decide +kernel
theorem dX7_unit_58 : decode cX7_unit 58 = .ok (.iconst 0, 1) := by decide +kernel
theorem dX7_unit_59 : decode cX7_unit 59 = .ok (.ireturn, 1) := by decide +kernel
theorem dX7_unit_60 : decode cX7_unit 60 = .ok (.aload_n 0, 1) := by decide +kernel
theorem dX7_unit_61 : decode cX7_unit 61 = .ok (.getfield 96, 3) := by decide +kernel
theorem dX7_unit_64 : decode cX7_unit 64 = .ok (.aload_n 0, 1) := by decide +kernel
theorem dX7_unit_65 : decode cX7_unit 65 = .ok (.getfield 298, 3) := by decide +kernel
theorem dX7_unit_68 : decode cX7_unit 68 = .ok (.iload_n 1, 1) := by decide +kernel
theorem dX7_unit_69 : decode cX7_unit 69 = .ok (.iastore, 1) := by decide +kernel
theorem dX7_unit_70 : decode cX7_unit 70 = .ok (.aload_n 0, 1) := by decide +kernel
theorem dX7_unit_71 : decode cX7_unit 71 = .ok (.getfield 99, 3) := by decide +kernel
theorem dX7_unit_74 : decode cX7_unit 74 = .ok (.aload_n 0, 1) := by decide +kernel
theorem dX7_unit_75 : decode cX7_unit 75 = .ok (.getfield 298, 3) := by decide +kernel
theorem dX7_unit_78 : decode cX7_unit 78 = .ok (.iload_n 2, 1) := by decide +kernel
theorem dX7_unit_79 : decode cX7_unit 79 = .ok (.iastore, 1) := by decide +kernel
theorem dX7_unit_80 : decode cX7_unit 80 = .ok (.aload_n 0, 1) := by decide +kernel
theorem dX7_unit_81 : decode cX7_unit 81 = .ok (.getfield 102, 3) := by decide +kernel
theorem dX7_unit_84 : decode cX7_unit 84 = .ok (.aload_n 0, 1) := by decide +kernel
theorem dX7_unit_85 : decode cX7_unit 85 = .ok (.getfield 298, 3) := by decide +kernel
theorem dX7_unit_88 : decode cX7_unit 88 = .ok (.iload_n 3, 1) := by decide +kernel
theorem dX7_unit_89 : decode cX7_unit 89 = .ok (.bastore, 1) := by decide +kernel
theorem dX7_unit_90 : decode cX7_unit 90 = .ok (.aload_n 0, 1) := by decide +kernel
theorem dX7_unit_91 : decode cX7_unit 91 = .ok (.dup, 1) := by decide +kernel
theorem dX7_unit_92 : decode cX7_unit 92 = .ok (.getfield 298, 3) := by decide +kernel
theorem dX7_unit_95 : decode cX7_unit 95 = .ok (.iconst 1, 1) := by decide +kernel
theorem dX7_unit_96 : decode cX7_unit 96 = .ok (.iadd, 1) := by decide +kernel
theorem dX7_unit_97 : decode cX7_unit 97 = .ok (.putfield 298, 3) := by decide +kernel
theorem dX7_unit_100 : decode cX7_unit 100 = .ok (.aload_n 0, 1) := by decide +kernel
theorem dX7_unit_101 : decode cX7_unit 101 = .ok (.getfield 298, 3) := by decide +kernel
theorem dX7_unit_104 : decode cX7_unit 104 = .ok (.iconst 1, 1) := by decide +kernel
theorem dX7_unit_105 : decode cX7_unit 105 = .ok (.isub, 1) := by decide +kernel
theorem dX7_unit_106 : decode cX7_unit 106 = .ok (.ireturn, 1) := by decide +kernel
theorem dX7_isUnit_0 : decode cX7_isUnit 0 = .ok (.iload_n 1, 1) := by decide +kernel
theorem dX7_isUnit_1 : decode cX7_isUnit 1 = .ok (.iconst 0, 1) := by decide +kernel
theorem dX7_isUnit_2 : decode cX7_isUnit 2 = .ok (.aload_n 0, 1) := by decide +kernel
theorem dX7_isUnit_3 : decode cX7_isUnit 3 = .ok (.getfield 298, 3) := by decide +kernel
theorem dX7_isUnit_6 : decode cX7_isUnit 6 = .ok (.iconst 1, 1) := by decide +kernel
theorem dX7_isUnit_7 : decode cX7_isUnit 7 = .ok (.isub, 1) := by decide +kernel
theorem dX7_isUnit_8 : decode cX7_isUnit 8 = .ok (.invokestatic 159, 3) := by decide +kernel
theorem dX7_isUnit_11 : decode cX7_isUnit 11 = .ok (.ireturn, 1) := by decide +kernel
theorem dX7_change_0 : decode cX7_change 0 = .ok (.aload_n 0, 1) := by decide +kernel
theorem dX7_change_1 : decode cX7_change 1 = .ok (.aload_n 0, 1) := by decide +kernel
theorem dX7_change_2 : decode cX7_change 2 = .ok (.iload_n 1, 1) := by decide +kernel
theorem dX7_change_3 : decode cX7_change 3 = .ok (.invokevirtual 301, 3) := by decide +kernel
theorem dX7_change_6 : decode cX7_change 6 = .ok (.ifCond .eq 20, 3) := by decide +kernel
theorem dX7_change_9 : decode cX7_change 9 = .ok (.iload_n 2, 1) := by decide +kernel
theorem dX7_change_10 : decode cX7_change 10 = .ok (.iconst (-1), 1) := by decide +kernel
theorem dX7_change_11 : decode cX7_change 11 = .ok (.if_icmp .eq 11, 3) := by decide +kernel
theorem dX7_change_14 : decode cX7_change 14 = .ok (.aload_n 0, 1) := by decide +kernel
theorem dX7_change_15 : decode cX7_change 15 = .ok (.iload_n 2, 1) := by decide +kernel
theorem dX7_change_16 : decode cX7_change 16 = .ok (.invokevirtual 217, 3) := by decide +kernel
theorem dX7_change_19 : decode cX7_change 19 = .ok (.ifCond .eq 7, 3) := by decide +kernel
theorem dX7_change_22 : decode cX7_change 22 = .ok (.iconst 0, 1) := by decide +kernel
theorem dX7_change_23 : decode cX7_change 23 = .ok (.goto 4, 3) := by decide +kernel
theorem dX7_change_26 : decode cX7_change 26 = .ok (.iconst 1, 1) := by decide +kernel
theorem dX7_change_27 : decode cX7_change 27 = .ok (.invokevirtual 175, 3) := by decide +kernel
theorem dX7_change_30 : decode cX7_change 30 = .ok (.ifCond .eq 5, 3) := by decide +kernel
theorem dX7_change_33 : decode cX7_change 33 = .ok (.iconst 0, 1) := by decide +kernel
theorem dX7_change_34 : decode cX7_change 34 = .ok (.ireturn, 1) := by decide +kernel
theorem dX7_change_35 : decode cX7_change 35 = .ok (.aload_n 0, 1) := by decide +kernel
theorem dX7_change_36 : decode cX7_change 36 = .ok (.getfield 96, 3) := by decide +kernel
theorem dX7_change_39 : decode cX7_change 39 = .ok (.iload_n 1, 1) := by decide +kernel
theorem dX7_change_40 : decode cX7_change 40 = .ok (.iload_n 2, 1) := by decide +kernel
theorem dX7_change_41 : decode cX7_change 41 = .ok (.iconst (-1), 1) := by decide +kernel
theorem dX7_change_42 : decode cX7_change 42 = .ok (.if_icmp .ne 12, 3) := by decide +kernel
theorem dX7_change_45 : decode cX7_change 45 = .ok (.aload_n 0, 1) := by decide +kernel
theorem dX7_change_46 : decode cX7_change 46 = .ok (.getfield 96, 3) := by decide +kernel
theorem dX7_change_49 : decode cX7_change 49 = .ok (.iload_n 1, 1) := by decide +kernel
theorem dX7_change_50 : decode cX7_change 50 = .ok (.iaload, 1) := by decide +kernel
theorem dX7_change_51 : decode cX7_change 51 = .ok (.goto 4, 3) := by decide +kernel
theorem dX7_change_54 : decode cX7_change 54 = .ok (.iload_n 2, 1) := by decide +kernel
theorem dX7_change_55 : decode cX7_change 55 = .ok (.iastore, 1) := by decide +kernel
theorem dX7_change_56 : decode cX7_change 56 = .ok (.aload_n 0, 1) := by decide +kernel
theorem dX7_change_57 : decode cX7_change 57 = .ok (.getfield 105, 3) := by decide +kernel
theorem dX7_change_60 : decode cX7_change 60 = .ok (.iload_n 1, 1) := by decide +kernel
theorem dX7_change_61 : decode cX7_change 61 = .ok (.dup2, 1) := by decide +kernel
theorem dX7_change_62 : decode cX7_change 62 = .ok (.iaload, 1) := by decide +kernel
theorem dX7_change_63 : decode cX7_change 63 = .ok (.iconst 1, 1) := by decide +kernel
theorem dX7_change_64 : decode cX7_change 64 = .ok (.iadd, 1) := by decide +kernel
theorem dX7_change_65 : decode cX7_change 65 = .ok (.iastore, 1) := by decide +kernel
theorem dX7_change_66 : decode cX7_change 66 = .ok (.aload_n 0, 1) := by decide +kernel
theorem dX7_change_67 : decode cX7_change 67 = .ok (.getfield 105, 3) := by decide +kernel
theorem dX7_change_70 : decode cX7_change 70 = .ok (.iload_n 1, 1) := by decide +kernel
theorem dX7_change_71 : decode cX7_change 71 = .ok (.iaload, 1) := by decide +kernel
theorem dX7_change_72 : decode cX7_change 72 = .ok (.ireturn, 1) := by decide +kernel
theorem dX7_isStale_0 : decode cX7_isStale 0 = .ok (.aload_n 0, 1) := by decide +kernel
theorem dX7_isStale_1 : decode cX7_isStale 1 = .ok (.getfield 108, 3) := by decide +kernel
theorem dX7_isStale_4 : decode cX7_isStale 4 = .ok (.iload_n 1, 1) := by decide +kernel
theorem dX7_isStale_5 : decode cX7_isStale 5 = .ok (.baload, 1) := by decide +kernel
theorem dX7_isStale_6 : decode cX7_isStale 6 = .ok (.ifCond .eq 18, 3) := by decide +kernel
theorem dX7_isStale_9 : decode cX7_isStale 9 = .ok (.aload_n 0, 1) := by decide +kernel
theorem dX7_isStale_10 : decode cX7_isStale 10 = .ok (.getfield 111, 3) := by decide +kernel
theorem dX7_isStale_13 : decode cX7_isStale 13 = .ok (.iload_n 1, 1) := by decide +kernel
theorem dX7_isStale_14 : decode cX7_isStale 14 = .ok (.iaload, 1) := by decide +kernel
theorem dX7_isStale_15 : decode cX7_isStale 15 = .ok (.aload_n 0, 1) := by decide +kernel
theorem dX7_isStale_16 : decode cX7_isStale 16 = .ok (.getfield 105, 3) := by decide +kernel
theorem dX7_isStale_19 : decode cX7_isStale 19 = .ok (.iload_n 1, 1) := by decide +kernel
theorem dX7_isStale_20 : decode cX7_isStale 20 = .ok (.iaload, 1) := by decide +kernel
theorem dX7_isStale_21 : decode cX7_isStale 21 = .ok (.if_icmp .eq 7, 3) := by decide +kernel
theorem dX7_isStale_24 : decode cX7_isStale 24 = .ok (.iconst 1, 1) := by decide +kernel
theorem dX7_isStale_25 : decode cX7_isStale 25 = .ok (.goto 4, 3) := by decide +kernel
theorem dX7_isStale_28 : decode cX7_isStale 28 = .ok (.iconst 0, 1) := by decide +kernel
theorem dX7_isStale_29 : decode cX7_isStale 29 = .ok (.istore_n 2, 1) := by decide +kernel
theorem dX7_isStale_30 : decode cX7_isStale 30 = .ok (.iconst 0, 1) := by decide +kernel
theorem dX7_isStale_31 : decode cX7_isStale 31 = .ok (.istore_n 3, 1) := by decide +kernel
theorem dX7_isStale_32 : decode cX7_isStale 32 = .ok (.iload_n 3, 1) := by decide +kernel
theorem dX7_isStale_33 : decode cX7_isStale 33 = .ok (.iload_n 1, 1) := by decide +kernel
theorem dX7_isStale_34 : decode cX7_isStale 34 = .ok (.if_icmp .ge 91, 3) := by decide +kernel
theorem dX7_isStale_37 : decode cX7_isStale 37 = .ok (.bipush 8, 2) := by decide +kernel
theorem dX7_isStale_39 : decode cX7_isStale 39 = .ok (.iload_n 1, 1) := by decide +kernel
theorem dX7_isStale_40 : decode cX7_isStale 40 = .ok (.imul, 1) := by decide +kernel
theorem dX7_isStale_41 : decode cX7_isStale 41 = .ok (.iload_n 3, 1) := by decide +kernel
theorem dX7_isStale_42 : decode cX7_isStale 42 = .ok (.iadd, 1) := by decide +kernel
theorem dX7_isStale_43 : decode cX7_isStale 43 = .ok (.istore 4, 2) := by decide +kernel
theorem dX7_isStale_45 : decode cX7_isStale 45 = .ok (.iload_n 2, 1) := by decide +kernel
theorem dX7_isStale_46 : decode cX7_isStale 46 = .ok (.ifCond .ne 73, 3) := by decide +kernel
theorem dX7_isStale_49 : decode cX7_isStale 49 = .ok (.aload_n 0, 1) := by decide +kernel
theorem dX7_isStale_50 : decode cX7_isStale 50 = .ok (.getfield 99, 3) := by decide +kernel
theorem dX7_isStale_53 : decode cX7_isStale 53 = .ok (.iload_n 1, 1) := by decide +kernel
theorem dX7_isStale_54 : decode cX7_isStale 54 = .ok (.iaload, 1) := by decide +kernel
theorem dX7_isStale_55 : decode cX7_isStale 55 = .ok (.iload_n 3, 1) := by decide +kernel
theorem dX7_isStale_56 : decode cX7_isStale 56 = .ok (.ishr, 1) := by decide +kernel
theorem dX7_isStale_57 : decode cX7_isStale 57 = .ok (.iconst 1, 1) := by decide +kernel
theorem dX7_isStale_58 : decode cX7_isStale 58 = .ok (.iand, 1) := by decide +kernel
theorem dX7_isStale_59 : decode cX7_isStale 59 = .ok (.iconst 1, 1) := by decide +kernel
theorem dX7_isStale_60 : decode cX7_isStale 60 = .ok (.if_icmp .ne 59, 3) := by decide +kernel
theorem dX7_isStale_63 : decode cX7_isStale 63 = .ok (.aload_n 0, 1) := by decide +kernel
theorem dX7_isStale_64 : decode cX7_isStale 64 = .ok (.getfield 153, 3) := by decide +kernel
theorem dX7_isStale_67 : decode cX7_isStale 67 = .ok (.bipush 20, 2) := by decide +kernel
theorem dX7_isStale_69 : decode cX7_isStale 69 = .ok (.aload_n 0, 1) := by decide +kernel
theorem dX7_isStale_70 : decode cX7_isStale 70 = .ok (.getfield 96, 3) := by decide +kernel
theorem dX7_isStale_73 : decode cX7_isStale 73 = .ok (.iload_n 3, 1) := by decide +kernel
theorem dX7_isStale_74 : decode cX7_isStale 74 = .ok (.iaload, 1) := by decide +kernel
theorem dX7_isStale_75 : decode cX7_isStale 75 = .ok (.imul, 1) := by decide +kernel
theorem dX7_isStale_76 : decode cX7_isStale 76 = .ok (.aload_n 0, 1) := by decide +kernel
theorem dX7_isStale_77 : decode cX7_isStale 77 = .ok (.getfield 114, 3) := by decide +kernel
theorem dX7_isStale_80 : decode cX7_isStale 80 = .ok (.iload 4, 2) := by decide +kernel
theorem dX7_isStale_82 : decode cX7_isStale 82 = .ok (.iaload, 1) := by decide +kernel
theorem dX7_isStale_83 : decode cX7_isStale 83 = .ok (.iadd, 1) := by decide +kernel
theorem dX7_isStale_84 : decode cX7_isStale 84 = .ok (.baload, 1) := by decide +kernel
theorem dX7_isStale_85 : decode cX7_isStale 85 = .ok (.ifCond .eq 28, 3) := by decide +kernel
theorem dX7_isStale_88 : decode cX7_isStale 88 = .ok (.aload_n 0, 1) := by decide +kernel
theorem dX7_isStale_89 : decode cX7_isStale 89 = .ok (.getfield 102, 3) := by decide +kernel
theorem dX7_isStale_92 : decode cX7_isStale 92 = .ok (.iload_n 3, 1) := by decide +kernel
theorem dX7_isStale_93 : decode cX7_isStale 93 = .ok (.baload, 1) := by decide +kernel
theorem dX7_isStale_94 : decode cX7_isStale 94 = .ok (.ifCond .eq 23, 3) := by decide +kernel
theorem dX7_isStale_97 : decode cX7_isStale 97 = .ok (.aload_n 0, 1) := by decide +kernel
theorem dX7_isStale_98 : decode cX7_isStale 98 = .ok (.getfield 105, 3) := by decide +kernel
theorem dX7_isStale_101 : decode cX7_isStale 101 = .ok (.iload_n 3, 1) := by decide +kernel
theorem dX7_isStale_102 : decode cX7_isStale 102 = .ok (.iaload, 1) := by decide +kernel
theorem dX7_isStale_103 : decode cX7_isStale 103 = .ok (.aload_n 0, 1) := by decide +kernel
theorem dX7_isStale_104 : decode cX7_isStale 104 = .ok (.getfield 117, 3) := by decide +kernel
theorem dX7_isStale_107 : decode cX7_isStale 107 = .ok (.iload 4, 2) := by decide +kernel
theorem dX7_isStale_109 : decode cX7_isStale 109 = .ok (.iaload, 1) := by decide +kernel
theorem dX7_isStale_110 : decode cX7_isStale 110 = .ok (.if_icmp .eq 7, 3) := by decide +kernel
theorem dX7_isStale_113 : decode cX7_isStale 113 = .ok (.iconst 1, 1) := by decide +kernel
theorem dX7_isStale_114 : decode cX7_isStale 114 = .ok (.goto 4, 3) := by decide +kernel
theorem dX7_isStale_117 : decode cX7_isStale 117 = .ok (.iconst 0, 1) := by decide +kernel
theorem dX7_isStale_118 : decode cX7_isStale 118 = .ok (.istore_n 2, 1) := by decide +kernel
theorem dX7_isStale_119 : decode cX7_isStale 119 = .ok (.iinc 3 1, 3) := by decide +kernel
theorem dX7_isStale_122 : decode cX7_isStale 122 = .ok (.goto (-90), 3) := by decide +kernel
theorem dX7_isStale_125 : decode cX7_isStale 125 = .ok (.iload_n 2, 1) := by decide +kernel
theorem dX7_isStale_126 : decode cX7_isStale 126 = .ok (.ireturn, 1) := by decide +kernel
theorem dX7_stales_0 : decode cX7_stales 0 = .ok (.aload_n 0, 1) := by decide +kernel
theorem dX7_stales_1 : decode cX7_stales 1 = .ok (.invokevirtual 270, 3) := by decide +kernel
theorem dX7_stales_4 : decode cX7_stales 4 = .ok (.iconst 0, 1) := by decide +kernel
theorem dX7_stales_5 : decode cX7_stales 5 = .ok (.istore_n 1, 1) := by decide +kernel
theorem dX7_stales_6 : decode cX7_stales 6 = .ok (.iconst 0, 1) := by decide +kernel
theorem dX7_stales_7 : decode cX7_stales 7 = .ok (.istore_n 2, 1) := by decide +kernel
theorem dX7_stales_8 : decode cX7_stales 8 = .ok (.iload_n 2, 1) := by decide +kernel
theorem dX7_stales_9 : decode cX7_stales 9 = .ok (.aload_n 0, 1) := by decide +kernel
theorem dX7_stales_10 : decode cX7_stales 10 = .ok (.getfield 298, 3) := by decide +kernel
theorem dX7_stales_13 : decode cX7_stales 13 = .ok (.if_icmp .ge 27, 3) := by decide +kernel
theorem dX7_stales_16 : decode cX7_stales 16 = .ok (.iload_n 1, 1) := by decide +kernel
theorem dX7_stales_17 : decode cX7_stales 17 = .ok (.aload_n 0, 1) := by decide +kernel
theorem dX7_stales_18 : decode cX7_stales 18 = .ok (.iload_n 2, 1) := by decide +kernel
theorem dX7_stales_19 : decode cX7_stales 19 = .ok (.invokevirtual 304, 3) := by decide +kernel
theorem dX7_stales_22 : decode cX7_stales 22 = .ok (.ifCond .eq 9, 3) := by decide +kernel
theorem dX7_stales_25 : decode cX7_stales 25 = .ok (.iconst 1, 1) := by decide +kernel
theorem dX7_stales_26 : decode cX7_stales 26 = .ok (.iload_n 2, 1) := by decide +kernel
theorem dX7_stales_27 : decode cX7_stales 27 = .ok (.ishl, 1) := by decide +kernel
theorem dX7_stales_28 : decode cX7_stales 28 = .ok (.goto 4, 3) := by decide +kernel
theorem dX7_stales_31 : decode cX7_stales 31 = .ok (.iconst 0, 1) := by decide +kernel
theorem dX7_stales_32 : decode cX7_stales 32 = .ok (.ior, 1) := by decide +kernel
theorem dX7_stales_33 : decode cX7_stales 33 = .ok (.istore_n 1, 1) := by decide +kernel
theorem dX7_stales_34 : decode cX7_stales 34 = .ok (.iinc 2 1, 3) := by decide +kernel
theorem dX7_stales_37 : decode cX7_stales 37 = .ok (.goto (-29), 3) := by decide +kernel
theorem dX7_stales_40 : decode cX7_stales 40 = .ok (.iload_n 1, 1) := by decide +kernel
theorem dX7_stales_41 : decode cX7_stales 41 = .ok (.ireturn, 1) := by decide +kernel
theorem dX7_stale_0 : decode cX7_stale 0 = .ok (.aload_n 0, 1) := by decide +kernel
theorem dX7_stale_1 : decode cX7_stale 1 = .ok (.iconst 0, 1) := by decide +kernel
theorem dX7_stale_2 : decode cX7_stale 2 = .ok (.putfield 156, 3) := by decide +kernel
theorem dX7_stale_5 : decode cX7_stale 5 = .ok (.aload_n 0, 1) := by decide +kernel
theorem dX7_stale_6 : decode cX7_stale 6 = .ok (.invokevirtual 307, 3) := by decide +kernel
theorem dX7_stale_9 : decode cX7_stale 9 = .ok (.ireturn, 1) := by decide +kernel
theorem dX7_build_0 : decode cX7_build 0 = .ok (.aload_n 0, 1) := by decide +kernel
theorem dX7_build_1 : decode cX7_build 1 = .ok (.iconst 0, 1) := by decide +kernel
theorem dX7_build_2 : decode cX7_build 2 = .ok (.putfield 156, 3) := by decide +kernel
theorem dX7_build_5 : decode cX7_build 5 = .ok (.aload_n 0, 1) := by decide +kernel
theorem dX7_build_6 : decode cX7_build 6 = .ok (.invokevirtual 307, 3) := by decide +kernel
theorem dX7_build_9 : decode cX7_build 9 = .ok (.istore_n 1, 1) := by decide +kernel
theorem dX7_build_10 : decode cX7_build 10 = .ok (.iconst 0, 1) := by decide +kernel
theorem dX7_build_11 : decode cX7_build 11 = .ok (.istore_n 2, 1) := by decide +kernel
theorem dX7_build_12 : decode cX7_build 12 = .ok (.iconst 0, 1) := by decide +kernel
theorem dX7_build_13 : decode cX7_build 13 = .ok (.istore_n 3, 1) := by decide +kernel
theorem dX7_build_14 : decode cX7_build 14 = .ok (.iload_n 3, 1) := by decide +kernel
theorem dX7_build_15 : decode cX7_build 15 = .ok (.aload_n 0, 1) := by decide +kernel
theorem dX7_build_16 : decode cX7_build 16 = .ok (.getfield 298, 3) := by decide +kernel
theorem dX7_build_19 : decode cX7_build 19 = .ok (.if_icmp .ge 93, 3) := by decide +kernel
theorem dX7_build_22 : decode cX7_build 22 = .ok (.iload_n 1, 1) := by decide +kernel
theorem dX7_build_23 : decode cX7_build 23 = .ok (.iload_n 3, 1) := by decide +kernel
theorem dX7_build_24 : decode cX7_build 24 = .ok (.ishr, 1) := by decide +kernel
theorem dX7_build_25 : decode cX7_build 25 = .ok (.iconst 1, 1) := by decide +kernel
theorem dX7_build_26 : decode cX7_build 26 = .ok (.iand, 1) := by decide +kernel
theorem dX7_build_27 : decode cX7_build 27 = .ok (.iconst 1, 1) := by decide +kernel
theorem dX7_build_28 : decode cX7_build 28 = .ok (.if_icmp .ne 78, 3) := by decide +kernel
theorem dX7_build_31 : decode cX7_build 31 = .ok (.aload_n 0, 1) := by decide +kernel
theorem dX7_build_32 : decode cX7_build 32 = .ok (.getfield 108, 3) := by decide +kernel
theorem dX7_build_35 : decode cX7_build 35 = .ok (.iload_n 3, 1) := by decide +kernel
theorem dX7_build_36 : decode cX7_build 36 = .ok (.iconst 1, 1) := by decide +kernel
theorem dX7_build_37 : decode cX7_build 37 = .ok (.bastore, 1) := by decide +kernel
theorem dX7_build_38 : decode cX7_build 38 = .ok (.aload_n 0, 1) := by decide +kernel
theorem dX7_build_39 : decode cX7_build 39 = .ok (.getfield 111, 3) := by decide +kernel
theorem dX7_build_42 : decode cX7_build 42 = .ok (.iload_n 3, 1) := by decide +kernel
theorem dX7_build_43 : decode cX7_build 43 = .ok (.aload_n 0, 1) := by decide +kernel
theorem dX7_build_44 : decode cX7_build 44 = .ok (.getfield 105, 3) := by decide +kernel
theorem dX7_build_47 : decode cX7_build 47 = .ok (.iload_n 3, 1) := by decide +kernel
theorem dX7_build_48 : decode cX7_build 48 = .ok (.iaload, 1) := by decide +kernel
theorem dX7_build_49 : decode cX7_build 49 = .ok (.iastore, 1) := by decide +kernel
theorem dX7_build_50 : decode cX7_build 50 = .ok (.iconst 0, 1) := by decide +kernel
theorem dX7_build_51 : decode cX7_build 51 = .ok (.istore 4, 2) := by decide +kernel
theorem dX7_build_53 : decode cX7_build 53 = .ok (.iload 4, 2) := by decide +kernel
theorem dX7_build_55 : decode cX7_build 55 = .ok (.iload_n 3, 1) := by decide +kernel
theorem dX7_build_56 : decode cX7_build 56 = .ok (.if_icmp .ge 47, 3) := by decide +kernel
theorem dX7_build_59 : decode cX7_build 59 = .ok (.aload_n 0, 1) := by decide +kernel
theorem dX7_build_60 : decode cX7_build 60 = .ok (.getfield 114, 3) := by decide +kernel
theorem dX7_build_63 : decode cX7_build 63 = .ok (.bipush 8, 2) := by decide +kernel
theorem dX7_build_65 : decode cX7_build 65 = .ok (.iload_n 3, 1) := by decide +kernel
theorem dX7_build_66 : decode cX7_build 66 = .ok (.imul, 1) := by decide +kernel
theorem dX7_build_67 : decode cX7_build 67 = .ok (.iload 4, 2) := by decide +kernel
theorem dX7_build_69 : decode cX7_build 69 = .ok (.iadd, 1) := by decide +kernel
theorem dX7_build_70 : decode cX7_build 70 = .ok (.aload_n 0, 1) := by decide +kernel
theorem dX7_build_71 : decode cX7_build 71 = .ok (.getfield 96, 3) := by decide +kernel
theorem dX7_build_74 : decode cX7_build 74 = .ok (.iload 4, 2) := by decide +kernel
theorem dX7_build_76 : decode cX7_build 76 = .ok (.iaload, 1) := by decide +kernel
theorem dX7_build_77 : decode cX7_build 77 = .ok (.iastore, 1) := by decide +kernel
theorem dX7_build_78 : decode cX7_build 78 = .ok (.aload_n 0, 1) := by decide +kernel
theorem dX7_build_79 : decode cX7_build 79 = .ok (.getfield 117, 3) := by decide +kernel
theorem dX7_build_82 : decode cX7_build 82 = .ok (.bipush 8, 2) := by decide +kernel
theorem dX7_build_84 : decode cX7_build 84 = .ok (.iload_n 3, 1) := by decide +kernel
theorem dX7_build_85 : decode cX7_build 85 = .ok (.imul, 1) := by decide +kernel
theorem dX7_build_86 : decode cX7_build 86 = .ok (.iload 4, 2) := by decide +kernel
theorem dX7_build_88 : decode cX7_build 88 = .ok (.iadd, 1) := by decide +kernel
theorem dX7_build_89 : decode cX7_build 89 = .ok (.aload_n 0, 1) := by decide +kernel
theorem dX7_build_90 : decode cX7_build 90 = .ok (.getfield 105, 3) := by decide +kernel
theorem dX7_build_93 : decode cX7_build 93 = .ok (.iload 4, 2) := by decide +kernel
theorem dX7_build_95 : decode cX7_build 95 = .ok (.iaload, 1) := by decide +kernel
theorem dX7_build_96 : decode cX7_build 96 = .ok (.iastore, 1) := by decide +kernel
theorem dX7_build_97 : decode cX7_build 97 = .ok (.iinc 4 1, 3) := by decide +kernel
theorem dX7_build_100 : decode cX7_build 100 = .ok (.goto (-47), 3) := by decide +kernel
theorem dX7_build_103 : decode cX7_build 103 = .ok (.iinc 2 1, 3) := by decide +kernel
theorem dX7_build_106 : decode cX7_build 106 = .ok (.iinc 3 1, 3) := by decide +kernel
theorem dX7_build_109 : decode cX7_build 109 = .ok (.goto (-95), 3) := by decide +kernel
theorem dX7_build_112 : decode cX7_build 112 = .ok (.iload_n 2, 1) := by decide +kernel
theorem dX7_build_113 : decode cX7_build 113 = .ok (.ireturn, 1) := by decide +kernel
