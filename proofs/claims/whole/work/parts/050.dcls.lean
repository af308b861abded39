theorem dX0_init_0 : decode cX0_init 0 = .ok (.aload_n 0, 1) := by decide +kernel
theorem dX0_init_1 : decode cX0_init 1 = .ok (.invokespecial 3, 3) := by decide +kernel
theorem dX0_init_4 : decode cX0_init 4 = .ok (.aload_n 0, 1) := by decide +kernel
theorem dX0_init_5 : decode cX0_init 5 = .ok (.iload_n 1, 1) := by decide +kernel
theorem dX0_init_6 : decode cX0_init 6 = .ok (.putfield 9, 3) := by decide +kernel
theorem dX0_init_9 : decode cX0_init 9 = .ok (.aload_n 0, 1) := by decide +kernel
theorem dX0_init_10 : decode cX0_init 10 = .ok (.iload_n 2, 1) := by decide +kernel
theorem dX0_init_11 : decode cX0_init 11 = .ok (.putfield 15, 3) := by decide +kernel
theorem dX0_init_14 : decode cX0_init 14 = .ok (.aload_n 0, 1) := by decide +kernel
theorem dX0_init_15 : decode cX0_init 15 = .ok (.iload_n 3, 1) := by decide +kernel
theorem dX0_init_16 : decode cX0_init 16 = .ok (.putfield 18, 3) := by decide +kernel
theorem dX0_init_19 : decode cX0_init 19 = .ok (.aload_n 0, 1) := by decide +kernel
theorem dX0_init_20 : decode cX0_init 20 = .ok (.new 22, 3) := by decide +kernel
theorem dX0_init_23 : decode cX0_init 23 = .ok (.dup, 1) := by decide +kernel
theorem dX0_init_24 : decode cX0_init 24 = .ok (.invokespecial 24, 3) := by decide +kernel
theorem dX0_init_27 : decode cX0_init 27 = .ok (.putfield 25, 3) := by decide +kernel
theorem dX0_init_30 : decode cX0_init 30 = .ok (.aload_n 0, 1) := by decide +kernel
theorem dX0_init_31 : decode cX0_init 31 = .ok (.bipush 30, 2) := by decide +kernel
theorem dX0_init_33 : decode cX0_init 33 = .ok (.newarray .int, 2) := by decide +kernel
theorem dX0_init_35 : decode cX0_init 35 = .ok (.putfield 29, 3) := by decide +kernel
theorem dX0_init_38 : decode cX0_init 38 = .ok (.iconst 0, 1) := by decide +kernel
theorem dX0_init_39 : decode cX0_init 39 = .ok (.istore 4, 2) := by decide +kernel
theorem dX0_init_41 : decode cX0_init 41 = .ok (.iload 4, 2) := by decide +kernel
theorem dX0_init_43 : decode cX0_init 43 = .ok (.bipush 30, 2) := by decide +kernel
theorem dX0_init_45 : decode cX0_init 45 = .ok (.if_icmp .ge 19, 3) := by decide +kernel
theorem dX0_init_48 : decode cX0_init 48 = .ok (.aload_n 0, 1) := by decide +kernel
theorem dX0_init_49 : decode cX0_init 49 = .ok (.getfield 29, 3) := by decide +kernel
theorem dX0_init_52 : decode cX0_init 52 = .ok (.iload 4, 2) := by decide +kernel
theorem dX0_init_54 : decode cX0_init 54 = .ok (.iconst (-1), 1) := by decide +kernel
theorem dX0_init_55 : decode cX0_init 55 = .ok (.invokestatic 33, 3) := by decide +kernel
theorem dX0_init_58 : decode cX0_init 58 = .ok (.iinc 4 1, 3) := by decide +kernel
theorem dX0_init_61 : decode cX0_init 61 = .ok (.goto (-20), 3) := by decide +kernel
theorem dX0_init_64 : decode cX0_init 64 = .ok (.return_, 1) := by decide +kernel
theorem dX0_resultOf_0 : decode cX0_resultOf 0 = .ok (.aload_n 0, 1) := by decide +kernel
theorem dX0_resultOf_1 : decode cX0_resultOf 1 = .ok (.getfield 18, 3) := by decide +kernel
theorem dX0_resultOf_4 : decode cX0_resultOf 4 = .ok (.ifCond .eq 14, 3) := by decide +kernel
theorem dX0_resultOf_7 : decode cX0_resultOf 7 = .ok (.aload_n 0, 1) := by decide +kernel
theorem dX0_resultOf_8 : decode cX0_resultOf 8 = .ok (.getfield 29, 3) := by decide +kernel
theorem dX0_resultOf_11 : decode cX0_resultOf 11 = .ok (.iload_n 1, 1) := by decide +kernel
theorem dX0_resultOf_12 : decode cX0_resultOf 12 = .ok (.invokestatic 37, 3) := by decide +kernel
theorem dX0_resultOf_15 : decode cX0_resultOf 15 = .ok (.goto 4, 3) := by decide +kernel
theorem dX0_resultOf_18 : decode cX0_resultOf 18 = .ok (.iconst (-1), 1) := by decide +kernel
theorem dX0_resultOf_19 : decode cX0_resultOf 19 = .ok (.ireturn, 1) := by decide +kernel
theorem dX0_note_0 : decode cX0_note 0 = .ok (.aload_n 0, 1) := by decide +kernel
theorem dX0_note_1 : decode cX0_note 1 = .ok (.getfield 29, 3) := by decide +kernel
theorem dX0_note_4 : decode cX0_note 4 = .ok (.iload_n 1, 1) := by decide +kernel
theorem dX0_note_5 : decode cX0_note 5 = .ok (.iload_n 2, 1) := by decide +kernel
theorem dX0_note_6 : decode cX0_note 6 = .ok (.invokestatic 33, 3) := by decide +kernel
theorem dX0_note_9 : decode cX0_note 9 = .ok (.return_, 1) := by decide +kernel
theorem dX1_init_0 : decode cX1_init 0 = .ok (.aload_n 0, 1) := by decide +kernel
theorem dX1_init_1 : decode cX1_init 1 = .ok (.invokespecial 1, 3) := by decide +kernel
theorem dX1_init_4 : decode cX1_init 4 = .ok (.aload_n 0, 1) := by decide +kernel
theorem dX1_init_5 : decode cX1_init 5 = .ok (.iload_n 1, 1) := by decide +kernel
theorem dX1_init_6 : decode cX1_init 6 = .ok (.putfield 7, 3) := by decide +kernel
theorem dX1_init_9 : decode cX1_init 9 = .ok (.aload_n 0, 1) := by decide +kernel
theorem dX1_init_10 : decode cX1_init 10 = .ok (.iload_n 2, 1) := by decide +kernel
theorem dX1_init_11 : decode cX1_init 11 = .ok (.putfield 13, 3) := by decide +kernel
theorem dX1_init_14 : decode cX1_init 14 = .ok (.return_, 1) := by decide +kernel
theorem dX2_init_0 : decode cX2_init 0 = .ok (.aload_n 0, 1) := by decide +kernel
theorem dX2_init_1 : decode cX2_init 1 = .ok (.invokespecial 3, 3) := by decide +kernel
theorem dX2_init_4 : decode cX2_init 4 = .ok (.aload_n 0, 1) := by decide +kernel
theorem dX2_init_5 : decode cX2_init 5 = .ok (.sipush 180, 3) := by decide +kernel
theorem dX2_init_8 : decode cX2_init 8 = .ok (.newarray .int, 2) := by decide +kernel
theorem dX2_init_10 : decode cX2_init 10 = .ok (.putfield 9, 3) := by decide +kernel
theorem dX2_init_13 : decode cX2_init 13 = .ok (.return_, 1) := by decide +kernel
theorem dX2_get_0 : decode cX2_get 0 = .ok (.iload_n 1, 1) := by decide +kernel
theorem dX2_get_1 : decode cX2_get 1 = .ok (.bipush 6, 2) := by decide +kernel
theorem dX2_get_3 : decode cX2_get 3 = .ok (.imul, 1) := by decide +kernel
theorem dX2_get_4 : decode cX2_get 4 = .ok (.iload_n 2, 1) := by decide +kernel
theorem dX2_get_5 : decode cX2_get 5 = .ok (.iadd, 1) := by decide +kernel
theorem dX2_get_6 : decode cX2_get 6 = .ok (.istore_n 3, 1) := by decide +kernel
theorem dX2_get_7 : decode cX2_get 7 = .ok (.iload_n 1, 1) := by decide +kernel
theorem dX2_get_8 : decode cX2_get 8 = .ok (.ifCond .lt 33, 3) := by decide +kernel
theorem dX2_get_11 : decode cX2_get 11 = .ok (.iload_n 1, 1) := by decide +kernel
theorem dX2_get_12 : decode cX2_get 12 = .ok (.aload_n 0, 1) := by decide +kernel
theorem dX2_get_13 : decode cX2_get 13 = .ok (.getfield 15, 3) := by decide +kernel
theorem dX2_get_16 : decode cX2_get 16 = .ok (.if_icmp .ge 25, 3) := by decide +kernel
theorem dX2_get_19 : decode cX2_get 19 = .ok (.iload_n 3, 1) := by decide +kernel
theorem dX2_get_20 : decode cX2_get 20 = .ok (.ifCond .lt 21, 3) := by decide +kernel
theorem dX2_get_23 : decode cX2_get 23 = .ok (.iload_n 3, 1) := by decide +kernel
theorem dX2_get_24 : decode cX2_get 24 = .ok (.aload_n 0, 1) := by decide +kernel
theorem dX2_get_25 : decode cX2_get 25 = .ok (.getfield 9, 3) := by decide +kernel
theorem dX2_get_28 : decode cX2_get 28 = .ok (.arraylength, 1) := by decide +kernel
theorem dX2_get_29 : decode cX2_get 29 = .ok (.if_icmp .ge 12, 3) := by decide +kernel
theorem dX2_get_32 : decode cX2_get 32 = .ok (.aload_n 0, 1) := by decide +kernel
theorem dX2_get_33 : decode cX2_get 33 = .ok (.getfield 9, 3) := by decide +kernel
theorem dX2_get_36 : decode cX2_get 36 = .ok (.iload_n 3, 1) := by decide +kernel
theorem dX2_get_37 : decode cX2_get 37 = .ok (.iaload, 1) := by decide +kernel
theorem dX2_get_38 : decode cX2_get 38 = .ok (.goto 4, 3) := by decide +kernel
theorem dX2_get_41 : decode cX2_get 41 = .ok (.iconst (-1), 1) := by decide +kernel
theorem dX2_get_42 : decode cX2_get 42 = .ok (.ireturn, 1) := by decide +kernel
theorem dX2_set_0 : decode cX2_set 0 = .ok (.iload_n 1, 1) := by decide +kernel
theorem dX2_set_1 : decode cX2_set 1 = .ok (.bipush 6, 2) := by decide +kernel
theorem dX2_set_3 : decode cX2_set 3 = .ok (.imul, 1) := by decide +kernel
theorem dX2_set_4 : decode cX2_set 4 = .ok (.iload_n 2, 1) := by decide +kernel
theorem dX2_set_5 : decode cX2_set 5 = .ok (.iadd, 1) := by decide +kernel
theorem dX2_set_6 : decode cX2_set 6 = .ok (.istore 4, 2) := by decide +kernel
theorem dX2_set_8 : decode cX2_set 8 = .ok (.iload_n 1, 1) := by decide +kernel
theorem dX2_set_9 : decode cX2_set 9 = .ok (.ifCond .lt 34, 3) := by decide +kernel
theorem dX2_set_12 : decode cX2_set 12 = .ok (.iload_n 1, 1) := by decide +kernel
theorem dX2_set_13 : decode cX2_set 13 = .ok (.aload_n 0, 1) := by decide +kernel
theorem dX2_set_14 : decode cX2_set 14 = .ok (.getfield 15, 3) := by decide +kernel
theorem dX2_set_17 : decode cX2_set 17 = .ok (.if_icmp .ge 26, 3) := by decide +kernel
theorem dX2_set_20 : decode cX2_set 20 = .ok (.iload 4, 2) := by decide +kernel
theorem dX2_set_22 : decode cX2_set 22 = .ok (.ifCond .lt 21, 3) := by decide +kernel
theorem dX2_set_25 : decode cX2_set 25 = .ok (.iload 4, 2) := by decide +kernel
theorem dX2_set_27 : decode cX2_set 27 = .ok (.aload_n 0, 1) := by decide +kernel
theorem dX2_set_28 : decode cX2_set 28 = .ok (.getfield 9, 3) := by decide +kernel
theorem dX2_set_31 : decode cX2_set 31 = .ok (.arraylength, 1) := by decide +kernel
theorem dX2_set_32 : decode cX2_set 32 = .ok (.if_icmp .ge 11, 3) := by decide +kernel
theorem dX2_set_35 : decode cX2_set 35 = .ok (.aload_n 0, 1) := by decide +kernel
theorem dX2_set_36 : decode cX2_set 36 = .ok (.getfield 9, 3) := by decide +kernel
theorem dX2_set_39 : decode cX2_set 39 = .ok (.iload 4, 2) := by decide +kernel
theorem dX2_set_41 : decode cX2_set 41 = .ok (.iload_n 3, 1) := by decide +kernel
theorem dX2_set_42 : decode cX2_set 42 = .ok (.iastore, 1) := by decide +kernel
theorem dX2_set_43 : decode cX2_set 43 = .ok (.return_, 1) := by decide +kernel
theorem dX2_placeOf_0 : decode cX2_placeOf 0 = .ok (.iconst 0, 1) := by decide +kernel
theorem dX2_placeOf_1 : decode cX2_placeOf 1 = .ok (.istore_n 3, 1) := by decide +kernel
theorem dX2_placeOf_2 : decode cX2_placeOf 2 = .ok (.iload_n 3, 1) := by decide +kernel
theorem dX2_placeOf_3 : decode cX2_placeOf 3 = .ok (.aload_n 0, 1) := by decide +kernel
theorem dX2_placeOf_4 : decode cX2_placeOf 4 = .ok (.getfield 15, 3) := by decide +kernel
theorem dX2_placeOf_7 : decode cX2_placeOf 7 = .ok (.if_icmp .ge 31, 3) := by decide +kernel
theorem dX2_placeOf_10 : decode cX2_placeOf 10 = .ok (.aload_n 0, 1) := by decide +kernel
theorem dX2_placeOf_11 : decode cX2_placeOf 11 = .ok (.iload_n 3, 1) := by decide +kernel
theorem dX2_placeOf_12 : decode cX2_placeOf 12 = .ok (.iconst 0, 1) := by decide +kernel
theorem dX2_placeOf_13 : decode cX2_placeOf 13 = .ok (.invokevirtual 19, 3) := by decide +kernel
theorem dX2_placeOf_16 : decode cX2_placeOf 16 = .ok (.iload_n 1, 1) := by decide +kernel
theorem dX2_placeOf_17 : decode cX2_placeOf 17 = .ok (.if_icmp .ne 15, 3) := by decide +kernel
theorem dX2_placeOf_20 : decode cX2_placeOf 20 = .ok (.aload_n 0, 1) := by decide +kernel
theorem dX2_placeOf_21 : decode cX2_placeOf 21 = .ok (.iload_n 3, 1) := by decide +kernel
theorem dX2_placeOf_22 : decode cX2_placeOf 22 = .ok (.iconst 1, 1) := by decide +kernel
theorem dX2_placeOf_23 : decode cX2_placeOf 23 = .ok (.invokevirtual 19, 3) := by decide +kernel
theorem dX2_placeOf_26 : decode cX2_placeOf 26 = .ok (.iload_n 2, 1) := by decide +kernel
theorem dX2_placeOf_27 : decode cX2_placeOf 27 = .ok (.if_icmp .ne 5, 3) := by decide +kernel
theorem dX2_placeOf_30 : decode cX2_placeOf 30 = .ok (.iload_n 3, 1) := by decide +kernel
theorem dX2_placeOf_31 : decode cX2_placeOf 31 = .ok (.ireturn, 1) := by decide +kernel
theorem dX2_placeOf_32 : decode cX2_placeOf 32 = .ok (.iinc 3 1, 3) := by decide +kernel
theorem dX2_placeOf_35 : decode cX2_placeOf 35 = .ok (.goto (-33), 3) := by decide +kernel
theorem dX2_placeOf_38 : decode cX2_placeOf 38 = .ok (.iconst (-1), 1) := by decide +kernel
theorem dX2_placeOf_39 : decode cX2_placeOf 39 = .ok (.ireturn, 1) := by decide +kernel
theorem dX2_add_0 : decode cX2_add 0 = .ok (.aload_n 0, 1) := by decide +kernel
theorem dX2_add_1 : decode cX2_add 1 = .ok (.getfield 15, 3) := by decide +kernel
theorem dX2_add_4 : decode cX2_add 4 = .ok (.bipush 30, 2) := by decide +kernel
theorem dX2_add_6 : decode cX2_add 6 = .ok (.if_icmp .lt 4, 3) := by decide +kernel
theorem dX2_add_9 : decode cX2_add 9 = .ok (.return_, 1) := by decide +kernel
theorem dX2_add_10 : decode cX2_add 10 = .ok (.aload_n 0, 1) := by decide +kernel
theorem dX2_add_11 : decode cX2_add 11 = .ok (.getfield 15, 3) := by decide +kernel
theorem dX2_add_14 : decode cX2_add 14 = .ok (.istore 7, 2) := by decide +kernel
theorem dX2_add_16 : decode cX2_add 16 = .ok (.aload_n 0, 1) := by decide +kernel
theorem dX2_add_17 : decode cX2_add 17 = .ok (.dup, 1) := by decide +kernel
theorem dX2_add_18 : decode cX2_add 18 = .ok (.getfield 15, 3) := by decide +kernel
theorem dX2_add_21 : decode cX2_add 21 = .ok (.iconst 1, 1) := by decide +kernel
theorem dX2_add_22 : decode cX2_add 22 = .ok (.iadd, 1) := by decide +kernel
theorem dX2_add_23 : decode cX2_add 23 = .ok (.putfield 15, 3) := by decide +kernel
theorem dX2_add_26 : decode cX2_add 26 = .ok (.aload_n 0, 1) := by decide +kernel
theorem dX2_add_27 : decode cX2_add 27 = .ok (.iload 7, 2) := by decide +kernel
theorem dX2_add_29 : decode cX2_add 29 = .ok (.iconst 0, 1) := by decide +kernel
theorem dX2_add_30 : decode cX2_add 30 = .ok (.iload_n 1, 1) := by decide +kernel
theorem dX2_add_31 : decode cX2_add 31 = .ok (.invokevirtual 23, 3) := by decide +kernel
theorem dX2_add_34 : decode cX2_add 34 = .ok (.aload_n 0, 1) := by decide +kernel
theorem dX2_add_35 : decode cX2_add 35 = .ok (.iload 7, 2) := by decide +kernel
theorem dX2_add_37 : decode cX2_add 37 = .ok (.iconst 1, 1) := by decide +kernel
theorem dX2_add_38 : decode cX2_add 38 = .ok (.iload_n 2, 1) := by decide +kernel
theorem dX2_add_39 : decode cX2_add 39 = .ok (.invokevirtual 23, 3) := by decide +kernel
theorem dX2_add_42 : decode cX2_add 42 = .ok (.aload_n 0, 1) := by decide +kernel
theorem dX2_add_43 : decode cX2_add 43 = .ok (.iload 7, 2) := by decide +kernel
theorem dX2_add_45 : decode cX2_add 45 = .ok (.iconst 2, 1) := by decide +kernel
theorem dX2_add_46 : decode cX2_add 46 = .ok (.iload_n 3, 1) := by decide +kernel
theorem dX2_add_47 : decode cX2_add 47 = .ok (.invokevirtual 23, 3) := by decide +kernel
theorem dX2_add_50 : decode cX2_add 50 = .ok (.aload_n 0, 1) := by decide +kernel
theorem dX2_add_51 : decode cX2_add 51 = .ok (.iload 7, 2) := by decide +kernel
theorem dX2_add_53 : decode cX2_add 53 = .ok (.iconst 3, 1) := by decide +kernel
theorem dX2_add_54 : decode cX2_add 54 = .ok (.iload 4, 2) := by decide +kernel
theorem dX2_add_56 : decode cX2_add 56 = .ok (.invokevirtual 23, 3) := by decide +kernel
theorem dX2_add_59 : decode cX2_add 59 = .ok (.aload_n 0, 1) := by decide +kernel
theorem dX2_add_60 : decode cX2_add 60 = .ok (.iload 7, 2) := by decide +kernel
theorem dX2_add_62 : decode cX2_add 62 = .ok (.iconst 4, 1) := by decide +kernel
theorem dX2_add_63 : decode cX2_add 63 = .ok (.iload 5, 2) := by decide +kernel
theorem dX2_add_65 : decode cX2_add 65 = .ok (.invokevirtual 23, 3) := by decide +kernel
theorem dX2_add_68 : decode cX2_add 68 = .ok (.aload_n 0, 1) := by decide +kernel
theorem dX2_add_69 : decode cX2_add 69 = .ok (.iload 7, 2) := by decide +kernel
theorem dX2_add_71 : decode cX2_add 71 = .ok (.iconst 5, 1) := by decide +kernel
theorem dX2_add_72 : decode cX2_add 72 = .ok (.iload 6, 2) := by decide +kernel
theorem dX2_add_74 : decode cX2_add 74 = .ok (.invokevirtual 23, 3) := by decide +kernel
theorem dX2_add_77 : decode cX2_add 77 = .ok (.return_, 1) := by decide +kernel
theorem dX2_addAll_0 : decode cX2_addAll 0 = .ok (.iconst 0, 1) := by decide +kernel
theorem dX2_addAll_1 : decode cX2_addAll 1 = .ok (.istore_n 2, 1) := by decide +kernel
theorem dX2_addAll_2 : decode cX2_addAll 2 = .ok (.iload_n 2, 1) := by decide +kernel
theorem dX2_addAll_3 : decode cX2_addAll 3 = .ok (.aload_n 1, 1) := by decide +kernel
theorem dX2_addAll_4 : decode cX2_addAll 4 = .ok (.getfield 15, 3) := by decide +kernel
theorem dX2_addAll_7 : decode cX2_addAll 7 = .ok (.if_icmp .ge 49, 3) := by decide +kernel
theorem dX2_addAll_10 : decode cX2_addAll 10 = .ok (.aload_n 0, 1) := by decide +kernel
theorem dX2_addAll_11 : decode cX2_addAll 11 = .ok (.aload_n 1, 1) := by decide +kernel
theorem dX2_addAll_12 : decode cX2_addAll 12 = .ok (.iload_n 2, 1) := by decide +kernel
theorem dX2_addAll_13 : decode cX2_addAll 13 = .ok (.iconst 0, 1) := by decide +kernel
theorem dX2_addAll_14 : decode cX2_addAll 14 = .ok (.invokevirtual 19, 3) := by decide +kernel
theorem dX2_addAll_17 : decode cX2_addAll 17 = .ok (.aload_n 1, 1) := by decide +kernel
theorem dX2_addAll_18 : decode cX2_addAll 18 = .ok (.iload_n 2, 1) := by decide +kernel
theorem dX2_addAll_19 : decode cX2_addAll 19 = .ok (.iconst 1, 1) := by decide +kernel
theorem dX2_addAll_20 : decode cX2_addAll 20 = .ok (.invokevirtual 19, 3) := by decide +kernel
theorem dX2_addAll_23 : decode cX2_addAll 23 = .ok (.aload_n 1, 1) := by decide +kernel
theorem dX2_addAll_24 : decode cX2_addAll 24 = .ok (.iload_n 2, 1) := by decide +kernel
theorem dX2_addAll_25 : decode cX2_addAll 25 = .ok (.iconst 2, 1) := by decide +kernel
theorem dX2_addAll_26 : decode cX2_addAll 26 = .ok (.invokevirtual 19, 3) := by decide +kernel
theorem dX2_addAll_29 : decode cX2_addAll 29 = .ok (.aload_n 1, 1) := by decide +kernel
theorem dX2_addAll_30 : decode cX2_addAll 30 = .ok (.iload_n 2, 1) := by decide +kernel
theorem dX2_addAll_31 : decode cX2_addAll 31 = .ok (.iconst 3, 1) := by decide +kernel
theorem dX2_addAll_32 : decode cX2_addAll 32 = .ok (.invokevirtual 19, 3) := by decide +kernel
theorem dX2_addAll_35 : decode cX2_addAll 35 = .ok (.aload_n 1, 1) := by decide +kernel
theorem dX2_addAll_36 : decode cX2_addAll 36 = .ok (.iload_n 2, 1) := by decide +kernel
theorem dX2_addAll_37 : decode cX2_addAll 37 = .ok (.iconst 4, 1) := by decide +kernel
theorem dX2_addAll_38 : decode cX2_addAll 38 = .ok (.invokevirtual 19, 3) := by decide +kernel
theorem dX2_addAll_41 : decode cX2_addAll 41 = .ok (.aload_n 1, 1) := by decide +kernel
theorem dX2_addAll_42 : decode cX2_addAll 42 = .ok (.iload_n 2, 1) := by decide +kernel
theorem dX2_addAll_43 : decode cX2_addAll 43 = .ok (.iconst 5, 1) := by decide +kernel
theorem dX2_addAll_44 : decode cX2_addAll 44 = .ok (.invokevirtual 19, 3) := by decide +kernel
theorem dX2_addAll_47 : decode cX2_addAll 47 = .ok (.invokevirtual 27, 3) := by decide +kernel
theorem dX2_addAll_50 : decode cX2_addAll 50 = .ok (.iinc 2 1, 3) := by decide +kernel
theorem dX2_addAll_53 : decode cX2_addAll 53 = .ok (.goto (-51), 3) := by decide +kernel
theorem dX2_addAll_56 : decode cX2_addAll 56 = .ok (.aload_n 0, 1) := by decide +kernel
theorem dX2_addAll_57 : decode cX2_addAll 57 = .ok (.dup, 1) := by decide +kernel
theorem dX2_addAll_58 : decode cX2_addAll 58 = .ok (.getfield 31, 3) := by decide +kernel
theorem dX2_addAll_61 : decode cX2_addAll 61 = .ok (.aload_n 1, 1) := by decide +kernel
theorem dX2_addAll_62 : decode cX2_addAll 62 = .ok (.getfield 31, 3) := by decide +kernel
theorem dX2_addAll_65 : decode cX2_addAll 65 = .ok (.iadd, 1) := by decide +kernel
theorem dX2_addAll_66 : decode cX2_addAll 66 = .ok (.putfield 31, 3) := by decide +kernel
theorem dX2_addAll_69 : decode cX2_addAll 69 = .ok (.aload_n 0, 1) := by decide +kernel
theorem dX2_addAll_70 : decode cX2_addAll 70 = .ok (.dup, 1) := by decide +kernel
theorem dX2_addAll_71 : decode cX2_addAll 71 = .ok (.getfield 34, 3) := by decide +kernel
theorem dX2_addAll_74 : decode cX2_addAll 74 = .ok (.aload_n 1, 1) := by decide +kernel
theorem dX2_addAll_75 : decode cX2_addAll 75 = .ok (.getfield 34, 3) := by decide +kernel
theorem dX2_addAll_78 : decode cX2_addAll 78 = .ok (.iadd, 1) := by decide +kernel
theorem dX2_addAll_79 : decode cX2_addAll 79 = .ok (.putfield 34, 3) := by decide +kernel
theorem dX2_addAll_82 : decode cX2_addAll 82 = .ok (.return_, 1) := by decide +kernel
theorem dX2_takeOut_0 : decode cX2_takeOut 0 = .ok (.iload_n 1, 1) := by decide +kernel
theorem dX2_takeOut_1 : decode cX2_takeOut 1 = .ok (.istore_n 2, 1) := by decide +kernel
theorem dX2_takeOut_2 : decode cX2_takeOut 2 = .ok (.iload_n 2, 1) := by decide +kernel
theorem dX2_takeOut_3 : decode cX2_takeOut 3 = .ok (.aload_n 0, 1) := by decide +kernel
theorem dX2_takeOut_4 : decode cX2_takeOut 4 = .ok (.getfield 15, 3) := by decide +kernel
theorem dX2_takeOut_7 : decode cX2_takeOut 7 = .ok (.iconst 1, 1) := by decide +kernel
theorem dX2_takeOut_8 : decode cX2_takeOut 8 = .ok (.isub, 1) := by decide +kernel
theorem dX2_takeOut_9 : decode cX2_takeOut 9 = .ok (.if_icmp .ge 37, 3) := by decide +kernel
theorem dX2_takeOut_12 : decode cX2_takeOut 12 = .ok (.iconst 0, 1) := by decide +kernel
theorem dX2_takeOut_13 : decode cX2_takeOut 13 = .ok (.istore_n 3, 1) := by decide +kernel
theorem dX2_takeOut_14 : decode cX2_takeOut 14 = .ok (.iload_n 3, 1) := by decide +kernel
theorem dX2_takeOut_15 : decode cX2_takeOut 15 = .ok (.bipush 6, 2) := by decide +kernel
theorem dX2_takeOut_17 : decode cX2_takeOut 17 = .ok (.if_icmp .ge 23, 3) := by decide +kernel
theorem dX2_takeOut_20 : decode cX2_takeOut 20 = .ok (.aload_n 0, 1) := by decide +kernel
theorem dX2_takeOut_21 : decode cX2_takeOut 21 = .ok (.iload_n 2, 1) := by decide +kernel
theorem dX2_takeOut_22 : decode cX2_takeOut 22 = .ok (.iload_n 3, 1) := by decide +kernel
theorem dX2_takeOut_23 : decode cX2_takeOut 23 = .ok (.aload_n 0, 1) := by decide +kernel
theorem dX2_takeOut_24 : decode cX2_takeOut 24 = .ok (.iload_n 2, 1) := by decide +kernel
theorem dX2_takeOut_25 : decode cX2_takeOut 25 = .ok (.iconst 1, 1) := by decide +kernel
theorem dX2_takeOut_26 : decode cX2_takeOut 26 = .ok (.iadd, 1) := by decide +kernel
theorem dX2_takeOut_27 : decode cX2_takeOut 27 = .ok (.iload_n 3, 1) := by decide +kernel
theorem dX2_takeOut_28 : decode cX2_takeOut 28 = .ok (.invokevirtual 19, 3) := by decide +kernel
theorem dX2_takeOut_31 : decode cX2_takeOut 31 = .ok (.invokevirtual 23, 3) := by decide +kernel
theorem dX2_takeOut_34 : decode cX2_takeOut 34 = .ok (.iinc 3 1, 3) := by decide +kernel
theorem dX2_takeOut_37 : decode cX2_takeOut 37 = .ok (.goto (-23), 3) := by decide +kernel
theorem dX2_takeOut_40 : decode cX2_takeOut 40 = .ok (.iinc 2 1, 3) := by decide +kernel
theorem dX2_takeOut_43 : decode cX2_takeOut 43 = .ok (.goto (-41), 3) := by decide +kernel
theorem dX2_takeOut_46 : decode cX2_takeOut 46 = .ok (.aload_n 0, 1) := by decide +kernel
theorem dX2_takeOut_47 : decode cX2_takeOut 47 = .ok (.dup, 1) := by decide +kernel
theorem dX2_takeOut_48 : decode cX2_takeOut 48 = .ok (.getfield 15, 3) := by decide +kernel
theorem dX2_takeOut_51 : decode cX2_takeOut 51 = .ok (.iconst 1, 1) := by decide +kernel
theorem dX2_takeOut_52 : decode cX2_takeOut 52 = .ok (.isub, 1) := by decide +kernel
theorem dX2_takeOut_53 : decode cX2_takeOut 53 = .ok (.putfield 15, 3) := by decide +kernel
theorem dX2_takeOut_56 : decode cX2_takeOut 56 = .ok (.return_, 1) := by decide +kernel
theorem dX2_clear_0 : decode cX2_clear 0 = .ok (.aload_n 0, 1) := by decide +kernel
theorem dX2_clear_1 : decode cX2_clear 1 = .ok (.iconst 0, 1) := by decide +kernel
theorem dX2_clear_2 : decode cX2_clear 2 = .ok (.putfield 15, 3) := by decide +kernel
theorem dX2_clear_5 : decode cX2_clear 5 = .ok (.aload_n 0, 1) := by decide +kernel
theorem dX2_clear_6 : decode cX2_clear 6 = .ok (.iconst 0, 1) := by decide +kernel
theorem dX2_clear_7 : decode cX2_clear 7 = .ok (.putfield 31, 3) := by decide +kernel
theorem dX2_clear_10 : decode cX2_clear 10 = .ok (.aload_n 0, 1) := by decide +kernel
theorem dX2_clear_11 : decode cX2_clear 11 = .ok (.iconst 0, 1) := by decide +kernel
theorem dX2_clear_12 : decode cX2_clear 12 = .ok (.putfield 34, 3) := by decide +kernel
theorem dX2_clear_15 : decode cX2_clear 15 = .ok (.return_, 1) := by decide +kernel
theorem dX2_tellEverywhere_0 : decode cX2_tellEverywhere 0 = .ok (.iconst 0, 1) := by decide +kernel
theorem dX2_tellEverywhere_1 : decode cX2_tellEverywhere 1 = .ok (.istore_n 3, 1) := by decide +kernel
theorem dX2_tellEverywhere_2 : decode cX2_tellEverywhere 2 = .ok (.iload_n 3, 1) := by decide +kernel
theorem dX2_tellEverywhere_3 : decode cX2_tellEverywhere 3 = .ok (.aload_n 0, 1) := by decide +kernel
theorem dX2_tellEverywhere_4 : decode cX2_tellEverywhere 4 = .ok (.getfield 15, 3) := by decide +kernel
theorem dX2_tellEverywhere_7 : decode cX2_tellEverywhere 7 = .ok (.if_icmp .ge 43, 3) := by decide +kernel
theorem dX2_tellEverywhere_10 : decode cX2_tellEverywhere 10 = .ok (.aload_n 0, 1) := by decide +kernel
theorem dX2_tellEverywhere_11 : decode cX2_tellEverywhere 11 = .ok (.iload_n 3, 1) := by decide +kernel
theorem dX2_tellEverywhere_12 : decode cX2_tellEverywhere 12 = .ok (.iconst 2, 1) := by decide +kernel
theorem dX2_tellEverywhere_13 : decode cX2_tellEverywhere 13 = .ok (.invokevirtual 19, 3) := by decide +kernel
theorem dX2_tellEverywhere_16 : decode cX2_tellEverywhere 16 = .ok (.iload_n 1, 1) := by decide +kernel
theorem dX2_tellEverywhere_17 : decode cX2_tellEverywhere 17 = .ok (.if_icmp .ne 10, 3) := by decide +kernel
theorem dX2_tellEverywhere_20 : decode cX2_tellEverywhere 20 = .ok (.aload_n 0, 1) := by decide +kernel
theorem dX2_tellEverywhere_21 : decode cX2_tellEverywhere 21 = .ok (.iload_n 3, 1) := by decide +kernel
theorem dX2_tellEverywhere_22 : decode cX2_tellEverywhere 22 = .ok (.iconst 2, 1) := by decide +kernel
theorem dX2_tellEverywhere_23 : decode cX2_tellEverywhere 23 = .ok (.iload_n 2, 1) := by decide +kernel
theorem dX2_tellEverywhere_24 : decode cX2_tellEverywhere 24 = .ok (.invokevirtual 23, 3) := by decide +kernel
theorem dX2_tellEverywhere_27 : decode cX2_tellEverywhere 27 = .ok (.aload_n 0, 1) := by decide +kernel
theorem dX2_tellEverywhere_28 : decode cX2_tellEverywhere 28 = .ok (.iload_n 3, 1) := by decide +kernel
theorem dX2_tellEverywhere_29 : decode cX2_tellEverywhere 29 = .ok (.iconst 3, 1) := by decide +kernel
theorem dX2_tellEverywhere_30 : decode cX2_tellEverywhere 30 = .ok (.invokevirtual 19, 3) := by decide +kernel
theorem dX2_tellEverywhere_33 : decode cX2_tellEverywhere 33 = .ok (.iload_n 1, 1) := by decide +kernel
theorem dX2_tellEverywhere_34 : decode cX2_tellEverywhere 34 = .ok (.if_icmp .ne 10, 3) := by decide +kernel
theorem dX2_tellEverywhere_37 : decode cX2_tellEverywhere 37 = .ok (.aload_n 0, 1) := by decide +kernel
theorem dX2_tellEverywhere_38 : decode cX2_tellEverywhere 38 = .ok (.iload_n 3, 1) := by decide +kernel
theorem dX2_tellEverywhere_39 : decode cX2_tellEverywhere 39 = .ok (.iconst 3, 1) := by decide +kernel
theorem dX2_tellEverywhere_40 : decode cX2_tellEverywhere 40 = .ok (.iload_n 2, 1) := by decide +kernel
theorem dX2_tellEverywhere_41 : decode cX2_tellEverywhere 41 = .ok (.invokevirtual 23, 3) := by decide +kernel
theorem dX2_tellEverywhere_44 : decode cX2_tellEverywhere 44 = .ok (.iinc 3 1, 3) := by decide +kernel
theorem dX2_tellEverywhere_47 : decode cX2_tellEverywhere 47 = .ok (.goto (-45), 3) := by decide +kernel
theorem dX2_tellEverywhere_50 : decode cX2_tellEverywhere 50 = .ok (.return_, 1) := by decide +kernel
theorem dX2_typeOf_0 : decode cX2_typeOf 0 = .ok (.iload_n 1, 1) := by decide +kernel
theorem dX2_typeOf_1 : decode cX2_typeOf 1 = .ok (.bipush (-100), 2) := by decide +kernel
theorem dX2_typeOf_3 : decode cX2_typeOf 3 = .ok (.if_icmp .ne 6, 3) := by decide +kernel
theorem dX2_typeOf_6 : decode cX2_typeOf 6 = .ok (.bipush (-100), 2) := by decide +kernel
theorem dX2_typeOf_8 : decode cX2_typeOf 8 = .ok (.ireturn, 1) := by decide +kernel
theorem dX2_typeOf_9 : decode cX2_typeOf 9 = .ok (.iload_n 1, 1) := by decide +kernel
theorem dX2_typeOf_10 : decode cX2_typeOf 10 = .ok (.istore_n 2, 1) := by decide +kernel
theorem dX2_typeOf_11 : decode cX2_typeOf 11 = .ok (.iconst 0, 1) := by decide +kernel
theorem dX2_typeOf_12 : decode cX2_typeOf 12 = .ok (.istore_n 3, 1) := by decide +kernel
theorem dX2_typeOf_13 : decode cX2_typeOf 13 = .ok (.iload_n 3, 1) := by decide +kernel
theorem dX2_typeOf_14 : decode cX2_typeOf 14 = .ok (.bipush 10, 2) := by decide +kernel
theorem dX2_typeOf_16 : decode cX2_typeOf 16 = .ok (.if_icmp .gt 55, 3) := by decide +kernel
theorem dX2_typeOf_19 : decode cX2_typeOf 19 = .ok (.iload_n 2, 1) := by decide +kernel
theorem dX2_typeOf_20 : decode cX2_typeOf 20 = .ok (.ifCond .ge 51, 3) := by decide +kernel
theorem dX2_typeOf_23 : decode cX2_typeOf 23 = .ok (.aload_n 0, 1) := by decide +kernel
theorem dX2_typeOf_24 : decode cX2_typeOf 24 = .ok (.iconst 0, 1) := by decide +kernel
theorem dX2_typeOf_25 : decode cX2_typeOf 25 = .ok (.iconst (-1), 1) := by decide +kernel
theorem dX2_typeOf_26 : decode cX2_typeOf 26 = .ok (.iload_n 2, 1) := by decide +kernel
theorem dX2_typeOf_27 : decode cX2_typeOf 27 = .ok (.isub, 1) := by decide +kernel
theorem dX2_typeOf_28 : decode cX2_typeOf 28 = .ok (.invokevirtual 37, 3) := by decide +kernel
theorem dX2_typeOf_31 : decode cX2_typeOf 31 = .ok (.istore 4, 2) := by decide +kernel
theorem dX2_typeOf_33 : decode cX2_typeOf 33 = .ok (.iload 4, 2) := by decide +kernel
theorem dX2_typeOf_35 : decode cX2_typeOf 35 = .ok (.iconst (-1), 1) := by decide +kernel
theorem dX2_typeOf_36 : decode cX2_typeOf 36 = .ok (.if_icmp .ne 7, 3) := by decide +kernel
theorem dX2_typeOf_39 : decode cX2_typeOf 39 = .ok (.sipush (-200), 3) := by decide +kernel
theorem dX2_typeOf_42 : decode cX2_typeOf 42 = .ok (.ireturn, 1) := by decide +kernel
theorem dX2_typeOf_43 : decode cX2_typeOf 43 = .ok (.aload_n 0, 1) := by decide +kernel
theorem dX2_typeOf_44 : decode cX2_typeOf 44 = .ok (.iload 4, 2) := by decide +kernel
theorem dX2_typeOf_46 : decode cX2_typeOf 46 = .ok (.iconst 2, 1) := by decide +kernel
theorem dX2_typeOf_47 : decode cX2_typeOf 47 = .ok (.invokevirtual 19, 3) := by decide +kernel
theorem dX2_typeOf_50 : decode cX2_typeOf 50 = .ok (.bipush (-100), 2) := by decide +kernel
theorem dX2_typeOf_52 : decode cX2_typeOf 52 = .ok (.if_icmp .ne 5, 3) := by decide +kernel
theorem dX2_typeOf_55 : decode cX2_typeOf 55 = .ok (.iload_n 2, 1) := by decide +kernel
theorem dX2_typeOf_56 : decode cX2_typeOf 56 = .ok (.ireturn, 1) := by decide +kernel
theorem dX2_typeOf_57 : decode cX2_typeOf 57 = .ok (.aload_n 0, 1) := by decide +kernel
theorem dX2_typeOf_58 : decode cX2_typeOf 58 = .ok (.iload 4, 2) := by decide +kernel
theorem dX2_typeOf_60 : decode cX2_typeOf 60 = .ok (.iconst 2, 1) := by decide +kernel
theorem dX2_typeOf_61 : decode cX2_typeOf 61 = .ok (.invokevirtual 19, 3) := by decide +kernel
theorem dX2_typeOf_64 : decode cX2_typeOf 64 = .ok (.istore_n 2, 1) := by decide +kernel
theorem dX2_typeOf_65 : decode cX2_typeOf 65 = .ok (.iinc 3 1, 3) := by decide +kernel
theorem dX2_typeOf_68 : decode cX2_typeOf 68 = .ok (.goto (-55), 3) := by decide +kernel
theorem dX2_typeOf_71 : decode cX2_typeOf 71 = .ok (.iload_n 2, 1) := by decide +kernel
theorem dX2_typeOf_72 : decode cX2_typeOf 72 = .ok (.ireturn, 1) := by decide +kernel
theorem dX3_init_0 : decode cX3_init 0 = .ok (.aload_n 0, 1) := by decide +kernel
theorem dX3_init_1 : decode cX3_init 1 = .ok (.invokespecial 3, 3) := by decide +kernel
theorem dX3_init_4 : decode cX3_init 4 = .ok (.aload_n 0, 1) := by decide +kernel
theorem dX3_init_5 : decode cX3_init 5 = .ok (.aload_n 1, 1) := by decide +kernel
theorem dX3_init_6 : decode cX3_init 6 = .ok (.putfield 9, 3) := by decide +kernel
theorem dX3_init_9 : decode cX3_init 9 = .ok (.return_, 1) := by decide +kernel
theorem dX3_at_0 : decode cX3_at 0 = .ok (.iload_n 1, 1) := by decide +kernel
theorem dX3_at_1 : decode cX3_at 1 = .ok (.ifCond .lt 29, 3) := by decide +kernel
theorem dX3_at_4 : decode cX3_at 4 = .ok (.iload_n 1, 1) := by decide +kernel
theorem dX3_at_5 : decode cX3_at 5 = .ok (.aload_n 0, 1) := by decide +kernel
theorem dX3_at_6 : decode cX3_at 6 = .ok (.getfield 15, 3) := by decide +kernel
theorem dX3_at_9 : decode cX3_at 9 = .ok (.if_icmp .ge 21, 3) := by decide +kernel
theorem dX3_at_12 : decode cX3_at 12 = .ok (.iload_n 1, 1) := by decide +kernel
theorem dX3_at_13 : decode cX3_at 13 = .ok (.aload_n 0, 1) := by decide +kernel
theorem dX3_at_14 : decode cX3_at 14 = .ok (.getfield 9, 3) := by decide +kernel
theorem dX3_at_17 : decode cX3_at 17 = .ok (.arraylength, 1) := by decide +kernel
theorem dX3_at_18 : decode cX3_at 18 = .ok (.if_icmp .ge 12, 3) := by decide +kernel
theorem dX3_at_21 : decode cX3_at 21 = .ok (.aload_n 0, 1) := by decide +kernel
theorem dX3_at_22 : decode cX3_at 22 = .ok (.getfield 9, 3) := by decide +kernel
theorem dX3_at_25 : decode cX3_at 25 = .ok (.iload_n 1, 1) := by decide +kernel
theorem dX3_at_26 : decode cX3_at 26 = .ok (.aaload, 1) := by decide +kernel
theorem dX3_at_27 : decode cX3_at 27 = .ok (.goto 4, 3) := by decide +kernel
theorem dX3_at_30 : decode cX3_at 30 = .ok (.aconst_null, 1) := by decide +kernel
theorem dX3_at_31 : decode cX3_at 31 = .ok (.areturn, 1) := by decide +kernel
theorem dX3_blank_0 : decode cX3_blank 0 = .ok (.iload_n 1, 1) := by decide +kernel
theorem dX3_blank_1 : decode cX3_blank 1 = .ok (.aload_n 0, 1) := by decide +kernel
theorem dX3_blank_2 : decode cX3_blank 2 = .ok (.getfield 15, 3) := by decide +kernel
theorem dX3_blank_5 : decode cX3_blank 5 = .ok (.if_icmp .lt 16, 3) := by decide +kernel
theorem dX3_blank_8 : decode cX3_blank 8 = .ok (.iload_n 1, 1) := by decide +kernel
theorem dX3_blank_9 : decode cX3_blank 9 = .ok (.ifCond .lt 12, 3) := by decide +kernel
theorem dX3_blank_12 : decode cX3_blank 12 = .ok (.iload_n 1, 1) := by decide +kernel
theorem dX3_blank_13 : decode cX3_blank 13 = .ok (.aload_n 0, 1) := by decide +kernel
theorem dX3_blank_14 : decode cX3_blank 14 = .ok (.getfield 9, 3) := by decide +kernel
theorem dX3_blank_17 : decode cX3_blank 17 = .ok (.arraylength, 1) := by decide +kernel
theorem dX3_blank_18 : decode cX3_blank 18 = .ok (.if_icmp .lt 5, 3) := by decide +kernel
theorem dX3_blank_21 : decode cX3_blank 21 = .ok (.aconst_null, 1) := by decide +kernel
theorem dX3_blank_22 : decode cX3_blank 22 = .ok (.areturn, 1) := by decide +kernel
theorem dX3_blank_23 : decode cX3_blank 23 = .ok (.aload_n 0, 1) := by decide +kernel
theorem dX3_blank_24 : decode cX3_blank 24 = .ok (.getfield 9, 3) := by decide +kernel
theorem dX3_blank_27 : decode cX3_blank 27 = .ok (.iload_n 1, 1) := by decide +kernel
theorem dX3_blank_28 : decode cX3_blank 28 = .ok (.aaload, 1) := by decide +kernel
theorem dX3_blank_29 : decode cX3_blank 29 = .ok (.astore_n 2, 1) := by decide +kernel
theorem dX3_blank_30 : decode cX3_blank 30 = .ok (.aload_n 2, 1) := by decide +kernel
theorem dX3_blank_31 : decode cX3_blank 31 = .ok (.ifnonnull 18, 3) := by decide +kernel
theorem dX3_blank_34 : decode cX3_blank 34 = .ok (.new 19, 3) := by decide +kernel
theorem dX3_blank_37 : decode cX3_blank 37 = .ok (.dup, 1) := by decide +kernel
theorem dX3_blank_38 : decode cX3_blank 38 = .ok (.invokespecial 21, 3) := by decide +kernel
theorem dX3_blank_41 : decode cX3_blank 41 = .ok (.astore_n 2, 1) := by decide +kernel
theorem dX3_blank_42 : decode cX3_blank 42 = .ok (.aload_n 0, 1) := by decide +kernel
theorem dX3_blank_43 : decode cX3_blank 43 = .ok (.getfield 9, 3) := by decide +kernel
theorem dX3_blank_46 : decode cX3_blank 46 = .ok (.iload_n 1, 1) := by decide +kernel
theorem dX3_blank_47 : decode cX3_blank 47 = .ok (.aload_n 2, 1) := by decide +kernel
theorem dX3_blank_48 : decode cX3_blank 48 = .ok (.aastore, 1) := by decide +kernel
theorem dX3_blank_49 : decode cX3_blank 49 = .ok (.aload_n 2, 1) := by decide +kernel
theorem dX3_blank_50 : decode cX3_blank 50 = .ok (.invokevirtual 22, 3) := by decide +kernel
theorem dX3_blank_53 : decode cX3_blank 53 = .ok (.aload_n 2, 1) := by decide +kernel
theorem dX3_blank_54 : decode cX3_blank 54 = .ok (.areturn, 1) := by decide +kernel
theorem dX3_keep_0 : decode cX3_keep 0 = .ok (.aload_n 0, 1) := by decide +kernel
theorem dX3_keep_1 : decode cX3_keep 1 = .ok (.aload_n 0, 1) := by decide +kernel
theorem dX3_keep_2 : decode cX3_keep 2 = .ok (.getfield 15, 3) := by decide +kernel
theorem dX3_keep_5 : decode cX3_keep 5 = .ok (.invokevirtual 25, 3) := by decide +kernel
theorem dX3_keep_8 : decode cX3_keep 8 = .ok (.astore_n 2, 1) := by decide +kernel
theorem dX3_keep_9 : decode cX3_keep 9 = .ok (.aload_n 2, 1) := by decide +kernel
theorem dX3_keep_10 : decode cX3_keep 10 = .ok (.ifnonnull 5, 3) := by decide +kernel
theorem dX3_keep_13 : decode cX3_keep 13 = .ok (.iconst (-1), 1) := by decide +kernel
theorem dX3_keep_14 : decode cX3_keep 14 = .ok (.ireturn, 1) := by decide +kernel
theorem dX3_keep_15 : decode cX3_keep 15 = .ok (.aload_n 2, 1) := by decide +kernel
theorem dX3_keep_16 : decode cX3_keep 16 = .ok (.aload_n 1, 1) := by decide +kernel
theorem dX3_keep_17 : decode cX3_keep 17 = .ok (.invokevirtual 29, 3) := by decide +kernel
theorem dX3_keep_20 : decode cX3_keep 20 = .ok (.aload_n 1, 1) := by decide +kernel
theorem dX3_keep_21 : decode cX3_keep 21 = .ok (.invokevirtual 22, 3) := by decide +kernel
theorem dX3_keep_24 : decode cX3_keep 24 = .ok (.aload_n 0, 1) := by decide +kernel
theorem dX3_keep_25 : decode cX3_keep 25 = .ok (.dup, 1) := by decide +kernel
theorem dX3_keep_26 : decode cX3_keep 26 = .ok (.getfield 15, 3) := by decide +kernel
theorem dX3_keep_29 : decode cX3_keep 29 = .ok (.iconst 1, 1) := by decide +kernel
theorem dX3_keep_30 : decode cX3_keep 30 = .ok (.iadd, 1) := by decide +kernel
theorem dX3_keep_31 : decode cX3_keep 31 = .ok (.putfield 15, 3) := by decide +kernel
theorem dX3_keep_34 : decode cX3_keep 34 = .ok (.aload_n 0, 1) := by decide +kernel
theorem dX3_keep_35 : decode cX3_keep 35 = .ok (.getfield 15, 3) := by decide +kernel
theorem dX3_keep_38 : decode cX3_keep 38 = .ok (.iconst 1, 1) := by decide +kernel
theorem dX3_keep_39 : decode cX3_keep 39 = .ok (.isub, 1) := by decide +kernel
theorem dX3_keep_40 : decode cX3_keep 40 = .ok (.ireturn, 1) := by decide +kernel
theorem dX4_init_0 : decode cX4_init 0 = .ok (.aload_n 0, 1) := by decide +kernel
theorem dX4_init_1 : decode cX4_init 1 = .ok (.invokespecial 3, 3) := by decide +kernel
theorem dX4_init_4 : decode cX4_init 4 = .ok (.aload_n 0, 1) := by decide +kernel
theorem dX4_init_5 : decode cX4_init 5 = .ok (.sipush 200, 3) := by decide +kernel
theorem dX4_init_8 : decode cX4_init 8 = .ok (.newarray .int, 2) := by decide +kernel
theorem dX4_init_10 : decode cX4_init 10 = .ok (.putfield 9, 3) := by decide +kernel
theorem dX4_init_13 : decode cX4_init 13 = .ok (.aload_n 0, 1) := by decide +kernel
theorem dX4_init_14 : decode cX4_init 14 = .ok (.sipush 200, 3) := by decide +kernel
theorem dX4_init_17 : decode cX4_init 17 = .ok (.newarray .int, 2) := by decide +kernel
theorem dX4_init_19 : decode cX4_init 19 = .ok (.putfield 15, 3) := by decide +kernel
theorem dX4_init_22 : decode cX4_init 22 = .ok (.aload_n 0, 1) := by decide +kernel
theorem dX4_init_23 : decode cX4_init 23 = .ok (.iconst (-1), 1) := by decide +kernel
theorem dX4_init_24 : decode cX4_init 24 = .ok (.iconst (-1), 1) := by decide +kernel
theorem dX4_init_25 : decode cX4_init 25 = .ok (.invokevirtual 18, 3) := by decide +kernel
theorem dX4_init_28 : decode cX4_init 28 = .ok (.pop, 1) := by decide +kernel
theorem dX4_init_29 : decode cX4_init 29 = .ok (.aload_n 0, 1) := by decide +kernel
theorem dX4_init_30 : decode cX4_init 30 = .ok (.iconst (-1), 1) := by decide +kernel
theorem dX4_init_31 : decode cX4_init 31 = .ok (.iconst (-1), 1) := by decide +kernel
theorem dX4_init_32 : decode cX4_init 32 = .ok (.invokevirtual 18, 3) := by decide +kernel
theorem dX4_init_35 : decode cX4_init 35 = .ok (.pop, 1) := by decide +kernel
theorem dX4_init_36 : decode cX4_init 36 = .ok (.return_, 1) := by decide +kernel
theorem dX4_has_0 : decode cX4_has 0 = .ok (.iload_n 1, 1) := by decide +kernel
theorem dX4_has_1 : decode cX4_has 1 = .ok (.ifCond .lt 15, 3) := by decide +kernel
theorem dX4_has_4 : decode cX4_has 4 = .ok (.iload_n 1, 1) := by decide +kernel
theorem dX4_has_5 : decode cX4_has 5 = .ok (.aload_n 0, 1) := by decide +kernel
theorem dX4_has_6 : decode cX4_has 6 = .ok (.getfield 22, 3) := by decide +kernel
theorem dX4_has_9 : decode cX4_has 9 = .ok (.if_icmp .ge 7, 3) := by decide +kernel
theorem dX4_has_12 : decode cX4_has 12 = .ok (.iconst 1, 1) := by decide +kernel
theorem dX4_has_13 : decode cX4_has 13 = .ok (.goto 4, 3) := by decide +kernel
theorem dX4_has_16 : decode cX4_has 16 = .ok (.iconst 0, 1) := by decide +kernel
theorem dX4_has_17 : decode cX4_has 17 = .ok (.ireturn, 1) := by decide +kernel
theorem dX4_fromOf_0 : decode cX4_fromOf 0 = .ok (.aload_n 0, 1) := by decide +kernel
theorem dX4_fromOf_1 : decode cX4_fromOf 1 = .ok (.iload_n 1, 1) := by decide +kernel
theorem dX4_fromOf_2 : decode cX4_fromOf 2 = .ok (.invokevirtual 26, 3) := by decide +kernel
theorem dX4_fromOf_5 : decode cX4_fromOf 5 = .ok (.ifCond .eq 14, 3) := by decide +kernel
theorem dX4_fromOf_8 : decode cX4_fromOf 8 = .ok (.aload_n 0, 1) := by decide +kernel
theorem dX4_fromOf_9 : decode cX4_fromOf 9 = .ok (.getfield 9, 3) := by decide +kernel
theorem dX4_fromOf_12 : decode cX4_fromOf 12 = .ok (.iload_n 1, 1) := by decide +kernel
theorem dX4_fromOf_13 : decode cX4_fromOf 13 = .ok (.invokestatic 30, 3) := by decide +kernel
theorem dX4_fromOf_16 : decode cX4_fromOf 16 = .ok (.goto 4, 3) := by decide +kernel
theorem dX4_fromOf_19 : decode cX4_fromOf 19 = .ok (.iconst (-1), 1) := by decide +kernel
theorem dX4_fromOf_20 : decode cX4_fromOf 20 = .ok (.ireturn, 1) := by decide +kernel
theorem dX4_toOf_0 : decode cX4_toOf 0 = .ok (.aload_n 0, 1) := by decide +kernel
theorem dX4_toOf_1 : decode cX4_toOf 1 = .ok (.iload_n 1, 1) := by decide +kernel
theorem dX4_toOf_2 : decode cX4_toOf 2 = .ok (.invokevirtual 26, 3) := by decide +kernel
theorem dX4_toOf_5 : decode cX4_toOf 5 = .ok (.ifCond .eq 14, 3) := by decide +kernel
theorem dX4_toOf_8 : decode cX4_toOf 8 = .ok (.aload_n 0, 1) := by decide +kernel
theorem dX4_toOf_9 : decode cX4_toOf 9 = .ok (.getfield 15, 3) := by decide +kernel
theorem dX4_toOf_12 : decode cX4_toOf 12 = .ok (.iload_n 1, 1) := by decide +kernel
theorem dX4_toOf_13 : decode cX4_toOf 13 = .ok (.invokestatic 30, 3) := by decide +kernel
theorem dX4_toOf_16 : decode cX4_toOf 16 = .ok (.goto 4, 3) := by decide +kernel
theorem dX4_toOf_19 : decode cX4_toOf 19 = .ok (.iconst (-1), 1) := by decide +kernel
theorem dX4_toOf_20 : decode cX4_toOf 20 = .ok (.ireturn, 1) := by decide +kernel
theorem dX4_isArrow_0 : decode cX4_isArrow 0 = .ok (.aload_n 0, 1) := by decide +kernel
theorem dX4_isArrow_1 : decode cX4_isArrow 1 = .ok (.iload_n 1, 1) := by decide +kernel
theorem dX4_isArrow_2 : decode cX4_isArrow 2 = .ok (.invokevirtual 26, 3) := by decide +kernel
theorem dX4_isArrow_5 : decode cX4_isArrow 5 = .ok (.ifCond .eq 19, 3) := by decide +kernel
theorem dX4_isArrow_8 : decode cX4_isArrow 8 = .ok (.aload_n 0, 1) := by decide +kernel
theorem dX4_isArrow_9 : decode cX4_isArrow 9 = .ok (.getfield 9, 3) := by decide +kernel
theorem dX4_isArrow_12 : decode cX4_isArrow 12 = .ok (.iload_n 1, 1) := by decide +kernel
theorem dX4_isArrow_13 : decode cX4_isArrow 13 = .ok (.invokestatic 30, 3) := by decide +kernel
theorem dX4_isArrow_16 : decode cX4_isArrow 16 = .ok (.iconst (-1), 1) := by decide +kernel
theorem dX4_isArrow_17 : decode cX4_isArrow 17 = .ok (.if_icmp .eq 7, 3) := by decide +kernel
theorem dX4_isArrow_20 : decode cX4_isArrow 20 = .ok (.iconst 1, 1) := by decide +kernel
theorem dX4_isArrow_21 : decode cX4_isArrow 21 = .ok (.goto 4, 3) := by decide +kernel
theorem dX4_isArrow_24 : decode cX4_isArrow 24 = .ok (.iconst 0, 1) := by decide +kernel
theorem dX4_isArrow_25 : decode cX4_isArrow 25 = .ok (.ireturn, 1) := by decide +kernel
theorem dX4_kindOf_0 : decode cX4_kindOf 0 = .ok (.aload_n 0, 1) := by decide +kernel
theorem dX4_kindOf_1 : decode cX4_kindOf 1 = .ok (.iload_n 1, 1) := by decide +kernel
theorem dX4_kindOf_2 : decode cX4_kindOf 2 = .ok (.invokevirtual 34, 3) := by decide +kernel
theorem dX4_kindOf_5 : decode cX4_kindOf 5 = .ok (.ifCond .eq 5, 3) := by decide +kernel
theorem dX4_kindOf_8 : decode cX4_kindOf 8 = .ok (.iconst 2, 1) := by decide +kernel
theorem dX4_kindOf_9 : decode cX4_kindOf 9 = .ok (.ireturn, 1) := by decide +kernel
theorem dX4_kindOf_10 : decode cX4_kindOf 10 = .ok (.iload_n 1, 1) := by decide +kernel
theorem dX4_kindOf_11 : decode cX4_kindOf 11 = .ok (.ifCond .eq 8, 3) := by decide +kernel
theorem dX4_kindOf_14 : decode cX4_kindOf 14 = .ok (.iload_n 1, 1) := by decide +kernel
theorem dX4_kindOf_15 : decode cX4_kindOf 15 = .ok (.iconst 1, 1) := by decide +kernel
theorem dX4_kindOf_16 : decode cX4_kindOf 16 = .ok (.if_icmp .ne 7, 3) := by decide +kernel
theorem dX4_kindOf_19 : decode cX4_kindOf 19 = .ok (.iconst 0, 1) := by decide +kernel
theorem dX4_kindOf_20 : decode cX4_kindOf 20 = .ok (.goto 4, 3) := by decide +kernel
theorem dX4_kindOf_23 : decode cX4_kindOf 23 = .ok (.iconst 1, 1) := by decide +kernel
theorem dX4_kindOf_24 : decode cX4_kindOf 24 = .ok (.ireturn, 1) := by decide +kernel
theorem dX4_newOne_0 : decode cX4_newOne 0 = .ok (.aload_n 0, 1) := by decide +kernel
theorem dX4_newOne_1 : decode cX4_newOne 1 = .ok (.iconst (-1), 1) := by decide +kernel
theorem dX4_newOne_2 : decode cX4_newOne 2 = .ok (.iconst (-1), 1) := by decide +kernel
theorem dX4_newOne_3 : decode cX4_newOne 3 = .ok (.invokevirtual 18, 3) := by decide +kernel
theorem dX4_newOne_6 : decode cX4_newOne 6 = .ok (.ireturn, 1) := by decide +kernel
theorem dX4_arrowOf_0 : decode cX4_arrowOf 0 = .ok (.aload_n 0, 1) := by decide +kernel
theorem dX4_arrowOf_1 : decode cX4_arrowOf 1 = .ok (.iload_n 1, 1) := by decide +kernel
theorem dX4_arrowOf_2 : decode cX4_arrowOf 2 = .ok (.invokevirtual 26, 3) := by decide +kernel
theorem dX4_arrowOf_5 : decode cX4_arrowOf 5 = .ok (.ifCond .eq 11, 3) := by decide +kernel
theorem dX4_arrowOf_8 : decode cX4_arrowOf 8 = .ok (.aload_n 0, 1) := by decide +kernel
theorem dX4_arrowOf_9 : decode cX4_arrowOf 9 = .ok (.iload_n 2, 1) := by decide +kernel
theorem dX4_arrowOf_10 : decode cX4_arrowOf 10 = .ok (.invokevirtual 26, 3) := by decide +kernel
theorem dX4_arrowOf_13 : decode cX4_arrowOf 13 = .ok (.ifCond .ne 5, 3) := by decide +kernel
theorem dX4_arrowOf_16 : decode cX4_arrowOf 16 = .ok (.iconst (-1), 1) := by decide +kernel
theorem dX4_arrowOf_17 : decode cX4_arrowOf 17 = .ok (.ireturn, 1) := by decide +kernel
theorem dX4_arrowOf_18 : decode cX4_arrowOf 18 = .ok (.iconst 0, 1) := by decide +kernel
theorem dX4_arrowOf_19 : decode cX4_arrowOf 19 = .ok (.istore_n 3, 1) := by decide +kernel
theorem dX4_arrowOf_20 : decode cX4_arrowOf 20 = .ok (.iload_n 3, 1) := by decide +kernel
theorem dX4_arrowOf_21 : decode cX4_arrowOf 21 = .ok (.aload_n 0, 1) := by decide +kernel
theorem dX4_arrowOf_22 : decode cX4_arrowOf 22 = .ok (.getfield 22, 3) := by decide +kernel
theorem dX4_arrowOf_25 : decode cX4_arrowOf 25 = .ok (.if_icmp .ge 29, 3) := by decide +kernel
theorem dX4_arrowOf_28 : decode cX4_arrowOf 28 = .ok (.aload_n 0, 1) := by decide +kernel
theorem dX4_arrowOf_29 : decode cX4_arrowOf 29 = .ok (.iload_n 3, 1) := by decide +kernel
theorem dX4_arrowOf_30 : decode cX4_arrowOf 30 = .ok (.invokevirtual 37, 3) := by decide +kernel
theorem dX4_arrowOf_33 : decode cX4_arrowOf 33 = .ok (.iload_n 1, 1) := by decide +kernel
theorem dX4_arrowOf_34 : decode cX4_arrowOf 34 = .ok (.if_icmp .ne 14, 3) := by decide +kernel
theorem dX4_arrowOf_37 : decode cX4_arrowOf 37 = .ok (.aload_n 0, 1) := by decide +kernel
theorem dX4_arrowOf_38 : decode cX4_arrowOf 38 = .ok (.iload_n 3, 1) := by decide +kernel
theorem dX4_arrowOf_39 : decode cX4_arrowOf 39 = .ok (.invokevirtual 41, 3) := by decide +kernel
theorem dX4_arrowOf_42 : decode cX4_arrowOf 42 = .ok (.iload_n 2, 1) := by decide +kernel
theorem dX4_arrowOf_43 : decode cX4_arrowOf 43 = .ok (.if_icmp .ne 5, 3) := by decide +kernel
theorem dX4_arrowOf_46 : decode cX4_arrowOf 46 = .ok (.iload_n 3, 1) := by decide +kernel
theorem dX4_arrowOf_47 : decode cX4_arrowOf 47 = .ok (.ireturn, 1) := by decide +kernel
theorem dX4_arrowOf_48 : decode cX4_arrowOf 48 = .ok (.iinc 3 1, 3) := by decide +kernel
theorem dX4_arrowOf_51 : decode cX4_arrowOf 51 = .ok (.goto (-31), 3) := by decide +kernel
theorem dX4_arrowOf_54 : decode cX4_arrowOf 54 = .ok (.aload_n 0, 1) := by decide +kernel
theorem dX4_arrowOf_55 : decode cX4_arrowOf 55 = .ok (.iload_n 1, 1) := by decide +kernel
theorem dX4_arrowOf_56 : decode cX4_arrowOf 56 = .ok (.iload_n 2, 1) := by decide +kernel
theorem dX4_arrowOf_57 : decode cX4_arrowOf 57 = .ok (.invokevirtual 18, 3) := by decide +kernel
theorem dX4_arrowOf_60 : decode cX4_arrowOf 60 = .ok (.ireturn, 1) := by decide +kernel
theorem dX4_append_0 : decode cX4_append 0 = .ok (.aload_n 0, 1) := by decide +kernel
theorem dX4_append_1 : decode cX4_append 1 = .ok (.getfield 22, 3) := by decide +kernel
theorem dX4_append_4 : decode cX4_append 4 = .ok (.sipush 200, 3) := by decide +kernel
theorem dX4_append_7 : decode cX4_append 7 = .ok (.if_icmp .lt 5, 3) := by decide +kernel
theorem dX4_append_10 : decode cX4_append 10 = .ok (.iconst (-1), 1) := by decide +kernel
theorem dX4_append_11 : decode cX4_append 11 = .ok (.ireturn, 1) := by decide +kernel
theorem dX4_append_12 : decode cX4_append 12 = .ok (.aload_n 0, 1) := by decide +kernel
theorem dX4_append_13 : decode cX4_append 13 = .ok (.getfield 9, 3) := by decide +kernel
theorem dX4_append_16 : decode cX4_append 16 = .ok (.aload_n 0, 1) := by decide +kernel
theorem dX4_append_17 : decode cX4_append 17 = .ok (.getfield 22, 3) := by decide +kernel
theorem dX4_append_20 : decode cX4_append 20 = .ok (.iload_n 1, 1) := by decide +kernel
theorem dX4_append_21 : decode cX4_append 21 = .ok (.invokestatic 44, 3) := by decide +kernel
theorem dX4_append_24 : decode cX4_append 24 = .ok (.aload_n 0, 1) := by decide +kernel
theorem dX4_append_25 : decode cX4_append 25 = .ok (.getfield 15, 3) := by decide +kernel
theorem dX4_append_28 : decode cX4_append 28 = .ok (.aload_n 0, 1) := by decide +kernel
theorem dX4_append_29 : decode cX4_append 29 = .ok (.getfield 22, 3) := by decide +kernel
theorem dX4_append_32 : decode cX4_append 32 = .ok (.iload_n 2, 1) := by decide +kernel
theorem dX4_append_33 : decode cX4_append 33 = .ok (.invokestatic 44, 3) := by decide +kernel
theorem dX4_append_36 : decode cX4_append 36 = .ok (.aload_n 0, 1) := by decide +kernel
theorem dX4_append_37 : decode cX4_append 37 = .ok (.dup, 1) := by decide +kernel
theorem dX4_append_38 : decode cX4_append 38 = .ok (.getfield 22, 3) := by decide +kernel
theorem dX4_append_41 : decode cX4_append 41 = .ok (.iconst 1, 1) := by decide +kernel
theorem dX4_append_42 : decode cX4_append 42 = .ok (.iadd, 1) := by decide +kernel
theorem dX4_append_43 : decode cX4_append 43 = .ok (.putfield 22, 3) := by decide +kernel
theorem dX4_append_46 : decode cX4_append 46 = .ok (.aload_n 0, 1) := by decide +kernel
theorem dX4_append_47 : decode cX4_append 47 = .ok (.getfield 22, 3) := by decide +kernel
theorem dX4_append_50 : decode cX4_append 50 = .ok (.iconst 1, 1) := by decide +kernel
theorem dX4_append_51 : decode cX4_append 51 = .ok (.isub, 1) := by decide +kernel
theorem dX4_append_52 : decode cX4_append 52 = .ok (.ireturn, 1) := by decide +kernel
theorem dX5_init_0 : decode cX5_init 0 = .ok (.aload_n 0, 1) := by decide +kernel
theorem dX5_init_1 : decode cX5_init 1 = .ok (.invokespecial 3, 3) := by decide +kernel
theorem dX5_init_4 : decode cX5_init 4 = .ok (.aload_n 0, 1) := by decide +kernel
theorem dX5_init_5 : decode cX5_init 5 = .ok (.iconst (-1), 1) := by decide +kernel
theorem dX5_init_6 : decode cX5_init 6 = .ok (.putfield 9, 3) := by decide +kernel
theorem dX5_init_9 : decode cX5_init 9 = .ok (.aload_n 0, 1) := by decide +kernel
theorem dX5_init_10 : decode cX5_init 10 = .ok (.bipush 8, 2) := by decide +kernel
theorem dX5_init_12 : decode cX5_init 12 = .ok (.newarray .int, 2) := by decide +kernel
theorem dX5_init_14 : decode cX5_init 14 = .ok (.putfield 15, 3) := by decide +kernel
theorem dX5_init_17 : decode cX5_init 17 = .ok (.aload_n 0, 1) := by decide +kernel
theorem dX5_init_18 : decode cX5_init 18 = .ok (.bipush 8, 2) := by decide +kernel
theorem dX5_init_20 : decode cX5_init 20 = .ok (.newarray .int, 2) := by decide +kernel
theorem dX5_init_22 : decode cX5_init 22 = .ok (.putfield 19, 3) := by decide +kernel
theorem dX5_init_25 : decode cX5_init 25 = .ok (.aload_n 0, 1) := by decide +kernel
theorem dX5_init_26 : decode cX5_init 26 = .ok (.iload_n 1, 1) := by decide +kernel
theorem dX5_init_27 : decode cX5_init 27 = .ok (.putfield 22, 3) := by decide +kernel
theorem dX5_init_30 : decode cX5_init 30 = .ok (.aload_n 0, 1) := by decide +kernel
theorem dX5_init_31 : decode cX5_init 31 = .ok (.iload_n 2, 1) := by decide +kernel
theorem dX5_init_32 : decode cX5_init 32 = .ok (.putfield 25, 3) := by decide +kernel
theorem dX5_init_35 : decode cX5_init 35 = .ok (.aload_n 0, 1) := by decide +kernel
theorem dX5_init_36 : decode cX5_init 36 = .ok (.iload_n 3, 1) := by decide +kernel
theorem dX5_init_37 : decode cX5_init 37 = .ok (.putfield 28, 3) := by decide +kernel
theorem dX5_init_40 : decode cX5_init 40 = .ok (.return_, 1) := by decide +kernel
theorem dX5_isUsing_0 : decode cX5_isUsing 0 = .ok (.aload_n 0, 1) := by decide +kernel
theorem dX5_isUsing_1 : decode cX5_isUsing 1 = .ok (.getfield 25, 3) := by decide +kernel
theorem dX5_isUsing_4 : decode cX5_isUsing 4 = .ok (.iload_n 1, 1) := by decide +kernel
theorem dX5_isUsing_5 : decode cX5_isUsing 5 = .ok (.ishr, 1) := by decide +kernel
theorem dX5_isUsing_6 : decode cX5_isUsing 6 = .ok (.iconst 1, 1) := by decide +kernel
theorem dX5_isUsing_7 : decode cX5_isUsing 7 = .ok (.iand, 1) := by decide +kernel
theorem dX5_isUsing_8 : decode cX5_isUsing 8 = .ok (.iconst 1, 1) := by decide +kernel
theorem dX5_isUsing_9 : decode cX5_isUsing 9 = .ok (.if_icmp .ne 7, 3) := by decide +kernel
theorem dX5_isUsing_12 : decode cX5_isUsing 12 = .ok (.iconst 1, 1) := by decide +kernel
theorem dX5_isUsing_13 : decode cX5_isUsing 13 = .ok (.goto 4, 3) := by decide +kernel
theorem dX5_isUsing_16 : decode cX5_isUsing 16 = .ok (.iconst 0, 1) := by decide +kernel
theorem dX5_isUsing_17 : decode cX5_isUsing 17 = .ok (.ireturn, 1) := by decide +kernel
theorem dX5_note_0 : decode cX5_note 0 = .ok (.aload_n 0, 1) := by decide +kernel
theorem dX5_note_1 : decode cX5_note 1 = .ok (.getfield 15, 3) := by decide +kernel
theorem dX5_note_4 : decode cX5_note 4 = .ok (.iload_n 1, 1) := by decide +kernel
theorem dX5_note_5 : decode cX5_note 5 = .ok (.iload_n 2, 1) := by decide +kernel
theorem dX5_note_6 : decode cX5_note 6 = .ok (.invokestatic 32, 3) := by decide +kernel
theorem dX5_note_9 : decode cX5_note 9 = .ok (.aload_n 0, 1) := by decide +kernel
theorem dX5_note_10 : decode cX5_note 10 = .ok (.getfield 19, 3) := by decide +kernel
theorem dX5_note_13 : decode cX5_note 13 = .ok (.iload_n 1, 1) := by decide +kernel
theorem dX5_note_14 : decode cX5_note 14 = .ok (.iload_n 3, 1) := by decide +kernel
theorem dX5_note_15 : decode cX5_note 15 = .ok (.invokestatic 32, 3) := by decide +kernel
theorem dX5_note_18 : decode cX5_note 18 = .ok (.return_, 1) := by decide +kernel
theorem dX5_notedFace_0 : decode cX5_notedFace 0 = .ok (.aload_n 0, 1) := by decide +kernel
theorem dX5_notedFace_1 : decode cX5_notedFace 1 = .ok (.getfield 15, 3) := by decide +kernel
theorem dX5_notedFace_4 : decode cX5_notedFace 4 = .ok (.iload_n 1, 1) := by decide +kernel
theorem dX5_notedFace_5 : decode cX5_notedFace 5 = .ok (.invokestatic 36, 3) := by decide +kernel
theorem dX5_notedFace_8 : decode cX5_notedFace 8 = .ok (.ireturn, 1) := by decide +kernel
theorem dX5_notedChanges_0 : decode cX5_notedChanges 0 = .ok (.aload_n 0, 1) := by decide +kernel
theorem dX5_notedChanges_1 : decode cX5_notedChanges 1 = .ok (.getfield 19, 3) := by decide +kernel
theorem dX5_notedChanges_4 : decode cX5_notedChanges 4 = .ok (.iload_n 1, 1) := by decide +kernel
theorem dX5_notedChanges_5 : decode cX5_notedChanges 5 = .ok (.invokestatic 36, 3) := by decide +kernel
theorem dX5_notedChanges_8 : decode cX5_notedChanges 8 = .ok (.ireturn, 1) := by decide +kernel
theorem dX6_init_0 : decode cX6_init 0 = .ok (.aload_n 0, 1) := by decide +kernel
theorem dX6_init_1 : decode cX6_init 1 = .ok (.invokespecial 3, 3) := by decide +kernel
theorem dX6_init_4 : decode cX6_init 4 = .ok (.aload_n 0, 1) := by decide +kernel
theorem dX6_init_5 : decode cX6_init 5 = .ok (.new 9, 3) := by decide +kernel
theorem dX6_init_8 : decode cX6_init 8 = .ok (.dup, 1) := by decide +kernel
theorem dX6_init_9 : decode cX6_init 9 = .ok (.invokespecial 11, 3) := by decide +kernel
theorem dX6_init_12 : decode cX6_init 12 = .ok (.putfield 12, 3) := by decide +kernel
theorem dX6_init_15 : decode cX6_init 15 = .ok (.aload_n 0, 1) := by decide +kernel
theorem dX6_init_16 : decode cX6_init 16 = .ok (.new 16, 3) := by decide +kernel
theorem dX6_init_19 : decode cX6_init 19 = .ok (.dup, 1) := by decide +kernel
theorem dX6_init_20 : decode cX6_init 20 = .ok (.bipush 30, 2) := by decide +kernel
theorem dX6_init_22 : decode cX6_init 22 = .ok (.anewarray 18, 3) := by decide +kernel
theorem dX6_init_25 : decode cX6_init 25 = .ok (.invokespecial 20, 3) := by decide +kernel
theorem dX6_init_28 : decode cX6_init 28 = .ok (.putfield 23, 3) := by decide +kernel
theorem dX6_init_31 : decode cX6_init 31 = .ok (.aload_n 0, 1) := by decide +kernel
theorem dX6_init_32 : decode cX6_init 32 = .ok (.new 16, 3) := by decide +kernel
theorem dX6_init_35 : decode cX6_init 35 = .ok (.dup, 1) := by decide +kernel
theorem dX6_init_36 : decode cX6_init 36 = .ok (.bipush 20, 2) := by decide +kernel
theorem dX6_init_38 : decode cX6_init 38 = .ok (.anewarray 18, 3) := by decide +kernel
theorem dX6_init_41 : decode cX6_init 41 = .ok (.invokespecial 20, 3) := by decide +kernel
theorem dX6_init_44 : decode cX6_init 44 = .ok (.putfield 27, 3) := by decide +kernel
theorem dX6_init_47 : decode cX6_init 47 = .ok (.aload_n 0, 1) := by decide +kernel
theorem dX6_init_48 : decode cX6_init 48 = .ok (.new 18, 3) := by decide +kernel
theorem dX6_init_51 : decode cX6_init 51 = .ok (.dup, 1) := by decide +kernel
theorem dX6_init_52 : decode cX6_init 52 = .ok (.invokespecial 30, 3) := by decide +kernel
theorem dX6_init_55 : decode cX6_init 55 = .ok (.putfield 31, 3) := by decide +kernel
theorem dX6_init_58 : decode cX6_init 58 = .ok (.aload_n 0, 1) := by decide +kernel
theorem dX6_init_59 : decode cX6_init 59 = .ok (.new 18, 3) := by decide +kernel
theorem dX6_init_62 : decode cX6_init 62 = .ok (.dup, 1) := by decide +kernel
theorem dX6_init_63 : decode cX6_init 63 = .ok (.invokespecial 30, 3) := by decide +kernel
theorem dX6_init_66 : decode cX6_init 66 = .ok (.putfield 35, 3) := by decide +kernel
theorem dX6_init_69 : decode cX6_init 69 = .ok (.aload_n 0, 1) := by decide +kernel
theorem dX6_init_70 : decode cX6_init 70 = .ok (.new 18, 3) := by decide +kernel
theorem dX6_init_73 : decode cX6_init 73 = .ok (.dup, 1) := by decide +kernel
theorem dX6_init_74 : decode cX6_init 74 = .ok (.invokespecial 30, 3) := by decide +kernel
theorem dX6_init_77 : decode cX6_init 77 = .ok (.putfield 38, 3) := by decide +kernel
theorem dX6_init_80 : decode cX6_init 80 = .ok (.aload_n 0, 1) := by decide +kernel
theorem dX6_init_81 : decode cX6_init 81 = .ok (.bipush 8, 2) := by decide +kernel
theorem dX6_init_83 : decode cX6_init 83 = .ok (.anewarray 41, 3) := by decide +kernel
theorem dX6_init_86 : decode cX6_init 86 = .ok (.putfield 43, 3) := by decide +kernel
theorem dX6_init_89 : decode cX6_init 89 = .ok (.aload_n 0, 1) := by decide +kernel
theorem dX6_init_90 : decode cX6_init 90 = .ok (.bipush 10, 2) := by decide +kernel
theorem dX6_init_92 : decode cX6_init 92 = .ok (.anewarray 47, 3) := by decide +kernel
theorem dX6_init_95 : decode cX6_init 95 = .ok (.putfield 49, 3) := by decide +kernel
theorem dX6_init_98 : decode cX6_init 98 = .ok (.aload_n 0, 1) := by decide +kernel
theorem dX6_init_99 : decode cX6_init 99 = .ok (.bipush 8, 2) := by decide +kernel
theorem dX6_init_101 : decode cX6_init 101 = .ok (.anewarray 53, 3) := by decide +kernel
theorem dX6_init_104 : decode cX6_init 104 = .ok (.putfield 55, 3) := by decide +kernel
theorem dX6_init_107 : decode cX6_init 107 = .ok (.return_, 1) := by decide +kernel
theorem dX6_arrow_0 : decode cX6_arrow 0 = .ok (.aload_n 0, 1) := by decide +kernel
theorem dX6_arrow_1 : decode cX6_arrow 1 = .ok (.iload_n 1, 1) := by decide +kernel
theorem dX6_arrow_2 : decode cX6_arrow 2 = .ok (.invokevirtual 59, 3) := by decide +kernel
theorem dX6_arrow_5 : decode cX6_arrow 5 = .ok (.aload_n 0, 1) := by decide +kernel
theorem dX6_arrow_6 : decode cX6_arrow 6 = .ok (.iload_n 2, 1) := by decide +kernel
theorem dX6_arrow_7 : decode cX6_arrow 7 = .ok (.invokevirtual 59, 3) := by decide +kernel
theorem dX6_arrow_10 : decode cX6_arrow 10 = .ok (.aload_n 0, 1) := by decide +kernel
theorem dX6_arrow_11 : decode cX6_arrow 11 = .ok (.getfield 12, 3) := by decide +kernel
theorem dX6_arrow_14 : decode cX6_arrow 14 = .ok (.iload_n 1, 1) := by decide +kernel
theorem dX6_arrow_15 : decode cX6_arrow 15 = .ok (.iload_n 2, 1) := by decide +kernel
theorem dX6_arrow_16 : decode cX6_arrow 16 = .ok (.invokevirtual 63, 3) := by decide +kernel
theorem dX6_arrow_19 : decode cX6_arrow 19 = .ok (.istore_n 3, 1) := by decide +kernel
theorem dX6_arrow_20 : decode cX6_arrow 20 = .ok (.iload_n 3, 1) := by decide +kernel
theorem dX6_arrow_21 : decode cX6_arrow 21 = .ok (.iconst (-1), 1) := by decide +kernel
theorem dX6_arrow_22 : decode cX6_arrow 22 = .ok (.if_icmp .ne 13, 3) := by decide +kernel
theorem dX6_arrow_25 : decode cX6_arrow 25 = .ok (.new 67, 3) := by decide +kernel
theorem dX6_arrow_28 : decode cX6_arrow 28 = .ok (.dup, 1) := by decide +kernel
theorem dX6_arrow_29 : decode cX6_arrow 29 = .ok (.ldc 69, 2) := by decide +kernel
theorem dX6_arrow_31 : decode cX6_arrow 31 = .ok (.invokespecial 71, 3) := by decide +kernel
theorem dX6_arrow_34 : decode cX6_arrow 34 = .ok (.athrow, 1) := by decide +kernel
theorem dX6_arrow_35 : decode cX6_arrow 35 = .ok (.iload_n 3, 1) := by decide +kernel
theorem dX6_arrow_36 : decode cX6_arrow 36 = .ok (.ireturn, 1) := by decide +kernel
theorem dX6_type_0 : decode cX6_type 0 = .ok (.aload_n 0, 1) := by decide +kernel
theorem dX6_type_1 : decode cX6_type 1 = .ok (.iload_n 1, 1) := by decide +kernel
theorem dX6_type_2 : decode cX6_type 2 = .ok (.invokevirtual 59, 3) := by decide +kernel
theorem dX6_type_5 : decode cX6_type 5 = .ok (.iload_n 2, 1) := by decide +kernel
theorem dX6_type_6 : decode cX6_type 6 = .ok (.ifCond .ne 12, 3) := by decide +kernel
theorem dX6_type_9 : decode cX6_type 9 = .ok (.aload_n 0, 1) := by decide +kernel
theorem dX6_type_10 : decode cX6_type 10 = .ok (.getfield 12, 3) := by decide +kernel
theorem dX6_type_13 : decode cX6_type 13 = .ok (.iload_n 1, 1) := by decide +kernel
theorem dX6_type_14 : decode cX6_type 14 = .ok (.invokevirtual 74, 3) := by decide +kernel
theorem dX6_type_17 : decode cX6_type 17 = .ok (.ireturn, 1) := by decide +kernel
theorem dX6_type_18 : decode cX6_type 18 = .ok (.iload_n 2, 1) := by decide +kernel
theorem dX6_type_19 : decode cX6_type 19 = .ok (.iconst 1, 1) := by decide +kernel
theorem dX6_type_20 : decode cX6_type 20 = .ok (.if_icmp .ne 12, 3) := by decide +kernel
theorem dX6_type_23 : decode cX6_type 23 = .ok (.aload_n 0, 1) := by decide +kernel
theorem dX6_type_24 : decode cX6_type 24 = .ok (.getfield 12, 3) := by decide +kernel
theorem dX6_type_27 : decode cX6_type 27 = .ok (.iload_n 1, 1) := by decide +kernel
theorem dX6_type_28 : decode cX6_type 28 = .ok (.invokevirtual 78, 3) := by decide +kernel
theorem dX6_type_31 : decode cX6_type 31 = .ok (.ireturn, 1) := by decide +kernel
theorem dX6_type_32 : decode cX6_type 32 = .ok (.iload_n 2, 1) := by decide +kernel
theorem dX6_type_33 : decode cX6_type 33 = .ok (.iconst 2, 1) := by decide +kernel
theorem dX6_type_34 : decode cX6_type 34 = .ok (.if_icmp .ne 12, 3) := by decide +kernel
theorem dX6_type_37 : decode cX6_type 37 = .ok (.aload_n 0, 1) := by decide +kernel
theorem dX6_type_38 : decode cX6_type 38 = .ok (.getfield 12, 3) := by decide +kernel
theorem dX6_type_41 : decode cX6_type 41 = .ok (.iload_n 1, 1) := by decide +kernel
theorem dX6_type_42 : decode cX6_type 42 = .ok (.invokevirtual 81, 3) := by decide +kernel
theorem dX6_type_45 : decode cX6_type 45 = .ok (.ireturn, 1) := by decide +kernel
theorem dX6_type_46 : decode cX6_type 46 = .ok (.new 84, 3) := by decide +kernel
theorem dX6_type_49 : decode cX6_type 49 = .ok (.dup, 1) := by decide +kernel
theorem dX6_type_50 : decode cX6_type 50 = .ok (.ldc 86, 2) := by decide +kernel
theorem dX6_type_52 : decode cX6_type 52 = .ok (.invokespecial 88, 3) := by decide +kernel
theorem dX6_type_55 : decode cX6_type 55 = .ok (.athrow, 1) := by decide +kernel
theorem dX6_addType_0 : decode cX6_addType 0 = .ok (.iload_n 2, 1) := by decide +kernel
theorem dX6_addType_1 : decode cX6_addType 1 = .ok (.iconst (-1), 1) := by decide +kernel
theorem dX6_addType_2 : decode cX6_addType 2 = .ok (.if_icmp .eq 8, 3) := by decide +kernel
theorem dX6_addType_5 : decode cX6_addType 5 = .ok (.aload_n 0, 1) := by decide +kernel
theorem dX6_addType_6 : decode cX6_addType 6 = .ok (.iload_n 2, 1) := by decide +kernel
theorem dX6_addType_7 : decode cX6_addType 7 = .ok (.invokevirtual 59, 3) := by decide +kernel
theorem dX6_addType_10 : decode cX6_addType 10 = .ok (.iload_n 1, 1) := by decide +kernel
theorem dX6_addType_11 : decode cX6_addType 11 = .ok (.invokestatic 89, 3) := by decide +kernel
theorem dX6_addType_14 : decode cX6_addType 14 = .ok (.iload_n 2, 1) := by decide +kernel
theorem dX6_addType_15 : decode cX6_addType 15 = .ok (.iconst (-1), 1) := by decide +kernel
theorem dX6_addType_16 : decode cX6_addType 16 = .ok (.if_icmp .ne 13, 3) := by decide +kernel
theorem dX6_addType_19 : decode cX6_addType 19 = .ok (.aload_n 0, 1) := by decide +kernel
theorem dX6_addType_20 : decode cX6_addType 20 = .ok (.getfield 12, 3) := by decide +kernel
theorem dX6_addType_23 : decode cX6_addType 23 = .ok (.invokevirtual 92, 3) := by decide +kernel
theorem dX6_addType_26 : decode cX6_addType 26 = .ok (.goto 4, 3) := by decide +kernel
theorem dX6_addType_29 : decode cX6_addType 29 = .ok (.iload_n 2, 1) := by decide +kernel
theorem dX6_addType_30 : decode cX6_addType 30 = .ok (.istore_n 3, 1) := by decide +kernel
theorem dX6_addType_31 : decode cX6_addType 31 = .ok (.iload_n 3, 1) := by decide +kernel
theorem dX6_addType_32 : decode cX6_addType 32 = .ok (.iconst (-1), 1) := by decide +kernel
theorem dX6_addType_33 : decode cX6_addType 33 = .ok (.if_icmp .ne 13, 3) := by decide +kernel
theorem dX6_addType_36 : decode cX6_addType 36 = .ok (.new 67, 3) := by decide +kernel
theorem dX6_addType_39 : decode cX6_addType 39 = .ok (.dup, 1) := by decide +kernel
theorem dX6_addType_40 : decode cX6_addType 40 = .ok (.ldc 69, 2) := by decide +kernel
theorem dX6_addType_42 : decode cX6_addType 42 = .ok (.invokespecial 71, 3) := by decide +kernel
theorem dX6_addType_45 : decode cX6_addType 45 = .ok (.athrow, 1) := by decide +kernel
theorem dX6_addType_46 : decode cX6_addType 46 = .ok (.aload_n 0, 1) := by decide +kernel
theorem dX6_addType_47 : decode cX6_addType 47 = .ok (.iconst 0, 1) := by decide +kernel
theorem dX6_addType_48 : decode cX6_addType 48 = .ok (.iload_n 1, 1) := by decide +kernel
theorem dX6_addType_49 : decode cX6_addType 49 = .ok (.iload_n 3, 1) := by decide +kernel
theorem dX6_addType_50 : decode cX6_addType 50 = .ok (.iconst 0, 1) := by decide +kernel
theorem dX6_addType_51 : decode cX6_addType 51 = .ok (.invokevirtual 96, 3) := by decide +kernel
theorem dX6_addType_54 : decode cX6_addType 54 = .ok (.pop, 1) := by decide +kernel
theorem dX6_addType_55 : decode cX6_addType 55 = .ok (.iload_n 3, 1) := by decide +kernel
theorem dX6_addType_56 : decode cX6_addType 56 = .ok (.ireturn, 1) := by decide +kernel
theorem dX6_addValue_0 : decode cX6_addValue 0 = .ok (.aload_n 0, 1) := by decide +kernel
theorem dX6_addValue_1 : decode cX6_addValue 1 = .ok (.iload_n 2, 1) := by decide +kernel
theorem dX6_addValue_2 : decode cX6_addValue 2 = .ok (.invokevirtual 59, 3) := by decide +kernel
theorem dX6_addValue_5 : decode cX6_addValue 5 = .ok (.iload_n 1, 1) := by decide +kernel
theorem dX6_addValue_6 : decode cX6_addValue 6 = .ok (.invokestatic 89, 3) := by decide +kernel
theorem dX6_addValue_9 : decode cX6_addValue 9 = .ok (.iload_n 3, 1) := by decide +kernel
theorem dX6_addValue_10 : decode cX6_addValue 10 = .ok (.invokestatic 100, 3) := by decide +kernel
theorem dX6_addValue_13 : decode cX6_addValue 13 = .ok (.aload_n 0, 1) := by decide +kernel
theorem dX6_addValue_14 : decode cX6_addValue 14 = .ok (.iconst 1, 1) := by decide +kernel
theorem dX6_addValue_15 : decode cX6_addValue 15 = .ok (.iload_n 1, 1) := by decide +kernel
theorem dX6_addValue_16 : decode cX6_addValue 16 = .ok (.iload_n 2, 1) := by decide +kernel
theorem dX6_addValue_17 : decode cX6_addValue 17 = .ok (.iload_n 3, 1) := by decide +kernel
theorem dX6_addValue_18 : decode cX6_addValue 18 = .ok (.invokevirtual 96, 3) := by decide +kernel
theorem dX6_addValue_21 : decode cX6_addValue 21 = .ok (.ireturn, 1) := by decide +kernel
theorem dX6_addPart_0 : decode cX6_addPart 0 = .ok (.aload_n 0, 1) := by decide +kernel
theorem dX6_addPart_1 : decode cX6_addPart 1 = .ok (.getfield 23, 3) := by decide +kernel
theorem dX6_addPart_4 : decode cX6_addPart 4 = .ok (.iload_n 2, 1) := by decide +kernel
theorem dX6_addPart_5 : decode cX6_addPart 5 = .ok (.invokevirtual 103, 3) := by decide +kernel
theorem dX6_addPart_8 : decode cX6_addPart 8 = .ok (.invokestatic 107, 3) := by decide +kernel
theorem dX6_addPart_11 : decode cX6_addPart 11 = .ok (.iload_n 1, 1) := by decide +kernel
theorem dX6_addPart_12 : decode cX6_addPart 12 = .ok (.invokestatic 89, 3) := by decide +kernel
theorem dX6_addPart_15 : decode cX6_addPart 15 = .ok (.aload_n 0, 1) := by decide +kernel
theorem dX6_addPart_16 : decode cX6_addPart 16 = .ok (.iconst 2, 1) := by decide +kernel
theorem dX6_addPart_17 : decode cX6_addPart 17 = .ok (.iload_n 1, 1) := by decide +kernel
theorem dX6_addPart_18 : decode cX6_addPart 18 = .ok (.iload_n 2, 1) := by decide +kernel
theorem dX6_addPart_19 : decode cX6_addPart 19 = .ok (.iconst 0, 1) := by decide +kernel
theorem dX6_addPart_20 : decode cX6_addPart 20 = .ok (.invokevirtual 96, 3) := by decide +kernel
theorem dX6_addPart_23 : decode cX6_addPart 23 = .ok (.ireturn, 1) := by decide +kernel
theorem dX6_open_0 : decode cX6_open 0 = .ok (.aload_n 0, 1) := by decide +kernel
theorem dX6_open_1 : decode cX6_open 1 = .ok (.getfield 23, 3) := by decide +kernel
theorem dX6_open_4 : decode cX6_open 4 = .ok (.iload_n 1, 1) := by decide +kernel
theorem dX6_open_5 : decode cX6_open 5 = .ok (.invokevirtual 103, 3) := by decide +kernel
theorem dX6_open_8 : decode cX6_open 8 = .ok (.astore_n 2, 1) := by decide +kernel
theorem dX6_open_9 : decode cX6_open 9 = .ok (.aload_n 2, 1) := by decide +kernel
theorem dX6_open_10 : decode cX6_open 10 = .ok (.ifnonnull 13, 3) := by decide +kernel
theorem dX6_open_13 : decode cX6_open 13 = .ok (.new 111, 3) := by decide +kernel
theorem dX6_open_16 : decode cX6_open 16 = .ok (.dup, 1) := by decide +kernel
theorem dX6_open_17 : decode cX6_open 17 = .ok (.ldc 113, 2) := by decide +kernel
theorem dX6_open_19 : decode cX6_open 19 = .ok (.invokespecial 115, 3) := by decide +kernel
theorem dX6_open_22 : decode cX6_open 22 = .ok (.athrow, 1) := by decide +kernel
theorem dX6_open_23 : decode cX6_open 23 = .ok (.iconst 0, 1) := by decide +kernel
theorem dX6_open_24 : decode cX6_open 24 = .ok (.istore_n 3, 1) := by decide +kernel
theorem dX6_open_25 : decode cX6_open 25 = .ok (.iconst 0, 1) := by decide +kernel
theorem dX6_open_26 : decode cX6_open 26 = .ok (.istore 4, 2) := by decide +kernel
theorem dX6_open_28 : decode cX6_open 28 = .ok (.iload 4, 2) := by decide +kernel
theorem dX6_open_30 : decode cX6_open 30 = .ok (.aload_n 2, 1) := by decide +kernel
theorem dX6_open_31 : decode cX6_open 31 = .ok (.getfield 116, 3) := by decide +kernel
theorem dX6_open_34 : decode cX6_open 34 = .ok (.if_icmp .ge 47, 3) := by decide +kernel
theorem dX6_open_37 : decode cX6_open 37 = .ok (.aload_n 0, 1) := by decide +kernel
theorem dX6_open_38 : decode cX6_open 38 = .ok (.aload_n 2, 1) := by decide +kernel
theorem dX6_open_39 : decode cX6_open 39 = .ok (.iload 4, 2) := by decide +kernel
theorem dX6_open_41 : decode cX6_open 41 = .ok (.iconst 0, 1) := by decide +kernel
theorem dX6_open_42 : decode cX6_open 42 = .ok (.invokevirtual 120, 3) := by decide +kernel
theorem dX6_open_45 : decode cX6_open 45 = .ok (.aload_n 2, 1) := by decide +kernel
theorem dX6_open_46 : decode cX6_open 46 = .ok (.iload 4, 2) := by decide +kernel
theorem dX6_open_48 : decode cX6_open 48 = .ok (.iconst 1, 1) := by decide +kernel
theorem dX6_open_49 : decode cX6_open 49 = .ok (.invokevirtual 120, 3) := by decide +kernel
theorem dX6_open_52 : decode cX6_open 52 = .ok (.aload_n 2, 1) := by decide +kernel
theorem dX6_open_53 : decode cX6_open 53 = .ok (.iload 4, 2) := by decide +kernel
theorem dX6_open_55 : decode cX6_open 55 = .ok (.iconst 2, 1) := by decide +kernel
theorem dX6_open_56 : decode cX6_open 56 = .ok (.invokevirtual 120, 3) := by decide +kernel
theorem dX6_open_59 : decode cX6_open 59 = .ok (.aload_n 2, 1) := by decide +kernel
theorem dX6_open_60 : decode cX6_open 60 = .ok (.iload 4, 2) := by decide +kernel
theorem dX6_open_62 : decode cX6_open 62 = .ok (.iconst 4, 1) := by decide +kernel
theorem dX6_open_63 : decode cX6_open 63 = .ok (.invokevirtual 120, 3) := by decide +kernel
theorem dX6_open_66 : decode cX6_open 66 = .ok (.invokevirtual 96, 3) := by decide +kernel
theorem dX6_open_69 : decode cX6_open 69 = .ok (.ifCond .eq 6, 3) := by decide +kernel
theorem dX6_open_72 : decode cX6_open 72 = .ok (.iinc 3 1, 3) := by decide +kernel
theorem dX6_open_75 : decode cX6_open 75 = .ok (.iinc 4 1, 3) := by decide +kernel
theorem dX6_open_78 : decode cX6_open 78 = .ok (.goto (-50), 3) := by decide +kernel
theorem dX6_open_81 : decode cX6_open 81 = .ok (.iload_n 3, 1) := by decide +kernel
theorem dX6_open_82 : decode cX6_open 82 = .ok (.ireturn, 1) := by decide +kernel
theorem dX6_structure_0 : decode cX6_structure 0 = .ok (.aload_n 0, 1) := by decide +kernel
theorem dX6_structure_1 : decode cX6_structure 1 = .ok (.getfield 23, 3) := by decide +kernel
theorem dX6_structure_4 : decode cX6_structure 4 = .ok (.aload_n 0, 1) := by decide +kernel
theorem dX6_structure_5 : decode cX6_structure 5 = .ok (.getfield 31, 3) := by decide +kernel
theorem dX6_structure_8 : decode cX6_structure 8 = .ok (.invokevirtual 123, 3) := by decide +kernel
theorem dX6_structure_11 : decode cX6_structure 11 = .ok (.istore_n 1, 1) := by decide +kernel
theorem dX6_structure_12 : decode cX6_structure 12 = .ok (.iload_n 1, 1) := by decide +kernel
theorem dX6_structure_13 : decode cX6_structure 13 = .ok (.iconst (-1), 1) := by decide +kernel
theorem dX6_structure_14 : decode cX6_structure 14 = .ok (.if_icmp .ne 13, 3) := by decide +kernel
theorem dX6_structure_17 : decode cX6_structure 17 = .ok (.new 67, 3) := by decide +kernel
theorem dX6_structure_20 : decode cX6_structure 20 = .ok (.dup, 1) := by decide +kernel
theorem dX6_structure_21 : decode cX6_structure 21 = .ok (.ldc 127, 2) := by decide +kernel
theorem dX6_structure_23 : decode cX6_structure 23 = .ok (.invokespecial 71, 3) := by decide +kernel
theorem dX6_structure_26 : decode cX6_structure 26 = .ok (.athrow, 1) := by decide +kernel
theorem dX6_structure_27 : decode cX6_structure 27 = .ok (.iload_n 1, 1) := by decide +kernel
theorem dX6_structure_28 : decode cX6_structure 28 = .ok (.ireturn, 1) := by decide +kernel
theorem dX6_item_0 : decode cX6_item 0 = .ok (.aload_n 0, 1) := by decide +kernel
theorem dX6_item_1 : decode cX6_item 1 = .ok (.getfield 23, 3) := by decide +kernel
theorem dX6_item_4 : decode cX6_item 4 = .ok (.iload_n 1, 1) := by decide +kernel
theorem dX6_item_5 : decode cX6_item 5 = .ok (.invokevirtual 103, 3) := by decide +kernel
theorem dX6_item_8 : decode cX6_item 8 = .ok (.astore 5, 2) := by decide +kernel
theorem dX6_item_10 : decode cX6_item 10 = .ok (.aload 5, 2) := by decide +kernel
theorem dX6_item_12 : decode cX6_item 12 = .ok (.ifnonnull 13, 3) := by decide +kernel
theorem dX6_item_15 : decode cX6_item 15 = .ok (.new 111, 3) := by decide +kernel
theorem dX6_item_18 : decode cX6_item 18 = .ok (.dup, 1) := by decide +kernel
theorem dX6_item_19 : decode cX6_item 19 = .ok (.ldc 113, 2) := by decide +kernel
theorem dX6_item_21 : decode cX6_item 21 = .ok (.invokespecial 115, 3) := by decide +kernel
theorem dX6_item_24 : decode cX6_item 24 = .ok (.athrow, 1) := by decide +kernel
theorem dX6_item_25 : decode cX6_item 25 = .ok (.iload_n 2, 1) := by decide +kernel
theorem dX6_item_26 : decode cX6_item 26 = .ok (.ifCond .lt 8, 3) := by decide +kernel
theorem dX6_item_29 : decode cX6_item 29 = .ok (.iload_n 2, 1) := by decide +kernel
theorem dX6_item_30 : decode cX6_item 30 = .ok (.iconst 3, 1) := by decide +kernel
theorem dX6_item_31 : decode cX6_item 31 = .ok (.if_icmp .lt 13, 3) := by decide +kernel
theorem dX6_item_34 : decode cX6_item 34 = .ok (.new 84, 3) := by decide +kernel
theorem dX6_item_37 : decode cX6_item 37 = .ok (.dup, 1) := by decide +kernel
theorem dX6_item_38 : decode cX6_item 38 = .ok (.ldc 129, 2) := by decide +kernel
theorem dX6_item_40 : decode cX6_item 40 = .ok (.invokespecial 88, 3) := by decide +kernel
theorem dX6_item_43 : decode cX6_item 43 = .ok (.athrow, 1) := by decide +kernel
theorem dX6_item_44 : decode cX6_item 44 = .ok (.aload 5, 2) := by decide +kernel
theorem dX6_item_46 : decode cX6_item 46 = .ok (.iload_n 2, 1) := by decide +kernel
theorem dX6_item_47 : decode cX6_item 47 = .ok (.iload_n 3, 1) := by decide +kernel
theorem dX6_item_48 : decode cX6_item 48 = .ok (.invokevirtual 131, 3) := by decide +kernel
theorem dX6_item_51 : decode cX6_item 51 = .ok (.istore 6, 2) := by decide +kernel
theorem dX6_item_53 : decode cX6_item 53 = .ok (.iload 6, 2) := by decide +kernel
theorem dX6_item_55 : decode cX6_item 55 = .ok (.iconst (-1), 1) := by decide +kernel
theorem dX6_item_56 : decode cX6_item 56 = .ok (.if_icmp .ne 13, 3) := by decide +kernel
theorem dX6_item_59 : decode cX6_item 59 = .ok (.new 111, 3) := by decide +kernel
theorem dX6_item_62 : decode cX6_item 62 = .ok (.dup, 1) := by decide +kernel
theorem dX6_item_63 : decode cX6_item 63 = .ok (.ldc 134, 2) := by decide +kernel
theorem dX6_item_65 : decode cX6_item 65 = .ok (.invokespecial 115, 3) := by decide +kernel
theorem dX6_item_68 : decode cX6_item 68 = .ok (.athrow, 1) := by decide +kernel
theorem dX6_item_69 : decode cX6_item 69 = .ok (.iload 4, 2) := by decide +kernel
theorem dX6_item_71 : decode cX6_item 71 = .ok (.ifCond .lt 9, 3) := by decide +kernel
theorem dX6_item_74 : decode cX6_item 74 = .ok (.iload 4, 2) := by decide +kernel
theorem dX6_item_76 : decode cX6_item 76 = .ok (.iconst 2, 1) := by decide +kernel
theorem dX6_item_77 : decode cX6_item 77 = .ok (.if_icmp .le 13, 3) := by decide +kernel
theorem dX6_item_80 : decode cX6_item 80 = .ok (.new 84, 3) := by decide +kernel
theorem dX6_item_83 : decode cX6_item 83 = .ok (.dup, 1) := by decide +kernel
theorem dX6_item_84 : decode cX6_item 84 = .ok (.ldc 86, 2) := by decide +kernel
theorem dX6_item_86 : decode cX6_item 86 = .ok (.invokespecial 88, 3) := by decide +kernel
theorem dX6_item_89 : decode cX6_item 89 = .ok (.athrow, 1) := by decide +kernel
theorem dX6_item_90 : decode cX6_item 90 = .ok (.iload 4, 2) := by decide +kernel
theorem dX6_item_92 : decode cX6_item 92 = .ok (.iconst 1, 1) := by decide +kernel
theorem dX6_item_93 : decode cX6_item 93 = .ok (.if_icmp .ne 6, 3) := by decide +kernel
theorem dX6_item_96 : decode cX6_item 96 = .ok (.iload 6, 2) := by decide +kernel
theorem dX6_item_98 : decode cX6_item 98 = .ok (.ireturn, 1) := by decide +kernel
theorem dX6_item_99 : decode cX6_item 99 = .ok (.aload 5, 2) := by decide +kernel
theorem dX6_item_101 : decode cX6_item 101 = .ok (.iload 6, 2) := by decide +kernel
theorem dX6_item_103 : decode cX6_item 103 = .ok (.iload 4, 2) := by decide +kernel
theorem dX6_item_105 : decode cX6_item 105 = .ok (.ifCond .ne 7, 3) := by decide +kernel
theorem dX6_item_108 : decode cX6_item 108 = .ok (.iconst 2, 1) := by decide +kernel
theorem dX6_item_109 : decode cX6_item 109 = .ok (.goto 4, 3) := by decide +kernel
theorem dX6_item_112 : decode cX6_item 112 = .ok (.iconst 4, 1) := by decide +kernel
theorem dX6_item_113 : decode cX6_item 113 = .ok (.invokevirtual 120, 3) := by decide +kernel
theorem dX6_item_116 : decode cX6_item 116 = .ok (.ireturn, 1) := by decide +kernel
theorem dX6_items_0 : decode cX6_items 0 = .ok (.aload_n 0, 1) := by decide +kernel
theorem dX6_items_1 : decode cX6_items 1 = .ok (.getfield 23, 3) := by decide +kernel
theorem dX6_items_4 : decode cX6_items 4 = .ok (.iload_n 1, 1) := by decide +kernel
theorem dX6_items_5 : decode cX6_items 5 = .ok (.invokevirtual 103, 3) := by decide +kernel
theorem dX6_items_8 : decode cX6_items 8 = .ok (.astore_n 2, 1) := by decide +kernel
theorem dX6_items_9 : decode cX6_items 9 = .ok (.aload_n 2, 1) := by decide +kernel
theorem dX6_items_10 : decode cX6_items 10 = .ok (.ifnonnull 13, 3) := by decide +kernel
theorem dX6_items_13 : decode cX6_items 13 = .ok (.new 111, 3) := by decide +kernel
theorem dX6_items_16 : decode cX6_items 16 = .ok (.dup, 1) := by decide +kernel
theorem dX6_items_17 : decode cX6_items 17 = .ok (.ldc 113, 2) := by decide +kernel
theorem dX6_items_19 : decode cX6_items 19 = .ok (.invokespecial 115, 3) := by decide +kernel
theorem dX6_items_22 : decode cX6_items 22 = .ok (.athrow, 1) := by decide +kernel
theorem dX6_items_23 : decode cX6_items 23 = .ok (.aload_n 2, 1) := by decide +kernel
theorem dX6_items_24 : decode cX6_items 24 = .ok (.getfield 116, 3) := by decide +kernel
theorem dX6_items_27 : decode cX6_items 27 = .ok (.ireturn, 1) := by decide +kernel
theorem dX6_addHiding_0 : decode cX6_addHiding 0 = .ok (.aload_n 0, 1) := by decide +kernel
theorem dX6_addHiding_1 : decode cX6_addHiding 1 = .ok (.getfield 31, 3) := by decide +kernel
theorem dX6_addHiding_4 : decode cX6_addHiding 4 = .ok (.iload_n 1, 1) := by decide +kernel
theorem dX6_addHiding_5 : decode cX6_addHiding 5 = .ok (.iload_n 2, 1) := by decide +kernel
theorem dX6_addHiding_6 : decode cX6_addHiding 6 = .ok (.invokevirtual 131, 3) := by decide +kernel
theorem dX6_addHiding_9 : decode cX6_addHiding 9 = .ok (.istore 5, 2) := by decide +kernel
theorem dX6_addHiding_11 : decode cX6_addHiding 11 = .ok (.iload 5, 2) := by decide +kernel
theorem dX6_addHiding_13 : decode cX6_addHiding 13 = .ok (.iconst (-1), 1) := by decide +kernel
theorem dX6_addHiding_14 : decode cX6_addHiding 14 = .ok (.if_icmp .eq 12, 3) := by decide +kernel
theorem dX6_addHiding_17 : decode cX6_addHiding 17 = .ok (.aload_n 0, 1) := by decide +kernel
theorem dX6_addHiding_18 : decode cX6_addHiding 18 = .ok (.getfield 31, 3) := by decide +kernel
theorem dX6_addHiding_21 : decode cX6_addHiding 21 = .ok (.iload 5, 2) := by decide +kernel
theorem dX6_addHiding_23 : decode cX6_addHiding 23 = .ok (.invokevirtual 136, 3) := by decide +kernel
theorem dX6_addHiding_26 : decode cX6_addHiding 26 = .ok (.aload_n 0, 1) := by decide +kernel
theorem dX6_addHiding_27 : decode cX6_addHiding 27 = .ok (.getfield 31, 3) := by decide +kernel
theorem dX6_addHiding_30 : decode cX6_addHiding 30 = .ok (.iload_n 1, 1) := by decide +kernel
theorem dX6_addHiding_31 : decode cX6_addHiding 31 = .ok (.iload_n 2, 1) := by decide +kernel
theorem dX6_addHiding_32 : decode cX6_addHiding 32 = .ok (.iload_n 3, 1) := by decide +kernel
theorem dX6_addHiding_33 : decode cX6_addHiding 33 = .ok (.bipush (-100), 2) := by decide +kernel
theorem dX6_addHiding_35 : decode cX6_addHiding 35 = .ok (.iload 4, 2) := by decide +kernel
theorem dX6_addHiding_37 : decode cX6_addHiding 37 = .ok (.iconst (-1), 1) := by decide +kernel
theorem dX6_addHiding_38 : decode cX6_addHiding 38 = .ok (.invokevirtual 139, 3) := by decide +kernel
theorem dX6_addHiding_41 : decode cX6_addHiding 41 = .ok (.iload 5, 2) := by decide +kernel
theorem dX6_addHiding_43 : decode cX6_addHiding 43 = .ok (.iconst (-1), 1) := by decide +kernel
theorem dX6_addHiding_44 : decode cX6_addHiding 44 = .ok (.if_icmp .eq 7, 3) := by decide +kernel
theorem dX6_addHiding_47 : decode cX6_addHiding 47 = .ok (.iconst 1, 1) := by decide +kernel
theorem dX6_addHiding_48 : decode cX6_addHiding 48 = .ok (.goto 4, 3) := by decide +kernel
theorem dX6_addHiding_51 : decode cX6_addHiding 51 = .ok (.iconst 0, 1) := by decide +kernel
theorem dX6_addHiding_52 : decode cX6_addHiding 52 = .ok (.ireturn, 1) := by decide +kernel
theorem dX6_specType_0 : decode cX6_specType 0 = .ok (.iload_n 2, 1) := by decide +kernel
theorem dX6_specType_1 : decode cX6_specType 1 = .ok (.bipush (-100), 2) := by decide +kernel
theorem dX6_specType_3 : decode cX6_specType 3 = .ok (.if_icmp .eq 12, 3) := by decide +kernel
theorem dX6_specType_6 : decode cX6_specType 6 = .ok (.aload_n 0, 1) := by decide +kernel
theorem dX6_specType_7 : decode cX6_specType 7 = .ok (.aload_n 0, 1) := by decide +kernel
theorem dX6_specType_8 : decode cX6_specType 8 = .ok (.getfield 35, 3) := by decide +kernel
theorem dX6_specType_11 : decode cX6_specType 11 = .ok (.iload_n 2, 1) := by decide +kernel
theorem dX6_specType_12 : decode cX6_specType 12 = .ok (.invokevirtual 143, 3) := by decide +kernel
theorem dX6_specType_15 : decode cX6_specType 15 = .ok (.iload_n 1, 1) := by decide +kernel
theorem dX6_specType_16 : decode cX6_specType 16 = .ok (.invokestatic 89, 3) := by decide +kernel
theorem dX6_specType_19 : decode cX6_specType 19 = .ok (.aload_n 0, 1) := by decide +kernel
theorem dX6_specType_20 : decode cX6_specType 20 = .ok (.getfield 35, 3) := by decide +kernel
theorem dX6_specType_23 : decode cX6_specType 23 = .ok (.iconst 0, 1) := by decide +kernel
theorem dX6_specType_24 : decode cX6_specType 24 = .ok (.iload_n 1, 1) := by decide +kernel
theorem dX6_specType_25 : decode cX6_specType 25 = .ok (.invokestatic 147, 3) := by decide +kernel
theorem dX6_specType_28 : decode cX6_specType 28 = .ok (.aload_n 0, 1) := by decide +kernel
theorem dX6_specType_29 : decode cX6_specType 29 = .ok (.iconst 1, 1) := by decide +kernel
theorem dX6_specType_30 : decode cX6_specType 30 = .ok (.invokevirtual 151, 3) := by decide +kernel
theorem dX6_specType_33 : decode cX6_specType 33 = .ok (.aload_n 0, 1) := by decide +kernel
theorem dX6_specType_34 : decode cX6_specType 34 = .ok (.getfield 35, 3) := by decide +kernel
theorem dX6_specType_37 : decode cX6_specType 37 = .ok (.iconst 0, 1) := by decide +kernel
theorem dX6_specType_38 : decode cX6_specType 38 = .ok (.iload_n 1, 1) := by decide +kernel
theorem dX6_specType_39 : decode cX6_specType 39 = .ok (.iload_n 2, 1) := by decide +kernel
theorem dX6_specType_40 : decode cX6_specType 40 = .ok (.bipush (-100), 2) := by decide +kernel
theorem dX6_specType_42 : decode cX6_specType 42 = .ok (.iconst 0, 1) := by decide +kernel
theorem dX6_specType_43 : decode cX6_specType 43 = .ok (.iconst (-1), 1) := by decide +kernel
theorem dX6_specType_44 : decode cX6_specType 44 = .ok (.invokevirtual 139, 3) := by decide +kernel
theorem dX6_specType_47 : decode cX6_specType 47 = .ok (.aload_n 0, 1) := by decide +kernel
theorem dX6_specType_48 : decode cX6_specType 48 = .ok (.getfield 35, 3) := by decide +kernel
theorem dX6_specType_51 : decode cX6_specType 51 = .ok (.dup, 1) := by decide +kernel
theorem dX6_specType_52 : decode cX6_specType 52 = .ok (.getfield 154, 3) := by decide +kernel
theorem dX6_specType_55 : decode cX6_specType 55 = .ok (.iconst 1, 1) := by decide +kernel
theorem dX6_specType_56 : decode cX6_specType 56 = .ok (.iadd, 1) := by decide +kernel
theorem dX6_specType_57 : decode cX6_specType 57 = .ok (.putfield 154, 3) := by decide +kernel
theorem dX6_specType_60 : decode cX6_specType 60 = .ok (.aload_n 0, 1) := by decide +kernel
theorem dX6_specType_61 : decode cX6_specType 61 = .ok (.getfield 35, 3) := by decide +kernel
theorem dX6_specType_64 : decode cX6_specType 64 = .ok (.getfield 116, 3) := by decide +kernel
theorem dX6_specType_67 : decode cX6_specType 67 = .ok (.ireturn, 1) := by decide +kernel
theorem dX6_specValue_0 : decode cX6_specValue 0 = .ok (.aload_n 0, 1) := by decide +kernel
theorem dX6_specValue_1 : decode cX6_specValue 1 = .ok (.aload_n 0, 1) := by decide +kernel
theorem dX6_specValue_2 : decode cX6_specValue 2 = .ok (.getfield 35, 3) := by decide +kernel
theorem dX6_specValue_5 : decode cX6_specValue 5 = .ok (.iload_n 2, 1) := by decide +kernel
theorem dX6_specValue_6 : decode cX6_specValue 6 = .ok (.invokevirtual 143, 3) := by decide +kernel
theorem dX6_specValue_9 : decode cX6_specValue 9 = .ok (.iload_n 3, 1) := by decide +kernel
theorem dX6_specValue_10 : decode cX6_specValue 10 = .ok (.bipush (-100), 2) := by decide +kernel
theorem dX6_specValue_12 : decode cX6_specValue 12 = .ok (.if_icmp .eq 12, 3) := by decide +kernel
theorem dX6_specValue_15 : decode cX6_specValue 15 = .ok (.aload_n 0, 1) := by decide +kernel
theorem dX6_specValue_16 : decode cX6_specValue 16 = .ok (.aload_n 0, 1) := by decide +kernel
theorem dX6_specValue_17 : decode cX6_specValue 17 = .ok (.getfield 35, 3) := by decide +kernel
theorem dX6_specValue_20 : decode cX6_specValue 20 = .ok (.iload_n 3, 1) := by decide +kernel
theorem dX6_specValue_21 : decode cX6_specValue 21 = .ok (.invokevirtual 143, 3) := by decide +kernel
theorem dX6_specValue_24 : decode cX6_specValue 24 = .ok (.iload_n 1, 1) := by decide +kernel
theorem dX6_specValue_25 : decode cX6_specValue 25 = .ok (.invokestatic 89, 3) := by decide +kernel
theorem dX6_specValue_28 : decode cX6_specValue 28 = .ok (.aload_n 0, 1) := by decide +kernel
theorem dX6_specValue_29 : decode cX6_specValue 29 = .ok (.getfield 35, 3) := by decide +kernel
theorem dX6_specValue_32 : decode cX6_specValue 32 = .ok (.iconst 1, 1) := by decide +kernel
theorem dX6_specValue_33 : decode cX6_specValue 33 = .ok (.iload_n 1, 1) := by decide +kernel
theorem dX6_specValue_34 : decode cX6_specValue 34 = .ok (.invokestatic 147, 3) := by decide +kernel
theorem dX6_specValue_37 : decode cX6_specValue 37 = .ok (.aload_n 0, 1) := by decide +kernel
theorem dX6_specValue_38 : decode cX6_specValue 38 = .ok (.iconst 1, 1) := by decide +kernel
theorem dX6_specValue_39 : decode cX6_specValue 39 = .ok (.invokevirtual 151, 3) := by decide +kernel
theorem dX6_specValue_42 : decode cX6_specValue 42 = .ok (.aload_n 0, 1) := by decide +kernel
theorem dX6_specValue_43 : decode cX6_specValue 43 = .ok (.getfield 35, 3) := by decide +kernel
theorem dX6_specValue_46 : decode cX6_specValue 46 = .ok (.iconst 1, 1) := by decide +kernel
theorem dX6_specValue_47 : decode cX6_specValue 47 = .ok (.iload_n 1, 1) := by decide +kernel
theorem dX6_specValue_48 : decode cX6_specValue 48 = .ok (.iload_n 2, 1) := by decide +kernel
theorem dX6_specValue_49 : decode cX6_specValue 49 = .ok (.iload_n 3, 1) := by decide +kernel
theorem dX6_specValue_50 : decode cX6_specValue 50 = .ok (.iconst 0, 1) := by decide +kernel
theorem dX6_specValue_51 : decode cX6_specValue 51 = .ok (.iconst (-1), 1) := by decide +kernel
theorem dX6_specValue_52 : decode cX6_specValue 52 = .ok (.invokevirtual 139, 3) := by decide +kernel
theorem dX6_specValue_55 : decode cX6_specValue 55 = .ok (.aload_n 0, 1) := by decide +kernel
theorem dX6_specValue_56 : decode cX6_specValue 56 = .ok (.getfield 35, 3) := by decide +kernel
theorem dX6_specValue_59 : decode cX6_specValue 59 = .ok (.dup, 1) := by decide +kernel
theorem dX6_specValue_60 : decode cX6_specValue 60 = .ok (.getfield 154, 3) := by decide +kernel
theorem dX6_specValue_63 : decode cX6_specValue 63 = .ok (.iconst 1, 1) := by decide +kernel
theorem dX6_specValue_64 : decode cX6_specValue 64 = .ok (.iadd, 1) := by decide +kernel
theorem dX6_specValue_65 : decode cX6_specValue 65 = .ok (.putfield 154, 3) := by decide +kernel
theorem dX6_specValue_68 : decode cX6_specValue 68 = .ok (.aload_n 0, 1) := by decide +kernel
theorem dX6_specValue_69 : decode cX6_specValue 69 = .ok (.getfield 35, 3) := by decide +kernel
theorem dX6_specValue_72 : decode cX6_specValue 72 = .ok (.getfield 116, 3) := by decide +kernel
theorem dX6_specValue_75 : decode cX6_specValue 75 = .ok (.ireturn, 1) := by decide +kernel
theorem dX6_specPart_0 : decode cX6_specPart 0 = .ok (.aload_n 0, 1) := by decide +kernel
theorem dX6_specPart_1 : decode cX6_specPart 1 = .ok (.getfield 27, 3) := by decide +kernel
theorem dX6_specPart_4 : decode cX6_specPart 4 = .ok (.iload_n 2, 1) := by decide +kernel
theorem dX6_specPart_5 : decode cX6_specPart 5 = .ok (.invokevirtual 103, 3) := by decide +kernel
theorem dX6_specPart_8 : decode cX6_specPart 8 = .ok (.astore_n 3, 1) := by decide +kernel
theorem dX6_specPart_9 : decode cX6_specPart 9 = .ok (.aload_n 3, 1) := by decide +kernel
theorem dX6_specPart_10 : decode cX6_specPart 10 = .ok (.ifnonnull 13, 3) := by decide +kernel
theorem dX6_specPart_13 : decode cX6_specPart 13 = .ok (.new 111, 3) := by decide +kernel
theorem dX6_specPart_16 : decode cX6_specPart 16 = .ok (.dup, 1) := by decide +kernel
theorem dX6_specPart_17 : decode cX6_specPart 17 = .ok (.ldc 157, 2) := by decide +kernel
theorem dX6_specPart_19 : decode cX6_specPart 19 = .ok (.invokespecial 115, 3) := by decide +kernel
theorem dX6_specPart_22 : decode cX6_specPart 22 = .ok (.athrow, 1) := by decide +kernel
theorem dX6_specPart_23 : decode cX6_specPart 23 = .ok (.iload_n 1, 1) := by decide +kernel
theorem dX6_specPart_24 : decode cX6_specPart 24 = .ok (.invokestatic 89, 3) := by decide +kernel
theorem dX6_specPart_27 : decode cX6_specPart 27 = .ok (.aload_n 0, 1) := by decide +kernel
theorem dX6_specPart_28 : decode cX6_specPart 28 = .ok (.getfield 35, 3) := by decide +kernel
theorem dX6_specPart_31 : decode cX6_specPart 31 = .ok (.iconst 2, 1) := by decide +kernel
theorem dX6_specPart_32 : decode cX6_specPart 32 = .ok (.iload_n 1, 1) := by decide +kernel
theorem dX6_specPart_33 : decode cX6_specPart 33 = .ok (.invokestatic 147, 3) := by decide +kernel
theorem dX6_specPart_36 : decode cX6_specPart 36 = .ok (.aload_n 0, 1) := by decide +kernel
theorem dX6_specPart_37 : decode cX6_specPart 37 = .ok (.iconst 1, 1) := by decide +kernel
theorem dX6_specPart_38 : decode cX6_specPart 38 = .ok (.aload_n 3, 1) := by decide +kernel
theorem dX6_specPart_39 : decode cX6_specPart 39 = .ok (.getfield 154, 3) := by decide +kernel
theorem dX6_specPart_42 : decode cX6_specPart 42 = .ok (.iadd, 1) := by decide +kernel
theorem dX6_specPart_43 : decode cX6_specPart 43 = .ok (.invokevirtual 151, 3) := by decide +kernel
theorem dX6_specPart_46 : decode cX6_specPart 46 = .ok (.aload_n 0, 1) := by decide +kernel
theorem dX6_specPart_47 : decode cX6_specPart 47 = .ok (.getfield 35, 3) := by decide +kernel
theorem dX6_specPart_50 : decode cX6_specPart 50 = .ok (.iconst 2, 1) := by decide +kernel
theorem dX6_specPart_51 : decode cX6_specPart 51 = .ok (.iload_n 1, 1) := by decide +kernel
theorem dX6_specPart_52 : decode cX6_specPart 52 = .ok (.iload_n 2, 1) := by decide +kernel
theorem dX6_specPart_53 : decode cX6_specPart 53 = .ok (.bipush (-100), 2) := by decide +kernel
theorem dX6_specPart_55 : decode cX6_specPart 55 = .ok (.iconst 0, 1) := by decide +kernel
theorem dX6_specPart_56 : decode cX6_specPart 56 = .ok (.iconst (-1), 1) := by decide +kernel
theorem dX6_specPart_57 : decode cX6_specPart 57 = .ok (.invokevirtual 139, 3) := by decide +kernel
theorem dX6_specPart_60 : decode cX6_specPart 60 = .ok (.aload_n 0, 1) := by decide +kernel
theorem dX6_specPart_61 : decode cX6_specPart 61 = .ok (.getfield 35, 3) := by decide +kernel
theorem dX6_specPart_64 : decode cX6_specPart 64 = .ok (.dup, 1) := by decide +kernel
theorem dX6_specPart_65 : decode cX6_specPart 65 = .ok (.getfield 154, 3) := by decide +kernel
theorem dX6_specPart_68 : decode cX6_specPart 68 = .ok (.iconst 1, 1) := by decide +kernel
theorem dX6_specPart_69 : decode cX6_specPart 69 = .ok (.aload_n 3, 1) := by decide +kernel
theorem dX6_specPart_70 : decode cX6_specPart 70 = .ok (.getfield 154, 3) := by decide +kernel
theorem dX6_specPart_73 : decode cX6_specPart 73 = .ok (.iadd, 1) := by decide +kernel
theorem dX6_specPart_74 : decode cX6_specPart 74 = .ok (.iadd, 1) := by decide +kernel
theorem dX6_specPart_75 : decode cX6_specPart 75 = .ok (.putfield 154, 3) := by decide +kernel
theorem dX6_specPart_78 : decode cX6_specPart 78 = .ok (.aload_n 0, 1) := by decide +kernel
theorem dX6_specPart_79 : decode cX6_specPart 79 = .ok (.getfield 35, 3) := by decide +kernel
theorem dX6_specPart_82 : decode cX6_specPart 82 = .ok (.dup, 1) := by decide +kernel
theorem dX6_specPart_83 : decode cX6_specPart 83 = .ok (.getfield 159, 3) := by decide +kernel
theorem dX6_specPart_86 : decode cX6_specPart 86 = .ok (.iconst 1, 1) := by decide +kernel
theorem dX6_specPart_87 : decode cX6_specPart 87 = .ok (.aload_n 3, 1) := by decide +kernel
theorem dX6_specPart_88 : decode cX6_specPart 88 = .ok (.getfield 159, 3) := by decide +kernel
theorem dX6_specPart_91 : decode cX6_specPart 91 = .ok (.iadd, 1) := by decide +kernel
theorem dX6_specPart_92 : decode cX6_specPart 92 = .ok (.iadd, 1) := by decide +kernel
theorem dX6_specPart_93 : decode cX6_specPart 93 = .ok (.putfield 159, 3) := by decide +kernel
theorem dX6_specPart_96 : decode cX6_specPart 96 = .ok (.aload_n 0, 1) := by decide +kernel
theorem dX6_specPart_97 : decode cX6_specPart 97 = .ok (.getfield 35, 3) := by decide +kernel
theorem dX6_specPart_100 : decode cX6_specPart 100 = .ok (.getfield 116, 3) := by decide +kernel
theorem dX6_specPart_103 : decode cX6_specPart 103 = .ok (.ireturn, 1) := by decide +kernel
theorem dX6_include_0 : decode cX6_include 0 = .ok (.aload_n 0, 1) := by decide +kernel
theorem dX6_include_1 : decode cX6_include 1 = .ok (.getfield 27, 3) := by decide +kernel
theorem dX6_include_4 : decode cX6_include 4 = .ok (.iload_n 1, 1) := by decide +kernel
theorem dX6_include_5 : decode cX6_include 5 = .ok (.invokevirtual 103, 3) := by decide +kernel
theorem dX6_include_8 : decode cX6_include 8 = .ok (.astore_n 2, 1) := by decide +kernel
theorem dX6_include_9 : decode cX6_include 9 = .ok (.aload_n 2, 1) := by decide +kernel
theorem dX6_include_10 : decode cX6_include 10 = .ok (.ifnonnull 13, 3) := by decide +kernel
theorem dX6_include_13 : decode cX6_include 13 = .ok (.new 111, 3) := by decide +kernel
theorem dX6_include_16 : decode cX6_include 16 = .ok (.dup, 1) := by decide +kernel
theorem dX6_include_17 : decode cX6_include 17 = .ok (.ldc 157, 2) := by decide +kernel
theorem dX6_include_19 : decode cX6_include 19 = .ok (.invokespecial 115, 3) := by decide +kernel
theorem dX6_include_22 : decode cX6_include 22 = .ok (.athrow, 1) := by decide +kernel
theorem dX6_include_23 : decode cX6_include 23 = .ok (.iconst 0, 1) := by decide +kernel
theorem dX6_include_24 : decode cX6_include 24 = .ok (.istore_n 3, 1) := by decide +kernel
theorem dX6_include_25 : decode cX6_include 25 = .ok (.iload_n 3, 1) := by decide +kernel
theorem dX6_include_26 : decode cX6_include 26 = .ok (.aload_n 2, 1) := by decide +kernel
theorem dX6_include_27 : decode cX6_include 27 = .ok (.getfield 116, 3) := by decide +kernel
theorem dX6_include_30 : decode cX6_include 30 = .ok (.if_icmp .ge 28, 3) := by decide +kernel
theorem dX6_include_33 : decode cX6_include 33 = .ok (.aload_n 0, 1) := by decide +kernel
theorem dX6_include_34 : decode cX6_include 34 = .ok (.getfield 35, 3) := by decide +kernel
theorem dX6_include_37 : decode cX6_include 37 = .ok (.aload_n 2, 1) := by decide +kernel
theorem dX6_include_38 : decode cX6_include 38 = .ok (.iload_n 3, 1) := by decide +kernel
theorem dX6_include_39 : decode cX6_include 39 = .ok (.iconst 0, 1) := by decide +kernel
theorem dX6_include_40 : decode cX6_include 40 = .ok (.invokevirtual 120, 3) := by decide +kernel
theorem dX6_include_43 : decode cX6_include 43 = .ok (.aload_n 2, 1) := by decide +kernel
theorem dX6_include_44 : decode cX6_include 44 = .ok (.iload_n 3, 1) := by decide +kernel
theorem dX6_include_45 : decode cX6_include 45 = .ok (.iconst 1, 1) := by decide +kernel
theorem dX6_include_46 : decode cX6_include 46 = .ok (.invokevirtual 120, 3) := by decide +kernel
theorem dX6_include_49 : decode cX6_include 49 = .ok (.invokestatic 147, 3) := by decide +kernel
theorem dX6_include_52 : decode cX6_include 52 = .ok (.iinc 3 1, 3) := by decide +kernel
theorem dX6_include_55 : decode cX6_include 55 = .ok (.goto (-30), 3) := by decide +kernel
theorem dX6_include_58 : decode cX6_include 58 = .ok (.aload_n 0, 1) := by decide +kernel
theorem dX6_include_59 : decode cX6_include 59 = .ok (.aload_n 2, 1) := by decide +kernel
theorem dX6_include_60 : decode cX6_include 60 = .ok (.getfield 154, 3) := by decide +kernel
theorem dX6_include_63 : decode cX6_include 63 = .ok (.invokevirtual 151, 3) := by decide +kernel
theorem dX6_include_66 : decode cX6_include 66 = .ok (.aload_n 0, 1) := by decide +kernel
theorem dX6_include_67 : decode cX6_include 67 = .ok (.getfield 35, 3) := by decide +kernel
theorem dX6_include_70 : decode cX6_include 70 = .ok (.aload_n 2, 1) := by decide +kernel
theorem dX6_include_71 : decode cX6_include 71 = .ok (.invokevirtual 162, 3) := by decide +kernel
theorem dX6_include_74 : decode cX6_include 74 = .ok (.aload_n 0, 1) := by decide +kernel
theorem dX6_include_75 : decode cX6_include 75 = .ok (.getfield 35, 3) := by decide +kernel
theorem dX6_include_78 : decode cX6_include 78 = .ok (.getfield 116, 3) := by decide +kernel
theorem dX6_include_81 : decode cX6_include 81 = .ok (.ireturn, 1) := by decide +kernel
theorem dX6_signature_0 : decode cX6_signature 0 = .ok (.aload_n 0, 1) := by decide +kernel
theorem dX6_signature_1 : decode cX6_signature 1 = .ok (.getfield 27, 3) := by decide +kernel
theorem dX6_signature_4 : decode cX6_signature 4 = .ok (.aload_n 0, 1) := by decide +kernel
theorem dX6_signature_5 : decode cX6_signature 5 = .ok (.getfield 35, 3) := by decide +kernel
theorem dX6_signature_8 : decode cX6_signature 8 = .ok (.invokevirtual 123, 3) := by decide +kernel
theorem dX6_signature_11 : decode cX6_signature 11 = .ok (.istore_n 1, 1) := by decide +kernel
theorem dX6_signature_12 : decode cX6_signature 12 = .ok (.iload_n 1, 1) := by decide +kernel
theorem dX6_signature_13 : decode cX6_signature 13 = .ok (.iconst (-1), 1) := by decide +kernel
theorem dX6_signature_14 : decode cX6_signature 14 = .ok (.if_icmp .ne 13, 3) := by decide +kernel
theorem dX6_signature_17 : decode cX6_signature 17 = .ok (.new 67, 3) := by decide +kernel
theorem dX6_signature_20 : decode cX6_signature 20 = .ok (.dup, 1) := by decide +kernel
theorem dX6_signature_21 : decode cX6_signature 21 = .ok (.ldc 165, 2) := by decide +kernel
theorem dX6_signature_23 : decode cX6_signature 23 = .ok (.invokespecial 71, 3) := by decide +kernel
theorem dX6_signature_26 : decode cX6_signature 26 = .ok (.athrow, 1) := by decide +kernel
theorem dX6_signature_27 : decode cX6_signature 27 = .ok (.iload_n 1, 1) := by decide +kernel
theorem dX6_signature_28 : decode cX6_signature 28 = .ok (.ireturn, 1) := by decide +kernel
theorem dX6_with_0 : decode cX6_with 0 = .ok (.aload_n 0, 1) := by decide +kernel
theorem dX6_with_1 : decode cX6_with 1 = .ok (.getfield 27, 3) := by decide +kernel
theorem dX6_with_4 : decode cX6_with 4 = .ok (.iload_n 1, 1) := by decide +kernel
theorem dX6_with_5 : decode cX6_with 5 = .ok (.invokevirtual 103, 3) := by decide +kernel
theorem dX6_with_8 : decode cX6_with 8 = .ok (.astore 5, 2) := by decide +kernel
theorem dX6_with_10 : decode cX6_with 10 = .ok (.aload 5, 2) := by decide +kernel
theorem dX6_with_12 : decode cX6_with 12 = .ok (.ifnonnull 13, 3) := by decide +kernel
theorem dX6_with_15 : decode cX6_with 15 = .ok (.new 111, 3) := by decide +kernel
theorem dX6_with_18 : decode cX6_with 18 = .ok (.dup, 1) := by decide +kernel
theorem dX6_with_19 : decode cX6_with 19 = .ok (.ldc 157, 2) := by decide +kernel
theorem dX6_with_21 : decode cX6_with 21 = .ok (.invokespecial 115, 3) := by decide +kernel
theorem dX6_with_24 : decode cX6_with 24 = .ok (.athrow, 1) := by decide +kernel
theorem dX6_with_25 : decode cX6_with 25 = .ok (.aload_n 0, 1) := by decide +kernel
theorem dX6_with_26 : decode cX6_with 26 = .ok (.iload_n 3, 1) := by decide +kernel
theorem dX6_with_27 : decode cX6_with 27 = .ok (.invokevirtual 59, 3) := by decide +kernel
theorem dX6_with_30 : decode cX6_with 30 = .ok (.aload 5, 2) := by decide +kernel
theorem dX6_with_32 : decode cX6_with 32 = .ok (.iconst 0, 1) := by decide +kernel
theorem dX6_with_33 : decode cX6_with 33 = .ok (.iload_n 2, 1) := by decide +kernel
theorem dX6_with_34 : decode cX6_with 34 = .ok (.invokevirtual 131, 3) := by decide +kernel
theorem dX6_with_37 : decode cX6_with 37 = .ok (.istore 6, 2) := by decide +kernel
theorem dX6_with_39 : decode cX6_with 39 = .ok (.iload 6, 2) := by decide +kernel
theorem dX6_with_41 : decode cX6_with 41 = .ok (.iconst (-1), 1) := by decide +kernel
theorem dX6_with_42 : decode cX6_with 42 = .ok (.if_icmp .eq 16, 3) := by decide +kernel
theorem dX6_with_45 : decode cX6_with 45 = .ok (.aload 5, 2) := by decide +kernel
theorem dX6_with_47 : decode cX6_with 47 = .ok (.iload 6, 2) := by decide +kernel
theorem dX6_with_49 : decode cX6_with 49 = .ok (.iconst 2, 1) := by decide +kernel
theorem dX6_with_50 : decode cX6_with 50 = .ok (.invokevirtual 120, 3) := by decide +kernel
theorem dX6_with_53 : decode cX6_with 53 = .ok (.bipush (-100), 2) := by decide +kernel
theorem dX6_with_55 : decode cX6_with 55 = .ok (.if_icmp .eq 13, 3) := by decide +kernel
theorem dX6_with_58 : decode cX6_with 58 = .ok (.new 111, 3) := by decide +kernel
theorem dX6_with_61 : decode cX6_with 61 = .ok (.dup, 1) := by decide +kernel
theorem dX6_with_62 : decode cX6_with 62 = .ok (.ldc 167, 2) := by decide +kernel
theorem dX6_with_64 : decode cX6_with 64 = .ok (.invokespecial 115, 3) := by decide +kernel
theorem dX6_with_67 : decode cX6_with 67 = .ok (.athrow, 1) := by decide +kernel
theorem dX6_with_68 : decode cX6_with 68 = .ok (.aload_n 0, 1) := by decide +kernel
theorem dX6_with_69 : decode cX6_with 69 = .ok (.getfield 27, 3) := by decide +kernel
theorem dX6_with_72 : decode cX6_with 72 = .ok (.getfield 169, 3) := by decide +kernel
theorem dX6_with_75 : decode cX6_with 75 = .ok (.istore 7, 2) := by decide +kernel
theorem dX6_with_77 : decode cX6_with 77 = .ok (.aload_n 0, 1) := by decide +kernel
theorem dX6_with_78 : decode cX6_with 78 = .ok (.getfield 27, 3) := by decide +kernel
theorem dX6_with_81 : decode cX6_with 81 = .ok (.iload 7, 2) := by decide +kernel
theorem dX6_with_83 : decode cX6_with 83 = .ok (.invokevirtual 170, 3) := by decide +kernel
theorem dX6_with_86 : decode cX6_with 86 = .ok (.astore 8, 2) := by decide +kernel
theorem dX6_with_88 : decode cX6_with 88 = .ok (.aload 8, 2) := by decide +kernel
theorem dX6_with_90 : decode cX6_with 90 = .ok (.ifnonnull 13, 3) := by decide +kernel
theorem dX6_with_93 : decode cX6_with 93 = .ok (.new 67, 3) := by decide +kernel
theorem dX6_with_96 : decode cX6_with 96 = .ok (.dup, 1) := by decide +kernel
theorem dX6_with_97 : decode cX6_with 97 = .ok (.ldc 165, 2) := by decide +kernel
theorem dX6_with_99 : decode cX6_with 99 = .ok (.invokespecial 71, 3) := by decide +kernel
theorem dX6_with_102 : decode cX6_with 102 = .ok (.athrow, 1) := by decide +kernel
theorem dX6_with_103 : decode cX6_with 103 = .ok (.aload 8, 2) := by decide +kernel
theorem dX6_with_105 : decode cX6_with 105 = .ok (.aload 5, 2) := by decide +kernel
theorem dX6_with_107 : decode cX6_with 107 = .ok (.invokevirtual 162, 3) := by decide +kernel
theorem dX6_with_110 : decode cX6_with 110 = .ok (.iload 4, 2) := by decide +kernel
theorem dX6_with_112 : decode cX6_with 112 = .ok (.ifCond .eq 33, 3) := by decide +kernel
theorem dX6_with_115 : decode cX6_with 115 = .ok (.aload 8, 2) := by decide +kernel
theorem dX6_with_117 : decode cX6_with 117 = .ok (.iconst (-1), 1) := by decide +kernel
theorem dX6_with_118 : decode cX6_with 118 = .ok (.iload_n 2, 1) := by decide +kernel
theorem dX6_with_119 : decode cX6_with 119 = .ok (.isub, 1) := by decide +kernel
theorem dX6_with_120 : decode cX6_with 120 = .ok (.iload_n 3, 1) := by decide +kernel
theorem dX6_with_121 : decode cX6_with 121 = .ok (.invokevirtual 173, 3) := by decide +kernel
theorem dX6_with_124 : decode cX6_with 124 = .ok (.aload 8, 2) := by decide +kernel
theorem dX6_with_126 : decode cX6_with 126 = .ok (.iload 6, 2) := by decide +kernel
theorem dX6_with_128 : decode cX6_with 128 = .ok (.invokevirtual 136, 3) := by decide +kernel
theorem dX6_with_131 : decode cX6_with 131 = .ok (.aload 8, 2) := by decide +kernel
theorem dX6_with_133 : decode cX6_with 133 = .ok (.dup, 1) := by decide +kernel
theorem dX6_with_134 : decode cX6_with 134 = .ok (.getfield 154, 3) := by decide +kernel
theorem dX6_with_137 : decode cX6_with 137 = .ok (.iconst 1, 1) := by decide +kernel
theorem dX6_with_138 : decode cX6_with 138 = .ok (.isub, 1) := by decide +kernel
theorem dX6_with_139 : decode cX6_with 139 = .ok (.putfield 154, 3) := by decide +kernel
theorem dX6_with_142 : decode cX6_with 142 = .ok (.goto 12, 3) := by decide +kernel
theorem dX6_with_145 : decode cX6_with 145 = .ok (.aload 8, 2) := by decide +kernel
theorem dX6_with_147 : decode cX6_with 147 = .ok (.iload 6, 2) := by decide +kernel
theorem dX6_with_149 : decode cX6_with 149 = .ok (.iconst 2, 1) := by decide +kernel
theorem dX6_with_150 : decode cX6_with 150 = .ok (.iload_n 3, 1) := by decide +kernel
theorem dX6_with_151 : decode cX6_with 151 = .ok (.invokevirtual 177, 3) := by decide +kernel
theorem dX6_with_154 : decode cX6_with 154 = .ok (.aload_n 0, 1) := by decide +kernel
theorem dX6_with_155 : decode cX6_with 155 = .ok (.getfield 27, 3) := by decide +kernel
theorem dX6_with_158 : decode cX6_with 158 = .ok (.dup, 1) := by decide +kernel
theorem dX6_with_159 : decode cX6_with 159 = .ok (.getfield 169, 3) := by decide +kernel
theorem dX6_with_162 : decode cX6_with 162 = .ok (.iconst 1, 1) := by decide +kernel
theorem dX6_with_163 : decode cX6_with 163 = .ok (.iadd, 1) := by decide +kernel
theorem dX6_with_164 : decode cX6_with 164 = .ok (.putfield 169, 3) := by decide +kernel
theorem dX6_with_167 : decode cX6_with 167 = .ok (.iload 7, 2) := by decide +kernel
theorem dX6_with_169 : decode cX6_with 169 = .ok (.ireturn, 1) := by decide +kernel
theorem dX6_specs_0 : decode cX6_specs 0 = .ok (.aload_n 0, 1) := by decide +kernel
theorem dX6_specs_1 : decode cX6_specs 1 = .ok (.getfield 27, 3) := by decide +kernel
theorem dX6_specs_4 : decode cX6_specs 4 = .ok (.iload_n 1, 1) := by decide +kernel
theorem dX6_specs_5 : decode cX6_specs 5 = .ok (.invokevirtual 103, 3) := by decide +kernel
theorem dX6_specs_8 : decode cX6_specs 8 = .ok (.astore_n 2, 1) := by decide +kernel
theorem dX6_specs_9 : decode cX6_specs 9 = .ok (.aload_n 2, 1) := by decide +kernel
theorem dX6_specs_10 : decode cX6_specs 10 = .ok (.ifnonnull 13, 3) := by decide +kernel
theorem dX6_specs_13 : decode cX6_specs 13 = .ok (.new 111, 3) := by decide +kernel
theorem dX6_specs_16 : decode cX6_specs 16 = .ok (.dup, 1) := by decide +kernel
theorem dX6_specs_17 : decode cX6_specs 17 = .ok (.ldc 157, 2) := by decide +kernel
theorem dX6_specs_19 : decode cX6_specs 19 = .ok (.invokespecial 115, 3) := by decide +kernel
theorem dX6_specs_22 : decode cX6_specs 22 = .ok (.athrow, 1) := by decide +kernel
theorem dX6_specs_23 : decode cX6_specs 23 = .ok (.aload_n 2, 1) := by decide +kernel
theorem dX6_specs_24 : decode cX6_specs 24 = .ok (.getfield 116, 3) := by decide +kernel
theorem dX6_specs_27 : decode cX6_specs 27 = .ok (.ireturn, 1) := by decide +kernel
theorem dX6_needRoomForSpecs_0 : decode cX6_needRoomForSpecs 0 = .ok (.aload_n 0, 1) := by decide +kernel
theorem dX6_needRoomForSpecs_1 : decode cX6_needRoomForSpecs 1 = .ok (.getfield 35, 3) := by decide +kernel
theorem dX6_needRoomForSpecs_4 : decode cX6_needRoomForSpecs 4 = .ok (.getfield 154, 3) := by decide +kernel
theorem dX6_needRoomForSpecs_7 : decode cX6_needRoomForSpecs 7 = .ok (.iload_n 1, 1) := by decide +kernel
theorem dX6_needRoomForSpecs_8 : decode cX6_needRoomForSpecs 8 = .ok (.iadd, 1) := by decide +kernel
theorem dX6_needRoomForSpecs_9 : decode cX6_needRoomForSpecs 9 = .ok (.bipush 60, 2) := by decide +kernel
theorem dX6_needRoomForSpecs_11 : decode cX6_needRoomForSpecs 11 = .ok (.if_icmp .le 13, 3) := by decide +kernel
theorem dX6_needRoomForSpecs_14 : decode cX6_needRoomForSpecs 14 = .ok (.new 67, 3) := by decide +kernel
theorem dX6_needRoomForSpecs_17 : decode cX6_needRoomForSpecs 17 = .ok (.dup, 1) := by decide +kernel
theorem dX6_needRoomForSpecs_18 : decode cX6_needRoomForSpecs 18 = .ok (.ldc 181, 2) := by decide +kernel
theorem dX6_needRoomForSpecs_20 : decode cX6_needRoomForSpecs 20 = .ok (.invokespecial 71, 3) := by decide +kernel
theorem dX6_needRoomForSpecs_23 : decode cX6_needRoomForSpecs 23 = .ok (.athrow, 1) := by decide +kernel
theorem dX6_needRoomForSpecs_24 : decode cX6_needRoomForSpecs 24 = .ok (.return_, 1) := by decide +kernel
theorem dX6_match_0 : decode cX6_match 0 = .ok (.aload_n 0, 1) := by decide +kernel
theorem dX6_match_1 : decode cX6_match 1 = .ok (.getfield 23, 3) := by decide +kernel
theorem dX6_match_4 : decode cX6_match 4 = .ok (.iload_n 1, 1) := by decide +kernel
theorem dX6_match_5 : decode cX6_match 5 = .ok (.invokevirtual 103, 3) := by decide +kernel
theorem dX6_match_8 : decode cX6_match 8 = .ok (.invokestatic 107, 3) := by decide +kernel
theorem dX6_match_11 : decode cX6_match 11 = .ok (.aload_n 0, 1) := by decide +kernel
theorem dX6_match_12 : decode cX6_match 12 = .ok (.getfield 27, 3) := by decide +kernel
theorem dX6_match_15 : decode cX6_match 15 = .ok (.iload_n 2, 1) := by decide +kernel
theorem dX6_match_16 : decode cX6_match 16 = .ok (.invokevirtual 103, 3) := by decide +kernel
theorem dX6_match_19 : decode cX6_match 19 = .ok (.invokestatic 107, 3) := by decide +kernel
theorem dX6_match_22 : decode cX6_match 22 = .ok (.aload_n 0, 1) := by decide +kernel
theorem dX6_match_23 : decode cX6_match 23 = .ok (.aload_n 0, 1) := by decide +kernel
theorem dX6_match_24 : decode cX6_match 24 = .ok (.getfield 23, 3) := by decide +kernel
theorem dX6_match_27 : decode cX6_match 27 = .ok (.iload_n 1, 1) := by decide +kernel
theorem dX6_match_28 : decode cX6_match 28 = .ok (.iload_n 2, 1) := by decide +kernel
theorem dX6_match_29 : decode cX6_match 29 = .ok (.iconst 0, 1) := by decide +kernel
theorem dX6_match_30 : decode cX6_match 30 = .ok (.invokevirtual 183, 3) := by decide +kernel
theorem dX6_match_33 : decode cX6_match 33 = .ok (.ireturn, 1) := by decide +kernel
theorem dX6_seal_0 : decode cX6_seal 0 = .ok (.aload_n 0, 1) := by decide +kernel
theorem dX6_seal_1 : decode cX6_seal 1 = .ok (.getfield 23, 3) := by decide +kernel
theorem dX6_seal_4 : decode cX6_seal 4 = .ok (.iload_n 1, 1) := by decide +kernel
theorem dX6_seal_5 : decode cX6_seal 5 = .ok (.invokevirtual 103, 3) := by decide +kernel
theorem dX6_seal_8 : decode cX6_seal 8 = .ok (.invokestatic 107, 3) := by decide +kernel
theorem dX6_seal_11 : decode cX6_seal 11 = .ok (.aload_n 0, 1) := by decide +kernel
theorem dX6_seal_12 : decode cX6_seal 12 = .ok (.getfield 27, 3) := by decide +kernel
theorem dX6_seal_15 : decode cX6_seal 15 = .ok (.iload_n 2, 1) := by decide +kernel
theorem dX6_seal_16 : decode cX6_seal 16 = .ok (.invokevirtual 103, 3) := by decide +kernel
theorem dX6_seal_19 : decode cX6_seal 19 = .ok (.invokestatic 107, 3) := by decide +kernel
theorem dX6_seal_22 : decode cX6_seal 22 = .ok (.aload_n 0, 1) := by decide +kernel
theorem dX6_seal_23 : decode cX6_seal 23 = .ok (.iload_n 1, 1) := by decide +kernel
theorem dX6_seal_24 : decode cX6_seal 24 = .ok (.iload_n 2, 1) := by decide +kernel
theorem dX6_seal_25 : decode cX6_seal 25 = .ok (.iconst 1, 1) := by decide +kernel
theorem dX6_seal_26 : decode cX6_seal 26 = .ok (.invokevirtual 187, 3) := by decide +kernel
theorem dX6_seal_29 : decode cX6_seal 29 = .ok (.ireturn, 1) := by decide +kernel
theorem dX6_view_0 : decode cX6_view 0 = .ok (.aload_n 0, 1) := by decide +kernel
theorem dX6_view_1 : decode cX6_view 1 = .ok (.getfield 23, 3) := by decide +kernel
theorem dX6_view_4 : decode cX6_view 4 = .ok (.iload_n 1, 1) := by decide +kernel
theorem dX6_view_5 : decode cX6_view 5 = .ok (.invokevirtual 103, 3) := by decide +kernel
theorem dX6_view_8 : decode cX6_view 8 = .ok (.invokestatic 107, 3) := by decide +kernel
theorem dX6_view_11 : decode cX6_view 11 = .ok (.aload_n 0, 1) := by decide +kernel
theorem dX6_view_12 : decode cX6_view 12 = .ok (.getfield 27, 3) := by decide +kernel
theorem dX6_view_15 : decode cX6_view 15 = .ok (.iload_n 2, 1) := by decide +kernel
theorem dX6_view_16 : decode cX6_view 16 = .ok (.invokevirtual 103, 3) := by decide +kernel
theorem dX6_view_19 : decode cX6_view 19 = .ok (.invokestatic 107, 3) := by decide +kernel
theorem dX6_view_22 : decode cX6_view 22 = .ok (.aload_n 0, 1) := by decide +kernel
theorem dX6_view_23 : decode cX6_view 23 = .ok (.iload_n 1, 1) := by decide +kernel
theorem dX6_view_24 : decode cX6_view 24 = .ok (.iload_n 2, 1) := by decide +kernel
theorem dX6_view_25 : decode cX6_view 25 = .ok (.iconst 0, 1) := by decide +kernel
theorem dX6_view_26 : decode cX6_view 26 = .ok (.invokevirtual 187, 3) := by decide +kernel
theorem dX6_view_29 : decode cX6_view 29 = .ok (.ireturn, 1) := by decide +kernel
theorem dX6_finer_0 : decode cX6_finer 0 = .ok (.aload_n 0, 1) := by decide +kernel
theorem dX6_finer_1 : decode cX6_finer 1 = .ok (.getfield 27, 3) := by decide +kernel
theorem dX6_finer_4 : decode cX6_finer 4 = .ok (.iload_n 1, 1) := by decide +kernel
theorem dX6_finer_5 : decode cX6_finer 5 = .ok (.invokevirtual 103, 3) := by decide +kernel
theorem dX6_finer_8 : decode cX6_finer 8 = .ok (.invokestatic 107, 3) := by decide +kernel
theorem dX6_finer_11 : decode cX6_finer 11 = .ok (.aload_n 0, 1) := by decide +kernel
theorem dX6_finer_12 : decode cX6_finer 12 = .ok (.getfield 27, 3) := by decide +kernel
theorem dX6_finer_15 : decode cX6_finer 15 = .ok (.iload_n 2, 1) := by decide +kernel
theorem dX6_finer_16 : decode cX6_finer 16 = .ok (.invokevirtual 103, 3) := by decide +kernel
theorem dX6_finer_19 : decode cX6_finer 19 = .ok (.invokestatic 107, 3) := by decide +kernel
theorem dX6_finer_22 : decode cX6_finer 22 = .ok (.aload_n 0, 1) := by decide +kernel
theorem dX6_finer_23 : decode cX6_finer 23 = .ok (.aload_n 0, 1) := by decide +kernel
theorem dX6_finer_24 : decode cX6_finer 24 = .ok (.getfield 27, 3) := by decide +kernel
theorem dX6_finer_27 : decode cX6_finer 27 = .ok (.iload_n 1, 1) := by decide +kernel
theorem dX6_finer_28 : decode cX6_finer 28 = .ok (.iload_n 2, 1) := by decide +kernel
theorem dX6_finer_29 : decode cX6_finer 29 = .ok (.iconst 0, 1) := by decide +kernel
theorem dX6_finer_30 : decode cX6_finer 30 = .ok (.invokevirtual 183, 3) := by decide +kernel
theorem dX6_finer_33 : decode cX6_finer 33 = .ok (.ifCond .ne 7, 3) := by decide +kernel
theorem dX6_finer_36 : decode cX6_finer 36 = .ok (.iconst 1, 1) := by decide +kernel
theorem dX6_finer_37 : decode cX6_finer 37 = .ok (.goto 4, 3) := by decide +kernel
theorem dX6_finer_40 : decode cX6_finer 40 = .ok (.iconst 0, 1) := by decide +kernel
theorem dX6_finer_41 : decode cX6_finer 41 = .ok (.ireturn, 1) := by decide +kernel
theorem dX6_alike_0 : decode cX6_alike 0 = .ok (.aload_n 0, 1) := by decide +kernel
theorem dX6_alike_1 : decode cX6_alike 1 = .ok (.getfield 27, 3) := by decide +kernel
theorem dX6_alike_4 : decode cX6_alike 4 = .ok (.iload_n 1, 1) := by decide +kernel
theorem dX6_alike_5 : decode cX6_alike 5 = .ok (.invokevirtual 103, 3) := by decide +kernel
theorem dX6_alike_8 : decode cX6_alike 8 = .ok (.invokestatic 107, 3) := by decide +kernel
theorem dX6_alike_11 : decode cX6_alike 11 = .ok (.aload_n 0, 1) := by decide +kernel
theorem dX6_alike_12 : decode cX6_alike 12 = .ok (.getfield 27, 3) := by decide +kernel
theorem dX6_alike_15 : decode cX6_alike 15 = .ok (.iload_n 2, 1) := by decide +kernel
theorem dX6_alike_16 : decode cX6_alike 16 = .ok (.invokevirtual 103, 3) := by decide +kernel
theorem dX6_alike_19 : decode cX6_alike 19 = .ok (.invokestatic 107, 3) := by decide +kernel
theorem dX6_alike_22 : decode cX6_alike 22 = .ok (.aload_n 0, 1) := by decide +kernel
theorem dX6_alike_23 : decode cX6_alike 23 = .ok (.iload_n 1, 1) := by decide +kernel
theorem dX6_alike_24 : decode cX6_alike 24 = .ok (.iload_n 2, 1) := by decide +kernel
theorem dX6_alike_25 : decode cX6_alike 25 = .ok (.iconst 0, 1) := by decide +kernel
theorem dX6_alike_26 : decode cX6_alike 26 = .ok (.invokevirtual 191, 3) := by decide +kernel
theorem dX6_alike_29 : decode cX6_alike 29 = .ok (.ireturn, 1) := by decide +kernel
theorem dX6_firstMisfit_0 : decode cX6_firstMisfit 0 = .ok (.aload_n 1, 1) := by decide +kernel
theorem dX6_firstMisfit_1 : decode cX6_firstMisfit 1 = .ok (.iload_n 2, 1) := by decide +kernel
theorem dX6_firstMisfit_2 : decode cX6_firstMisfit 2 = .ok (.invokevirtual 103, 3) := by decide +kernel
theorem dX6_firstMisfit_5 : decode cX6_firstMisfit 5 = .ok (.astore 5, 2) := by decide +kernel
theorem dX6_firstMisfit_7 : decode cX6_firstMisfit 7 = .ok (.aload_n 0, 1) := by decide +kernel
theorem dX6_firstMisfit_8 : decode cX6_firstMisfit 8 = .ok (.getfield 27, 3) := by decide +kernel
theorem dX6_firstMisfit_11 : decode cX6_firstMisfit 11 = .ok (.iload_n 3, 1) := by decide +kernel
theorem dX6_firstMisfit_12 : decode cX6_firstMisfit 12 = .ok (.invokevirtual 103, 3) := by decide +kernel
theorem dX6_firstMisfit_15 : decode cX6_firstMisfit 15 = .ok (.astore 6, 2) := by decide +kernel
theorem dX6_firstMisfit_17 : decode cX6_firstMisfit 17 = .ok (.aload 5, 2) := by decide +kernel
theorem dX6_firstMisfit_19 : decode cX6_firstMisfit 19 = .ok (.ifnull 15, 3) := by decide +kernel
theorem dX6_firstMisfit_22 : decode cX6_firstMisfit 22 = .ok (.aload 6, 2) := by decide +kernel
theorem dX6_firstMisfit_24 : decode cX6_firstMisfit 24 = .ok (.ifnull 10, 3) := by decide +kernel
theorem dX6_firstMisfit_27 : decode cX6_firstMisfit 27 = .ok (.iload 4, 2) := by decide +kernel
theorem dX6_firstMisfit_29 : decode cX6_firstMisfit 29 = .ok (.bipush 20, 2) := by decide +kernel
theorem dX6_firstMisfit_31 : decode cX6_firstMisfit 31 = .ok (.if_icmp .le 5, 3) := by decide +kernel
theorem dX6_firstMisfit_34 : decode cX6_firstMisfit 34 = .ok (.iconst (-1), 1) := by decide +kernel
theorem dX6_firstMisfit_35 : decode cX6_firstMisfit 35 = .ok (.ireturn, 1) := by decide +kernel
theorem dX6_firstMisfit_36 : decode cX6_firstMisfit 36 = .ok (.iconst 0, 1) := by decide +kernel
theorem dX6_firstMisfit_37 : decode cX6_firstMisfit 37 = .ok (.istore 7, 2) := by decide +kernel
theorem dX6_firstMisfit_39 : decode cX6_firstMisfit 39 = .ok (.iload 7, 2) := by decide +kernel
theorem dX6_firstMisfit_41 : decode cX6_firstMisfit 41 = .ok (.aload 6, 2) := by decide +kernel
theorem dX6_firstMisfit_43 : decode cX6_firstMisfit 43 = .ok (.getfield 116, 3) := by decide +kernel
theorem dX6_firstMisfit_46 : decode cX6_firstMisfit 46 = .ok (.if_icmp .ge 133, 3) := by decide +kernel
theorem dX6_firstMisfit_49 : decode cX6_firstMisfit 49 = .ok (.aload 6, 2) := by decide +kernel
theorem dX6_firstMisfit_51 : decode cX6_firstMisfit 51 = .ok (.iload 7, 2) := by decide +kernel
theorem dX6_firstMisfit_53 : decode cX6_firstMisfit 53 = .ok (.iconst 0, 1) := by decide +kernel
theorem dX6_firstMisfit_54 : decode cX6_firstMisfit 54 = .ok (.invokevirtual 120, 3) := by decide +kernel
theorem dX6_firstMisfit_57 : decode cX6_firstMisfit 57 = .ok (.istore 8, 2) := by decide +kernel
theorem dX6_firstMisfit_59 : decode cX6_firstMisfit 59 = .ok (.aload 6, 2) := by decide +kernel
theorem dX6_firstMisfit_61 : decode cX6_firstMisfit 61 = .ok (.iload 7, 2) := by decide +kernel
theorem dX6_firstMisfit_63 : decode cX6_firstMisfit 63 = .ok (.iconst 1, 1) := by decide +kernel
theorem dX6_firstMisfit_64 : decode cX6_firstMisfit 64 = .ok (.invokevirtual 120, 3) := by decide +kernel
theorem dX6_firstMisfit_67 : decode cX6_firstMisfit 67 = .ok (.istore 9, 2) := by decide +kernel
theorem dX6_firstMisfit_69 : decode cX6_firstMisfit 69 = .ok (.aload 5, 2) := by decide +kernel
theorem dX6_firstMisfit_71 : decode cX6_firstMisfit 71 = .ok (.iload 8, 2) := by decide +kernel
theorem dX6_firstMisfit_73 : decode cX6_firstMisfit 73 = .ok (.iload 9, 2) := by decide +kernel
theorem dX6_firstMisfit_75 : decode cX6_firstMisfit 75 = .ok (.invokevirtual 131, 3) := by decide +kernel
theorem dX6_firstMisfit_78 : decode cX6_firstMisfit 78 = .ok (.istore 10, 2) := by decide +kernel
theorem dX6_firstMisfit_80 : decode cX6_firstMisfit 80 = .ok (.iload 10, 2) := by decide +kernel
theorem dX6_firstMisfit_82 : decode cX6_firstMisfit 82 = .ok (.iconst (-1), 1) := by decide +kernel
theorem dX6_firstMisfit_83 : decode cX6_firstMisfit 83 = .ok (.if_icmp .ne 16, 3) := by decide +kernel
theorem dX6_firstMisfit_86 : decode cX6_firstMisfit 86 = .ok (.bipush 10, 2) := by decide +kernel
theorem dX6_firstMisfit_88 : decode cX6_firstMisfit 88 = .ok (.iconst 2, 1) := by decide +kernel
theorem dX6_firstMisfit_89 : decode cX6_firstMisfit 89 = .ok (.iload 8, 2) := by decide +kernel
theorem dX6_firstMisfit_91 : decode cX6_firstMisfit 91 = .ok (.imul, 1) := by decide +kernel
theorem dX6_firstMisfit_92 : decode cX6_firstMisfit 92 = .ok (.iconst 1, 1) := by decide +kernel
theorem dX6_firstMisfit_93 : decode cX6_firstMisfit 93 = .ok (.iadd, 1) := by decide +kernel
theorem dX6_firstMisfit_94 : decode cX6_firstMisfit 94 = .ok (.imul, 1) := by decide +kernel
theorem dX6_firstMisfit_95 : decode cX6_firstMisfit 95 = .ok (.iload 9, 2) := by decide +kernel
theorem dX6_firstMisfit_97 : decode cX6_firstMisfit 97 = .ok (.iadd, 1) := by decide +kernel
theorem dX6_firstMisfit_98 : decode cX6_firstMisfit 98 = .ok (.ireturn, 1) := by decide +kernel
theorem dX6_firstMisfit_99 : decode cX6_firstMisfit 99 = .ok (.iload 8, 2) := by decide +kernel
theorem dX6_firstMisfit_101 : decode cX6_firstMisfit 101 = .ok (.iconst 2, 1) := by decide +kernel
theorem dX6_firstMisfit_102 : decode cX6_firstMisfit 102 = .ok (.if_icmp .ne 39, 3) := by decide +kernel
theorem dX6_firstMisfit_105 : decode cX6_firstMisfit 105 = .ok (.aload_n 0, 1) := by decide +kernel
theorem dX6_firstMisfit_106 : decode cX6_firstMisfit 106 = .ok (.aload_n 1, 1) := by decide +kernel
theorem dX6_firstMisfit_107 : decode cX6_firstMisfit 107 = .ok (.aload 5, 2) := by decide +kernel
theorem dX6_firstMisfit_109 : decode cX6_firstMisfit 109 = .ok (.iload 10, 2) := by decide +kernel
theorem dX6_firstMisfit_111 : decode cX6_firstMisfit 111 = .ok (.iconst 2, 1) := by decide +kernel
theorem dX6_firstMisfit_112 : decode cX6_firstMisfit 112 = .ok (.invokevirtual 120, 3) := by decide +kernel
theorem dX6_firstMisfit_115 : decode cX6_firstMisfit 115 = .ok (.aload 6, 2) := by decide +kernel
theorem dX6_firstMisfit_117 : decode cX6_firstMisfit 117 = .ok (.iload 7, 2) := by decide +kernel
theorem dX6_firstMisfit_119 : decode cX6_firstMisfit 119 = .ok (.iconst 2, 1) := by decide +kernel
theorem dX6_firstMisfit_120 : decode cX6_firstMisfit 120 = .ok (.invokevirtual 120, 3) := by decide +kernel
theorem dX6_firstMisfit_123 : decode cX6_firstMisfit 123 = .ok (.iload 4, 2) := by decide +kernel
theorem dX6_firstMisfit_125 : decode cX6_firstMisfit 125 = .ok (.iconst 1, 1) := by decide +kernel
theorem dX6_firstMisfit_126 : decode cX6_firstMisfit 126 = .ok (.iadd, 1) := by decide +kernel
theorem dX6_firstMisfit_127 : decode cX6_firstMisfit 127 = .ok (.invokevirtual 183, 3) := by decide +kernel
theorem dX6_firstMisfit_130 : decode cX6_firstMisfit 130 = .ok (.ifCond .ne 7, 3) := by decide +kernel
theorem dX6_firstMisfit_133 : decode cX6_firstMisfit 133 = .ok (.iconst 1, 1) := by decide +kernel
theorem dX6_firstMisfit_134 : decode cX6_firstMisfit 134 = .ok (.goto 19, 3) := by decide +kernel
theorem dX6_firstMisfit_137 : decode cX6_firstMisfit 137 = .ok (.iconst 0, 1) := by decide +kernel
theorem dX6_firstMisfit_138 : decode cX6_firstMisfit 138 = .ok (.goto 15, 3) := by decide +kernel
theorem dX6_firstMisfit_141 : decode cX6_firstMisfit 141 = .ok (.aload_n 0, 1) := by decide +kernel
theorem dX6_firstMisfit_142 : decode cX6_firstMisfit 142 = .ok (.aload 5, 2) := by decide +kernel
theorem dX6_firstMisfit_144 : decode cX6_firstMisfit 144 = .ok (.iload 10, 2) := by decide +kernel
theorem dX6_firstMisfit_146 : decode cX6_firstMisfit 146 = .ok (.aload 6, 2) := by decide +kernel
theorem dX6_firstMisfit_148 : decode cX6_firstMisfit 148 = .ok (.iload 7, 2) := by decide +kernel
theorem dX6_firstMisfit_150 : decode cX6_firstMisfit 150 = .ok (.invokevirtual 195, 3) := by decide +kernel
theorem dX6_firstMisfit_153 : decode cX6_firstMisfit 153 = .ok (.istore 11, 2) := by decide +kernel
theorem dX6_firstMisfit_155 : decode cX6_firstMisfit 155 = .ok (.iload 11, 2) := by decide +kernel
theorem dX6_firstMisfit_157 : decode cX6_firstMisfit 157 = .ok (.ifCond .ne 16, 3) := by decide +kernel
theorem dX6_firstMisfit_160 : decode cX6_firstMisfit 160 = .ok (.bipush 10, 2) := by decide +kernel
theorem dX6_firstMisfit_162 : decode cX6_firstMisfit 162 = .ok (.iconst 2, 1) := by decide +kernel
theorem dX6_firstMisfit_163 : decode cX6_firstMisfit 163 = .ok (.iload 8, 2) := by decide +kernel
theorem dX6_firstMisfit_165 : decode cX6_firstMisfit 165 = .ok (.imul, 1) := by decide +kernel
theorem dX6_firstMisfit_166 : decode cX6_firstMisfit 166 = .ok (.iconst 2, 1) := by decide +kernel
theorem dX6_firstMisfit_167 : decode cX6_firstMisfit 167 = .ok (.iadd, 1) := by decide +kernel
theorem dX6_firstMisfit_168 : decode cX6_firstMisfit 168 = .ok (.imul, 1) := by decide +kernel
theorem dX6_firstMisfit_169 : decode cX6_firstMisfit 169 = .ok (.iload 9, 2) := by decide +kernel
theorem dX6_firstMisfit_171 : decode cX6_firstMisfit 171 = .ok (.iadd, 1) := by decide +kernel
theorem dX6_firstMisfit_172 : decode cX6_firstMisfit 172 = .ok (.ireturn, 1) := by decide +kernel
theorem dX6_firstMisfit_173 : decode cX6_firstMisfit 173 = .ok (.iinc 7 1, 3) := by decide +kernel
theorem dX6_firstMisfit_176 : decode cX6_firstMisfit 176 = .ok (.goto (-137), 3) := by decide +kernel
theorem dX6_firstMisfit_179 : decode cX6_firstMisfit 179 = .ok (.iconst 0, 1) := by decide +kernel
theorem dX6_firstMisfit_180 : decode cX6_firstMisfit 180 = .ok (.ireturn, 1) := by decide +kernel
theorem dX6_fitsType_0 : decode cX6_fitsType 0 = .ok (.aload_n 3, 1) := by decide +kernel
theorem dX6_fitsType_1 : decode cX6_fitsType 1 = .ok (.iload 4, 2) := by decide +kernel
theorem dX6_fitsType_3 : decode cX6_fitsType 3 = .ok (.iconst 2, 1) := by decide +kernel
theorem dX6_fitsType_4 : decode cX6_fitsType 4 = .ok (.invokevirtual 120, 3) := by decide +kernel
theorem dX6_fitsType_7 : decode cX6_fitsType 7 = .ok (.istore 5, 2) := by decide +kernel
theorem dX6_fitsType_9 : decode cX6_fitsType 9 = .ok (.aload_n 3, 1) := by decide +kernel
theorem dX6_fitsType_10 : decode cX6_fitsType 10 = .ok (.iload 4, 2) := by decide +kernel
theorem dX6_fitsType_12 : decode cX6_fitsType 12 = .ok (.iconst 0, 1) := by decide +kernel
theorem dX6_fitsType_13 : decode cX6_fitsType 13 = .ok (.invokevirtual 120, 3) := by decide +kernel
theorem dX6_fitsType_16 : decode cX6_fitsType 16 = .ok (.ifCond .ne 38, 3) := by decide +kernel
theorem dX6_fitsType_19 : decode cX6_fitsType 19 = .ok (.iload 5, 2) := by decide +kernel
theorem dX6_fitsType_21 : decode cX6_fitsType 21 = .ok (.bipush (-100), 2) := by decide +kernel
theorem dX6_fitsType_23 : decode cX6_fitsType 23 = .ok (.if_icmp .eq 25, 3) := by decide +kernel
theorem dX6_fitsType_26 : decode cX6_fitsType 26 = .ok (.aload_n 1, 1) := by decide +kernel
theorem dX6_fitsType_27 : decode cX6_fitsType 27 = .ok (.iconst (-1), 1) := by decide +kernel
theorem dX6_fitsType_28 : decode cX6_fitsType 28 = .ok (.aload_n 3, 1) := by decide +kernel
theorem dX6_fitsType_29 : decode cX6_fitsType 29 = .ok (.iload 4, 2) := by decide +kernel
theorem dX6_fitsType_31 : decode cX6_fitsType 31 = .ok (.iconst 1, 1) := by decide +kernel
theorem dX6_fitsType_32 : decode cX6_fitsType 32 = .ok (.invokevirtual 120, 3) := by decide +kernel
theorem dX6_fitsType_35 : decode cX6_fitsType 35 = .ok (.isub, 1) := by decide +kernel
theorem dX6_fitsType_36 : decode cX6_fitsType 36 = .ok (.invokevirtual 199, 3) := by decide +kernel
theorem dX6_fitsType_39 : decode cX6_fitsType 39 = .ok (.aload_n 1, 1) := by decide +kernel
theorem dX6_fitsType_40 : decode cX6_fitsType 40 = .ok (.iload 5, 2) := by decide +kernel
theorem dX6_fitsType_42 : decode cX6_fitsType 42 = .ok (.invokevirtual 199, 3) := by decide +kernel
theorem dX6_fitsType_45 : decode cX6_fitsType 45 = .ok (.if_icmp .ne 7, 3) := by decide +kernel
theorem dX6_fitsType_48 : decode cX6_fitsType 48 = .ok (.iconst 1, 1) := by decide +kernel
theorem dX6_fitsType_49 : decode cX6_fitsType 49 = .ok (.goto 4, 3) := by decide +kernel
theorem dX6_fitsType_52 : decode cX6_fitsType 52 = .ok (.iconst 0, 1) := by decide +kernel
theorem dX6_fitsType_53 : decode cX6_fitsType 53 = .ok (.ireturn, 1) := by decide +kernel
theorem dX6_fitsType_54 : decode cX6_fitsType 54 = .ok (.aload_n 0, 1) := by decide +kernel
theorem dX6_fitsType_55 : decode cX6_fitsType 55 = .ok (.aload_n 1, 1) := by decide +kernel
theorem dX6_fitsType_56 : decode cX6_fitsType 56 = .ok (.aload_n 1, 1) := by decide +kernel
theorem dX6_fitsType_57 : decode cX6_fitsType 57 = .ok (.iload_n 2, 1) := by decide +kernel
theorem dX6_fitsType_58 : decode cX6_fitsType 58 = .ok (.iconst 2, 1) := by decide +kernel
theorem dX6_fitsType_59 : decode cX6_fitsType 59 = .ok (.invokevirtual 120, 3) := by decide +kernel
theorem dX6_fitsType_62 : decode cX6_fitsType 62 = .ok (.invokevirtual 199, 3) := by decide +kernel
theorem dX6_fitsType_65 : decode cX6_fitsType 65 = .ok (.aload_n 1, 1) := by decide +kernel
theorem dX6_fitsType_66 : decode cX6_fitsType 66 = .ok (.aload_n 1, 1) := by decide +kernel
theorem dX6_fitsType_67 : decode cX6_fitsType 67 = .ok (.iload_n 2, 1) := by decide +kernel
theorem dX6_fitsType_68 : decode cX6_fitsType 68 = .ok (.iconst 3, 1) := by decide +kernel
theorem dX6_fitsType_69 : decode cX6_fitsType 69 = .ok (.invokevirtual 120, 3) := by decide +kernel
theorem dX6_fitsType_72 : decode cX6_fitsType 72 = .ok (.invokevirtual 199, 3) := by decide +kernel
theorem dX6_fitsType_75 : decode cX6_fitsType 75 = .ok (.aload_n 1, 1) := by decide +kernel
theorem dX6_fitsType_76 : decode cX6_fitsType 76 = .ok (.iload 5, 2) := by decide +kernel
theorem dX6_fitsType_78 : decode cX6_fitsType 78 = .ok (.invokevirtual 199, 3) := by decide +kernel
theorem dX6_fitsType_81 : decode cX6_fitsType 81 = .ok (.aload_n 1, 1) := by decide +kernel
theorem dX6_fitsType_82 : decode cX6_fitsType 82 = .ok (.aload_n 3, 1) := by decide +kernel
theorem dX6_fitsType_83 : decode cX6_fitsType 83 = .ok (.iload 4, 2) := by decide +kernel
theorem dX6_fitsType_85 : decode cX6_fitsType 85 = .ok (.iconst 3, 1) := by decide +kernel
theorem dX6_fitsType_86 : decode cX6_fitsType 86 = .ok (.invokevirtual 120, 3) := by decide +kernel
theorem dX6_fitsType_89 : decode cX6_fitsType 89 = .ok (.invokevirtual 199, 3) := by decide +kernel
theorem dX6_fitsType_92 : decode cX6_fitsType 92 = .ok (.invokevirtual 202, 3) := by decide +kernel
theorem dX6_fitsType_95 : decode cX6_fitsType 95 = .ok (.ireturn, 1) := by decide +kernel
theorem dX6_isSameType_0 : decode cX6_isSameType 0 = .ok (.iload_n 2, 1) := by decide +kernel
theorem dX6_isSameType_1 : decode cX6_isSameType 1 = .ok (.bipush (-100), 2) := by decide +kernel
theorem dX6_isSameType_3 : decode cX6_isSameType 3 = .ok (.if_icmp .ne 14, 3) := by decide +kernel
theorem dX6_isSameType_6 : decode cX6_isSameType 6 = .ok (.aload_n 0, 1) := by decide +kernel
theorem dX6_isSameType_7 : decode cX6_isSameType 7 = .ok (.getfield 12, 3) := by decide +kernel
theorem dX6_isSameType_10 : decode cX6_isSameType 10 = .ok (.iload_n 1, 1) := by decide +kernel
theorem dX6_isSameType_11 : decode cX6_isSameType 11 = .ok (.invokevirtual 205, 3) := by decide +kernel
theorem dX6_isSameType_14 : decode cX6_isSameType 14 = .ok (.ifCond .eq 7, 3) := by decide +kernel
theorem dX6_isSameType_17 : decode cX6_isSameType 17 = .ok (.iconst 1, 1) := by decide +kernel
theorem dX6_isSameType_18 : decode cX6_isSameType 18 = .ok (.goto 4, 3) := by decide +kernel
theorem dX6_isSameType_21 : decode cX6_isSameType 21 = .ok (.iconst 0, 1) := by decide +kernel
theorem dX6_isSameType_22 : decode cX6_isSameType 22 = .ok (.istore 5, 2) := by decide +kernel
theorem dX6_isSameType_24 : decode cX6_isSameType 24 = .ok (.iload 4, 2) := by decide +kernel
theorem dX6_isSameType_26 : decode cX6_isSameType 26 = .ok (.bipush (-100), 2) := by decide +kernel
theorem dX6_isSameType_28 : decode cX6_isSameType 28 = .ok (.if_icmp .ne 14, 3) := by decide +kernel
theorem dX6_isSameType_31 : decode cX6_isSameType 31 = .ok (.aload_n 0, 1) := by decide +kernel
theorem dX6_isSameType_32 : decode cX6_isSameType 32 = .ok (.getfield 12, 3) := by decide +kernel
theorem dX6_isSameType_35 : decode cX6_isSameType 35 = .ok (.iload_n 3, 1) := by decide +kernel
theorem dX6_isSameType_36 : decode cX6_isSameType 36 = .ok (.invokevirtual 205, 3) := by decide +kernel
theorem dX6_isSameType_39 : decode cX6_isSameType 39 = .ok (.ifCond .eq 7, 3) := by decide +kernel
theorem dX6_isSameType_42 : decode cX6_isSameType 42 = .ok (.iconst 1, 1) := by decide +kernel
theorem dX6_isSameType_43 : decode cX6_isSameType 43 = .ok (.goto 4, 3) := by decide +kernel
theorem dX6_isSameType_46 : decode cX6_isSameType 46 = .ok (.iconst 0, 1) := by decide +kernel
theorem dX6_isSameType_47 : decode cX6_isSameType 47 = .ok (.istore 6, 2) := by decide +kernel
theorem dX6_isSameType_49 : decode cX6_isSameType 49 = .ok (.iload 5, 2) := by decide +kernel
theorem dX6_isSameType_51 : decode cX6_isSameType 51 = .ok (.iload 6, 2) := by decide +kernel
theorem dX6_isSameType_53 : decode cX6_isSameType 53 = .ok (.if_icmp .eq 5, 3) := by decide +kernel
theorem dX6_isSameType_56 : decode cX6_isSameType 56 = .ok (.iconst 0, 1) := by decide +kernel
theorem dX6_isSameType_57 : decode cX6_isSameType 57 = .ok (.ireturn, 1) := by decide +kernel
theorem dX6_isSameType_58 : decode cX6_isSameType 58 = .ok (.iload 5, 2) := by decide +kernel
theorem dX6_isSameType_60 : decode cX6_isSameType 60 = .ok (.ifCond .ne 14, 3) := by decide +kernel
theorem dX6_isSameType_63 : decode cX6_isSameType 63 = .ok (.iload_n 1, 1) := by decide +kernel
theorem dX6_isSameType_64 : decode cX6_isSameType 64 = .ok (.iload_n 3, 1) := by decide +kernel
theorem dX6_isSameType_65 : decode cX6_isSameType 65 = .ok (.if_icmp .ne 7, 3) := by decide +kernel
theorem dX6_isSameType_68 : decode cX6_isSameType 68 = .ok (.iconst 1, 1) := by decide +kernel
theorem dX6_isSameType_69 : decode cX6_isSameType 69 = .ok (.goto 4, 3) := by decide +kernel
theorem dX6_isSameType_72 : decode cX6_isSameType 72 = .ok (.iconst 0, 1) := by decide +kernel
theorem dX6_isSameType_73 : decode cX6_isSameType 73 = .ok (.ireturn, 1) := by decide +kernel
theorem dX6_isSameType_74 : decode cX6_isSameType 74 = .ok (.iload_n 2, 1) := by decide +kernel
theorem dX6_isSameType_75 : decode cX6_isSameType 75 = .ok (.bipush (-100), 2) := by decide +kernel
theorem dX6_isSameType_77 : decode cX6_isSameType 77 = .ok (.if_icmp .ne 14, 3) := by decide +kernel
theorem dX6_isSameType_80 : decode cX6_isSameType 80 = .ok (.aload_n 0, 1) := by decide +kernel
theorem dX6_isSameType_81 : decode cX6_isSameType 81 = .ok (.getfield 12, 3) := by decide +kernel
theorem dX6_isSameType_84 : decode cX6_isSameType 84 = .ok (.iload_n 1, 1) := by decide +kernel
theorem dX6_isSameType_85 : decode cX6_isSameType 85 = .ok (.invokevirtual 78, 3) := by decide +kernel
theorem dX6_isSameType_88 : decode cX6_isSameType 88 = .ok (.goto 4, 3) := by decide +kernel
theorem dX6_isSameType_91 : decode cX6_isSameType 91 = .ok (.iload_n 1, 1) := by decide +kernel
theorem dX6_isSameType_92 : decode cX6_isSameType 92 = .ok (.istore 7, 2) := by decide +kernel
theorem dX6_isSameType_94 : decode cX6_isSameType 94 = .ok (.iload 4, 2) := by decide +kernel
theorem dX6_isSameType_96 : decode cX6_isSameType 96 = .ok (.bipush (-100), 2) := by decide +kernel
theorem dX6_isSameType_98 : decode cX6_isSameType 98 = .ok (.if_icmp .ne 14, 3) := by decide +kernel
theorem dX6_isSameType_101 : decode cX6_isSameType 101 = .ok (.aload_n 0, 1) := by decide +kernel
theorem dX6_isSameType_102 : decode cX6_isSameType 102 = .ok (.getfield 12, 3) := by decide +kernel
theorem dX6_isSameType_105 : decode cX6_isSameType 105 = .ok (.iload_n 3, 1) := by decide +kernel
theorem dX6_isSameType_106 : decode cX6_isSameType 106 = .ok (.invokevirtual 78, 3) := by decide +kernel
theorem dX6_isSameType_109 : decode cX6_isSameType 109 = .ok (.goto 4, 3) := by decide +kernel
theorem dX6_isSameType_112 : decode cX6_isSameType 112 = .ok (.iload_n 3, 1) := by decide +kernel
theorem dX6_isSameType_113 : decode cX6_isSameType 113 = .ok (.istore 8, 2) := by decide +kernel
theorem dX6_isSameType_115 : decode cX6_isSameType 115 = .ok (.iload_n 2, 1) := by decide +kernel
theorem dX6_isSameType_116 : decode cX6_isSameType 116 = .ok (.bipush (-100), 2) := by decide +kernel
theorem dX6_isSameType_118 : decode cX6_isSameType 118 = .ok (.if_icmp .ne 14, 3) := by decide +kernel
theorem dX6_isSameType_121 : decode cX6_isSameType 121 = .ok (.aload_n 0, 1) := by decide +kernel
theorem dX6_isSameType_122 : decode cX6_isSameType 122 = .ok (.getfield 12, 3) := by decide +kernel
theorem dX6_isSameType_125 : decode cX6_isSameType 125 = .ok (.iload_n 1, 1) := by decide +kernel
theorem dX6_isSameType_126 : decode cX6_isSameType 126 = .ok (.invokevirtual 81, 3) := by decide +kernel
theorem dX6_isSameType_129 : decode cX6_isSameType 129 = .ok (.goto 4, 3) := by decide +kernel
theorem dX6_isSameType_132 : decode cX6_isSameType 132 = .ok (.iload_n 2, 1) := by decide +kernel
theorem dX6_isSameType_133 : decode cX6_isSameType 133 = .ok (.istore 9, 2) := by decide +kernel
theorem dX6_isSameType_135 : decode cX6_isSameType 135 = .ok (.iload 4, 2) := by decide +kernel
theorem dX6_isSameType_137 : decode cX6_isSameType 137 = .ok (.bipush (-100), 2) := by decide +kernel
theorem dX6_isSameType_139 : decode cX6_isSameType 139 = .ok (.if_icmp .ne 14, 3) := by decide +kernel
theorem dX6_isSameType_142 : decode cX6_isSameType 142 = .ok (.aload_n 0, 1) := by decide +kernel
theorem dX6_isSameType_143 : decode cX6_isSameType 143 = .ok (.getfield 12, 3) := by decide +kernel
theorem dX6_isSameType_146 : decode cX6_isSameType 146 = .ok (.iload_n 3, 1) := by decide +kernel
theorem dX6_isSameType_147 : decode cX6_isSameType 147 = .ok (.invokevirtual 81, 3) := by decide +kernel
theorem dX6_isSameType_150 : decode cX6_isSameType 150 = .ok (.goto 5, 3) := by decide +kernel
theorem dX6_isSameType_153 : decode cX6_isSameType 153 = .ok (.iload 4, 2) := by decide +kernel
theorem dX6_isSameType_155 : decode cX6_isSameType 155 = .ok (.istore 10, 2) := by decide +kernel
theorem dX6_isSameType_157 : decode cX6_isSameType 157 = .ok (.iload 7, 2) := by decide +kernel
theorem dX6_isSameType_159 : decode cX6_isSameType 159 = .ok (.iload 8, 2) := by decide +kernel
theorem dX6_isSameType_161 : decode cX6_isSameType 161 = .ok (.if_icmp .ne 14, 3) := by decide +kernel
theorem dX6_isSameType_164 : decode cX6_isSameType 164 = .ok (.iload 9, 2) := by decide +kernel
theorem dX6_isSameType_166 : decode cX6_isSameType 166 = .ok (.iload 10, 2) := by decide +kernel
theorem dX6_isSameType_168 : decode cX6_isSameType 168 = .ok (.if_icmp .ne 7, 3) := by decide +kernel
theorem dX6_isSameType_171 : decode cX6_isSameType 171 = .ok (.iconst 1, 1) := by decide +kernel
theorem dX6_isSameType_172 : decode cX6_isSameType 172 = .ok (.goto 4, 3) := by decide +kernel
theorem dX6_isSameType_175 : decode cX6_isSameType 175 = .ok (.iconst 0, 1) := by decide +kernel
theorem dX6_isSameType_176 : decode cX6_isSameType 176 = .ok (.ireturn, 1) := by decide +kernel
theorem dX6_areAlike_0 : decode cX6_areAlike 0 = .ok (.aload_n 0, 1) := by decide +kernel
theorem dX6_areAlike_1 : decode cX6_areAlike 1 = .ok (.getfield 27, 3) := by decide +kernel
theorem dX6_areAlike_4 : decode cX6_areAlike 4 = .ok (.iload_n 1, 1) := by decide +kernel
theorem dX6_areAlike_5 : decode cX6_areAlike 5 = .ok (.invokevirtual 103, 3) := by decide +kernel
theorem dX6_areAlike_8 : decode cX6_areAlike 8 = .ok (.astore 4, 2) := by decide +kernel
theorem dX6_areAlike_10 : decode cX6_areAlike 10 = .ok (.aload_n 0, 1) := by decide +kernel
theorem dX6_areAlike_11 : decode cX6_areAlike 11 = .ok (.getfield 27, 3) := by decide +kernel
theorem dX6_areAlike_14 : decode cX6_areAlike 14 = .ok (.iload_n 2, 1) := by decide +kernel
theorem dX6_areAlike_15 : decode cX6_areAlike 15 = .ok (.invokevirtual 103, 3) := by decide +kernel
theorem dX6_areAlike_18 : decode cX6_areAlike 18 = .ok (.astore 5, 2) := by decide +kernel
theorem dX6_areAlike_20 : decode cX6_areAlike 20 = .ok (.aload 4, 2) := by decide +kernel
theorem dX6_areAlike_22 : decode cX6_areAlike 22 = .ok (.ifnull 27, 3) := by decide +kernel
theorem dX6_areAlike_25 : decode cX6_areAlike 25 = .ok (.aload 5, 2) := by decide +kernel
theorem dX6_areAlike_27 : decode cX6_areAlike 27 = .ok (.ifnull 22, 3) := by decide +kernel
theorem dX6_areAlike_30 : decode cX6_areAlike 30 = .ok (.iload_n 3, 1) := by decide +kernel
theorem dX6_areAlike_31 : decode cX6_areAlike 31 = .ok (.bipush 20, 2) := by decide +kernel
theorem dX6_areAlike_33 : decode cX6_areAlike 33 = .ok (.if_icmp .gt 16, 3) := by decide +kernel
theorem dX6_areAlike_36 : decode cX6_areAlike 36 = .ok (.aload 4, 2) := by decide +kernel
theorem dX6_areAlike_38 : decode cX6_areAlike 38 = .ok (.getfield 116, 3) := by decide +kernel
theorem dX6_areAlike_41 : decode cX6_areAlike 41 = .ok (.aload 5, 2) := by decide +kernel
theorem dX6_areAlike_43 : decode cX6_areAlike 43 = .ok (.getfield 116, 3) := by decide +kernel
theorem dX6_areAlike_46 : decode cX6_areAlike 46 = .ok (.if_icmp .eq 5, 3) := by decide +kernel
theorem dX6_areAlike_49 : decode cX6_areAlike 49 = .ok (.iconst 0, 1) := by decide +kernel
theorem dX6_areAlike_50 : decode cX6_areAlike 50 = .ok (.ireturn, 1) := by decide +kernel
theorem dX6_areAlike_51 : decode cX6_areAlike 51 = .ok (.iconst 0, 1) := by decide +kernel
theorem dX6_areAlike_52 : decode cX6_areAlike 52 = .ok (.istore 6, 2) := by decide +kernel
theorem dX6_areAlike_54 : decode cX6_areAlike 54 = .ok (.iload 6, 2) := by decide +kernel
theorem dX6_areAlike_56 : decode cX6_areAlike 56 = .ok (.aload 4, 2) := by decide +kernel
theorem dX6_areAlike_58 : decode cX6_areAlike 58 = .ok (.getfield 116, 3) := by decide +kernel
theorem dX6_areAlike_61 : decode cX6_areAlike 61 = .ok (.if_icmp .ge 147, 3) := by decide +kernel
theorem dX6_areAlike_64 : decode cX6_areAlike 64 = .ok (.aload 4, 2) := by decide +kernel
theorem dX6_areAlike_66 : decode cX6_areAlike 66 = .ok (.iload 6, 2) := by decide +kernel
theorem dX6_areAlike_68 : decode cX6_areAlike 68 = .ok (.iconst 2, 1) := by decide +kernel
theorem dX6_areAlike_69 : decode cX6_areAlike 69 = .ok (.invokevirtual 120, 3) := by decide +kernel
theorem dX6_areAlike_72 : decode cX6_areAlike 72 = .ok (.istore 7, 2) := by decide +kernel
theorem dX6_areAlike_74 : decode cX6_areAlike 74 = .ok (.aload 5, 2) := by decide +kernel
theorem dX6_areAlike_76 : decode cX6_areAlike 76 = .ok (.iload 6, 2) := by decide +kernel
theorem dX6_areAlike_78 : decode cX6_areAlike 78 = .ok (.iconst 2, 1) := by decide +kernel
theorem dX6_areAlike_79 : decode cX6_areAlike 79 = .ok (.invokevirtual 120, 3) := by decide +kernel
theorem dX6_areAlike_82 : decode cX6_areAlike 82 = .ok (.istore 8, 2) := by decide +kernel
theorem dX6_areAlike_84 : decode cX6_areAlike 84 = .ok (.aload 4, 2) := by decide +kernel
theorem dX6_areAlike_86 : decode cX6_areAlike 86 = .ok (.iload 6, 2) := by decide +kernel
theorem dX6_areAlike_88 : decode cX6_areAlike 88 = .ok (.iconst 0, 1) := by decide +kernel
theorem dX6_areAlike_89 : decode cX6_areAlike 89 = .ok (.invokevirtual 120, 3) := by decide +kernel
theorem dX6_areAlike_92 : decode cX6_areAlike 92 = .ok (.aload 5, 2) := by decide +kernel
theorem dX6_areAlike_94 : decode cX6_areAlike 94 = .ok (.iload 6, 2) := by decide +kernel
theorem dX6_areAlike_96 : decode cX6_areAlike 96 = .ok (.iconst 0, 1) := by decide +kernel
theorem dX6_areAlike_97 : decode cX6_areAlike 97 = .ok (.invokevirtual 120, 3) := by decide +kernel
theorem dX6_areAlike_100 : decode cX6_areAlike 100 = .ok (.if_icmp .ne 45, 3) := by decide +kernel
theorem dX6_areAlike_103 : decode cX6_areAlike 103 = .ok (.aload 4, 2) := by decide +kernel
theorem dX6_areAlike_105 : decode cX6_areAlike 105 = .ok (.iload 6, 2) := by decide +kernel
theorem dX6_areAlike_107 : decode cX6_areAlike 107 = .ok (.iconst 1, 1) := by decide +kernel
theorem dX6_areAlike_108 : decode cX6_areAlike 108 = .ok (.invokevirtual 120, 3) := by decide +kernel
theorem dX6_areAlike_111 : decode cX6_areAlike 111 = .ok (.aload 5, 2) := by decide +kernel
theorem dX6_areAlike_113 : decode cX6_areAlike 113 = .ok (.iload 6, 2) := by decide +kernel
theorem dX6_areAlike_115 : decode cX6_areAlike 115 = .ok (.iconst 1, 1) := by decide +kernel
theorem dX6_areAlike_116 : decode cX6_areAlike 116 = .ok (.invokevirtual 120, 3) := by decide +kernel
theorem dX6_areAlike_119 : decode cX6_areAlike 119 = .ok (.if_icmp .ne 26, 3) := by decide +kernel
theorem dX6_areAlike_122 : decode cX6_areAlike 122 = .ok (.aload 4, 2) := by decide +kernel
theorem dX6_areAlike_124 : decode cX6_areAlike 124 = .ok (.iload 6, 2) := by decide +kernel
theorem dX6_areAlike_126 : decode cX6_areAlike 126 = .ok (.iconst 3, 1) := by decide +kernel
theorem dX6_areAlike_127 : decode cX6_areAlike 127 = .ok (.invokevirtual 120, 3) := by decide +kernel
theorem dX6_areAlike_130 : decode cX6_areAlike 130 = .ok (.aload 5, 2) := by decide +kernel
theorem dX6_areAlike_132 : decode cX6_areAlike 132 = .ok (.iload 6, 2) := by decide +kernel
theorem dX6_areAlike_134 : decode cX6_areAlike 134 = .ok (.iconst 3, 1) := by decide +kernel
theorem dX6_areAlike_135 : decode cX6_areAlike 135 = .ok (.invokevirtual 120, 3) := by decide +kernel
theorem dX6_areAlike_138 : decode cX6_areAlike 138 = .ok (.if_icmp .ne 7, 3) := by decide +kernel
theorem dX6_areAlike_141 : decode cX6_areAlike 141 = .ok (.iconst 1, 1) := by decide +kernel
theorem dX6_areAlike_142 : decode cX6_areAlike 142 = .ok (.goto 4, 3) := by decide +kernel
theorem dX6_areAlike_145 : decode cX6_areAlike 145 = .ok (.iconst 0, 1) := by decide +kernel
theorem dX6_areAlike_146 : decode cX6_areAlike 146 = .ok (.istore 9, 2) := by decide +kernel
theorem dX6_areAlike_148 : decode cX6_areAlike 148 = .ok (.iload 9, 2) := by decide +kernel
theorem dX6_areAlike_150 : decode cX6_areAlike 150 = .ok (.ifCond .ne 5, 3) := by decide +kernel
theorem dX6_areAlike_153 : decode cX6_areAlike 153 = .ok (.iconst 0, 1) := by decide +kernel
theorem dX6_areAlike_154 : decode cX6_areAlike 154 = .ok (.ireturn, 1) := by decide +kernel
theorem dX6_areAlike_155 : decode cX6_areAlike 155 = .ok (.aload 4, 2) := by decide +kernel
theorem dX6_areAlike_157 : decode cX6_areAlike 157 = .ok (.iload 6, 2) := by decide +kernel
theorem dX6_areAlike_159 : decode cX6_areAlike 159 = .ok (.iconst 0, 1) := by decide +kernel
theorem dX6_areAlike_160 : decode cX6_areAlike 160 = .ok (.invokevirtual 120, 3) := by decide +kernel
theorem dX6_areAlike_163 : decode cX6_areAlike 163 = .ok (.iconst 2, 1) := by decide +kernel
theorem dX6_areAlike_164 : decode cX6_areAlike 164 = .ok (.if_icmp .ne 17, 3) := by decide +kernel
theorem dX6_areAlike_167 : decode cX6_areAlike 167 = .ok (.aload_n 0, 1) := by decide +kernel
theorem dX6_areAlike_168 : decode cX6_areAlike 168 = .ok (.iload 7, 2) := by decide +kernel
theorem dX6_areAlike_170 : decode cX6_areAlike 170 = .ok (.iload 8, 2) := by decide +kernel
theorem dX6_areAlike_172 : decode cX6_areAlike 172 = .ok (.iload_n 3, 1) := by decide +kernel
theorem dX6_areAlike_173 : decode cX6_areAlike 173 = .ok (.iconst 1, 1) := by decide +kernel
theorem dX6_areAlike_174 : decode cX6_areAlike 174 = .ok (.iadd, 1) := by decide +kernel
theorem dX6_areAlike_175 : decode cX6_areAlike 175 = .ok (.invokevirtual 191, 3) := by decide +kernel
theorem dX6_areAlike_178 : decode cX6_areAlike 178 = .ok (.goto 15, 3) := by decide +kernel
theorem dX6_areAlike_181 : decode cX6_areAlike 181 = .ok (.iload 7, 2) := by decide +kernel
theorem dX6_areAlike_183 : decode cX6_areAlike 183 = .ok (.iload 8, 2) := by decide +kernel
theorem dX6_areAlike_185 : decode cX6_areAlike 185 = .ok (.if_icmp .ne 7, 3) := by decide +kernel
theorem dX6_areAlike_188 : decode cX6_areAlike 188 = .ok (.iconst 1, 1) := by decide +kernel
theorem dX6_areAlike_189 : decode cX6_areAlike 189 = .ok (.goto 4, 3) := by decide +kernel
theorem dX6_areAlike_192 : decode cX6_areAlike 192 = .ok (.iconst 0, 1) := by decide +kernel
theorem dX6_areAlike_193 : decode cX6_areAlike 193 = .ok (.istore 10, 2) := by decide +kernel
theorem dX6_areAlike_195 : decode cX6_areAlike 195 = .ok (.iload 10, 2) := by decide +kernel
theorem dX6_areAlike_197 : decode cX6_areAlike 197 = .ok (.ifCond .ne 5, 3) := by decide +kernel
theorem dX6_areAlike_200 : decode cX6_areAlike 200 = .ok (.iconst 0, 1) := by decide +kernel
theorem dX6_areAlike_201 : decode cX6_areAlike 201 = .ok (.ireturn, 1) := by decide +kernel
theorem dX6_areAlike_202 : decode cX6_areAlike 202 = .ok (.iinc 6 1, 3) := by decide +kernel
theorem dX6_areAlike_205 : decode cX6_areAlike 205 = .ok (.goto (-151), 3) := by decide +kernel
theorem dX6_areAlike_208 : decode cX6_areAlike 208 = .ok (.iconst 1, 1) := by decide +kernel
theorem dX6_areAlike_209 : decode cX6_areAlike 209 = .ok (.ireturn, 1) := by decide +kernel
theorem dX6_remade_0 : decode cX6_remade 0 = .ok (.aload_n 0, 1) := by decide +kernel
theorem dX6_remade_1 : decode cX6_remade 1 = .ok (.aload_n 0, 1) := by decide +kernel
theorem dX6_remade_2 : decode cX6_remade 2 = .ok (.getfield 23, 3) := by decide +kernel
theorem dX6_remade_5 : decode cX6_remade 5 = .ok (.iload_n 1, 1) := by decide +kernel
theorem dX6_remade_6 : decode cX6_remade 6 = .ok (.iload_n 2, 1) := by decide +kernel
theorem dX6_remade_7 : decode cX6_remade 7 = .ok (.iconst 0, 1) := by decide +kernel
theorem dX6_remade_8 : decode cX6_remade 8 = .ok (.invokevirtual 183, 3) := by decide +kernel
theorem dX6_remade_11 : decode cX6_remade 11 = .ok (.ifCond .eq 13, 3) := by decide +kernel
theorem dX6_remade_14 : decode cX6_remade 14 = .ok (.new 67, 3) := by decide +kernel
theorem dX6_remade_17 : decode cX6_remade 17 = .ok (.dup, 1) := by decide +kernel
theorem dX6_remade_18 : decode cX6_remade 18 = .ok (.ldc 209, 2) := by decide +kernel
theorem dX6_remade_20 : decode cX6_remade 20 = .ok (.invokespecial 71, 3) := by decide +kernel
theorem dX6_remade_23 : decode cX6_remade 23 = .ok (.athrow, 1) := by decide +kernel
theorem dX6_remade_24 : decode cX6_remade 24 = .ok (.aload_n 0, 1) := by decide +kernel
theorem dX6_remade_25 : decode cX6_remade 25 = .ok (.getfield 12, 3) := by decide +kernel
theorem dX6_remade_28 : decode cX6_remade 28 = .ok (.getfield 211, 3) := by decide +kernel
theorem dX6_remade_31 : decode cX6_remade 31 = .ok (.istore 4, 2) := by decide +kernel
theorem dX6_remade_33 : decode cX6_remade 33 = .ok (.aload_n 0, 1) := by decide +kernel
theorem dX6_remade_34 : decode cX6_remade 34 = .ok (.iload_n 1, 1) := by decide +kernel
theorem dX6_remade_35 : decode cX6_remade 35 = .ok (.iload_n 2, 1) := by decide +kernel
theorem dX6_remade_36 : decode cX6_remade 36 = .ok (.aload_n 0, 1) := by decide +kernel
theorem dX6_remade_37 : decode cX6_remade 37 = .ok (.getfield 23, 3) := by decide +kernel
theorem dX6_remade_40 : decode cX6_remade 40 = .ok (.getfield 169, 3) := by decide +kernel
theorem dX6_remade_43 : decode cX6_remade 43 = .ok (.iload_n 3, 1) := by decide +kernel
theorem dX6_remade_44 : decode cX6_remade 44 = .ok (.iconst 0, 1) := by decide +kernel
theorem dX6_remade_45 : decode cX6_remade 45 = .ok (.invokevirtual 212, 3) := by decide +kernel
theorem dX6_remade_48 : decode cX6_remade 48 = .ok (.istore 5, 2) := by decide +kernel
theorem dX6_remade_50 : decode cX6_remade 50 = .ok (.iload 5, 2) := by decide +kernel
theorem dX6_remade_52 : decode cX6_remade 52 = .ok (.iconst (-1), 1) := by decide +kernel
theorem dX6_remade_53 : decode cX6_remade 53 = .ok (.if_icmp .ne 22, 3) := by decide +kernel
theorem dX6_remade_56 : decode cX6_remade 56 = .ok (.aload_n 0, 1) := by decide +kernel
theorem dX6_remade_57 : decode cX6_remade 57 = .ok (.getfield 12, 3) := by decide +kernel
theorem dX6_remade_60 : decode cX6_remade 60 = .ok (.iload 4, 2) := by decide +kernel
theorem dX6_remade_62 : decode cX6_remade 62 = .ok (.putfield 211, 3) := by decide +kernel
theorem dX6_remade_65 : decode cX6_remade 65 = .ok (.new 67, 3) := by decide +kernel
theorem dX6_remade_68 : decode cX6_remade 68 = .ok (.dup, 1) := by decide +kernel
theorem dX6_remade_69 : decode cX6_remade 69 = .ok (.ldc 216, 2) := by decide +kernel
theorem dX6_remade_71 : decode cX6_remade 71 = .ok (.invokespecial 71, 3) := by decide +kernel
theorem dX6_remade_74 : decode cX6_remade 74 = .ok (.athrow, 1) := by decide +kernel
theorem dX6_remade_75 : decode cX6_remade 75 = .ok (.aload_n 0, 1) := by decide +kernel
theorem dX6_remade_76 : decode cX6_remade 76 = .ok (.getfield 23, 3) := by decide +kernel
theorem dX6_remade_79 : decode cX6_remade 79 = .ok (.iload 5, 2) := by decide +kernel
theorem dX6_remade_81 : decode cX6_remade 81 = .ok (.iconst 1, 1) := by decide +kernel
theorem dX6_remade_82 : decode cX6_remade 82 = .ok (.iadd, 1) := by decide +kernel
theorem dX6_remade_83 : decode cX6_remade 83 = .ok (.putfield 169, 3) := by decide +kernel
theorem dX6_remade_86 : decode cX6_remade 86 = .ok (.iload 5, 2) := by decide +kernel
theorem dX6_remade_88 : decode cX6_remade 88 = .ok (.ireturn, 1) := by decide +kernel
theorem dX6_remake_0 : decode cX6_remake 0 = .ok (.aload_n 0, 1) := by decide +kernel
theorem dX6_remake_1 : decode cX6_remake 1 = .ok (.getfield 23, 3) := by decide +kernel
theorem dX6_remake_4 : decode cX6_remake 4 = .ok (.iload_n 1, 1) := by decide +kernel
theorem dX6_remake_5 : decode cX6_remake 5 = .ok (.invokevirtual 103, 3) := by decide +kernel
theorem dX6_remake_8 : decode cX6_remake 8 = .ok (.astore 6, 2) := by decide +kernel
theorem dX6_remake_10 : decode cX6_remake 10 = .ok (.aload_n 0, 1) := by decide +kernel
theorem dX6_remake_11 : decode cX6_remake 11 = .ok (.getfield 27, 3) := by decide +kernel
theorem dX6_remake_14 : decode cX6_remake 14 = .ok (.iload_n 2, 1) := by decide +kernel
theorem dX6_remake_15 : decode cX6_remake 15 = .ok (.invokevirtual 103, 3) := by decide +kernel
theorem dX6_remake_18 : decode cX6_remake 18 = .ok (.astore 7, 2) := by decide +kernel
theorem dX6_remake_20 : decode cX6_remake 20 = .ok (.aload 6, 2) := by decide +kernel
theorem dX6_remake_22 : decode cX6_remake 22 = .ok (.ifnull 15, 3) := by decide +kernel
theorem dX6_remake_25 : decode cX6_remake 25 = .ok (.aload 7, 2) := by decide +kernel
theorem dX6_remake_27 : decode cX6_remake 27 = .ok (.ifnull 10, 3) := by decide +kernel
theorem dX6_remake_30 : decode cX6_remake 30 = .ok (.iload 5, 2) := by decide +kernel
theorem dX6_remake_32 : decode cX6_remake 32 = .ok (.bipush 20, 2) := by decide +kernel
theorem dX6_remake_34 : decode cX6_remake 34 = .ok (.if_icmp .le 5, 3) := by decide +kernel
theorem dX6_remake_37 : decode cX6_remake 37 = .ok (.iconst (-1), 1) := by decide +kernel
theorem dX6_remake_38 : decode cX6_remake 38 = .ok (.ireturn, 1) := by decide +kernel
theorem dX6_remake_39 : decode cX6_remake 39 = .ok (.iload_n 3, 1) := by decide +kernel
theorem dX6_remake_40 : decode cX6_remake 40 = .ok (.aload 7, 2) := by decide +kernel
theorem dX6_remake_42 : decode cX6_remake 42 = .ok (.getfield 159, 3) := by decide +kernel
theorem dX6_remake_45 : decode cX6_remake 45 = .ok (.iadd, 1) := by decide +kernel
theorem dX6_remake_46 : decode cX6_remake 46 = .ok (.istore 8, 2) := by decide +kernel
theorem dX6_remake_48 : decode cX6_remake 48 = .ok (.aload_n 0, 1) := by decide +kernel
theorem dX6_remake_49 : decode cX6_remake 49 = .ok (.getfield 23, 3) := by decide +kernel
theorem dX6_remake_52 : decode cX6_remake 52 = .ok (.iload 8, 2) := by decide +kernel
theorem dX6_remake_54 : decode cX6_remake 54 = .ok (.invokevirtual 170, 3) := by decide +kernel
theorem dX6_remake_57 : decode cX6_remake 57 = .ok (.astore 9, 2) := by decide +kernel
theorem dX6_remake_59 : decode cX6_remake 59 = .ok (.aload 9, 2) := by decide +kernel
theorem dX6_remake_61 : decode cX6_remake 61 = .ok (.ifnonnull 5, 3) := by decide +kernel
theorem dX6_remake_64 : decode cX6_remake 64 = .ok (.iconst (-1), 1) := by decide +kernel
theorem dX6_remake_65 : decode cX6_remake 65 = .ok (.ireturn, 1) := by decide +kernel
theorem dX6_remake_66 : decode cX6_remake 66 = .ok (.iload_n 3, 1) := by decide +kernel
theorem dX6_remake_67 : decode cX6_remake 67 = .ok (.istore 10, 2) := by decide +kernel
theorem dX6_remake_69 : decode cX6_remake 69 = .ok (.iconst 0, 1) := by decide +kernel
theorem dX6_remake_70 : decode cX6_remake 70 = .ok (.istore 11, 2) := by decide +kernel
theorem dX6_remake_72 : decode cX6_remake 72 = .ok (.iload 11, 2) := by decide +kernel
theorem dX6_remake_74 : decode cX6_remake 74 = .ok (.aload 7, 2) := by decide +kernel
theorem dX6_remake_76 : decode cX6_remake 76 = .ok (.getfield 116, 3) := by decide +kernel
theorem dX6_remake_79 : decode cX6_remake 79 = .ok (.if_icmp .ge 179, 3) := by decide +kernel
theorem dX6_remake_82 : decode cX6_remake 82 = .ok (.aload 7, 2) := by decide +kernel
theorem dX6_remake_84 : decode cX6_remake 84 = .ok (.iload 11, 2) := by decide +kernel
theorem dX6_remake_86 : decode cX6_remake 86 = .ok (.iconst 0, 1) := by decide +kernel
theorem dX6_remake_87 : decode cX6_remake 87 = .ok (.invokevirtual 120, 3) := by decide +kernel
theorem dX6_remake_90 : decode cX6_remake 90 = .ok (.istore 12, 2) := by decide +kernel
theorem dX6_remake_92 : decode cX6_remake 92 = .ok (.aload 7, 2) := by decide +kernel
theorem dX6_remake_94 : decode cX6_remake 94 = .ok (.iload 11, 2) := by decide +kernel
theorem dX6_remake_96 : decode cX6_remake 96 = .ok (.iconst 1, 1) := by decide +kernel
theorem dX6_remake_97 : decode cX6_remake 97 = .ok (.invokevirtual 120, 3) := by decide +kernel
theorem dX6_remake_100 : decode cX6_remake 100 = .ok (.istore 13, 2) := by decide +kernel
theorem dX6_remake_102 : decode cX6_remake 102 = .ok (.aload 6, 2) := by decide +kernel
theorem dX6_remake_104 : decode cX6_remake 104 = .ok (.iload 12, 2) := by decide +kernel
theorem dX6_remake_106 : decode cX6_remake 106 = .ok (.iload 13, 2) := by decide +kernel
theorem dX6_remake_108 : decode cX6_remake 108 = .ok (.invokevirtual 131, 3) := by decide +kernel
theorem dX6_remake_111 : decode cX6_remake 111 = .ok (.istore 14, 2) := by decide +kernel
theorem dX6_remake_113 : decode cX6_remake 113 = .ok (.iload 12, 2) := by decide +kernel
theorem dX6_remake_115 : decode cX6_remake 115 = .ok (.iconst 2, 1) := by decide +kernel
theorem dX6_remake_116 : decode cX6_remake 116 = .ok (.if_icmp .ne 42, 3) := by decide +kernel
theorem dX6_remake_119 : decode cX6_remake 119 = .ok (.aload_n 0, 1) := by decide +kernel
theorem dX6_remake_120 : decode cX6_remake 120 = .ok (.aload 6, 2) := by decide +kernel
theorem dX6_remake_122 : decode cX6_remake 122 = .ok (.iload 14, 2) := by decide +kernel
theorem dX6_remake_124 : decode cX6_remake 124 = .ok (.iconst 2, 1) := by decide +kernel
theorem dX6_remake_125 : decode cX6_remake 125 = .ok (.invokevirtual 120, 3) := by decide +kernel
theorem dX6_remake_128 : decode cX6_remake 128 = .ok (.aload 7, 2) := by decide +kernel
theorem dX6_remake_130 : decode cX6_remake 130 = .ok (.iload 11, 2) := by decide +kernel
theorem dX6_remake_132 : decode cX6_remake 132 = .ok (.iconst 2, 1) := by decide +kernel
theorem dX6_remake_133 : decode cX6_remake 133 = .ok (.invokevirtual 120, 3) := by decide +kernel
theorem dX6_remake_136 : decode cX6_remake 136 = .ok (.iload 10, 2) := by decide +kernel
theorem dX6_remake_138 : decode cX6_remake 138 = .ok (.iload 4, 2) := by decide +kernel
theorem dX6_remake_140 : decode cX6_remake 140 = .ok (.iload 5, 2) := by decide +kernel
theorem dX6_remake_142 : decode cX6_remake 142 = .ok (.iconst 1, 1) := by decide +kernel
theorem dX6_remake_143 : decode cX6_remake 143 = .ok (.iadd, 1) := by decide +kernel
theorem dX6_remake_144 : decode cX6_remake 144 = .ok (.invokevirtual 212, 3) := by decide +kernel
theorem dX6_remake_147 : decode cX6_remake 147 = .ok (.istore 15, 2) := by decide +kernel
theorem dX6_remake_149 : decode cX6_remake 149 = .ok (.iload 15, 2) := by decide +kernel
theorem dX6_remake_151 : decode cX6_remake 151 = .ok (.iconst 1, 1) := by decide +kernel
theorem dX6_remake_152 : decode cX6_remake 152 = .ok (.iadd, 1) := by decide +kernel
theorem dX6_remake_153 : decode cX6_remake 153 = .ok (.istore 10, 2) := by decide +kernel
theorem dX6_remake_155 : decode cX6_remake 155 = .ok (.goto 68, 3) := by decide +kernel
theorem dX6_remake_158 : decode cX6_remake 158 = .ok (.aload 7, 2) := by decide +kernel
theorem dX6_remake_160 : decode cX6_remake 160 = .ok (.iload 11, 2) := by decide +kernel
theorem dX6_remake_162 : decode cX6_remake 162 = .ok (.iconst 2, 1) := by decide +kernel
theorem dX6_remake_163 : decode cX6_remake 163 = .ok (.invokevirtual 120, 3) := by decide +kernel
theorem dX6_remake_166 : decode cX6_remake 166 = .ok (.bipush (-100), 2) := by decide +kernel
theorem dX6_remake_168 : decode cX6_remake 168 = .ok (.if_icmp .ne 31, 3) := by decide +kernel
theorem dX6_remake_171 : decode cX6_remake 171 = .ok (.iload 4, 2) := by decide +kernel
theorem dX6_remake_173 : decode cX6_remake 173 = .ok (.ifCond .eq 13, 3) := by decide +kernel
theorem dX6_remake_176 : decode cX6_remake 176 = .ok (.aload_n 0, 1) := by decide +kernel
theorem dX6_remake_177 : decode cX6_remake 177 = .ok (.getfield 12, 3) := by decide +kernel
theorem dX6_remake_180 : decode cX6_remake 180 = .ok (.invokevirtual 92, 3) := by decide +kernel
theorem dX6_remake_183 : decode cX6_remake 183 = .ok (.goto 11, 3) := by decide +kernel
theorem dX6_remake_186 : decode cX6_remake 186 = .ok (.aload 6, 2) := by decide +kernel
theorem dX6_remake_188 : decode cX6_remake 188 = .ok (.iload 14, 2) := by decide +kernel
theorem dX6_remake_190 : decode cX6_remake 190 = .ok (.iconst 2, 1) := by decide +kernel
theorem dX6_remake_191 : decode cX6_remake 191 = .ok (.invokevirtual 120, 3) := by decide +kernel
theorem dX6_remake_194 : decode cX6_remake 194 = .ok (.istore 15, 2) := by decide +kernel
theorem dX6_remake_196 : decode cX6_remake 196 = .ok (.goto 27, 3) := by decide +kernel
theorem dX6_remake_199 : decode cX6_remake 199 = .ok (.aload_n 0, 1) := by decide +kernel
theorem dX6_remake_200 : decode cX6_remake 200 = .ok (.aload 9, 2) := by decide +kernel
theorem dX6_remake_202 : decode cX6_remake 202 = .ok (.aload 7, 2) := by decide +kernel
theorem dX6_remake_204 : decode cX6_remake 204 = .ok (.iload 11, 2) := by decide +kernel
theorem dX6_remake_206 : decode cX6_remake 206 = .ok (.iconst 2, 1) := by decide +kernel
theorem dX6_remake_207 : decode cX6_remake 207 = .ok (.invokevirtual 120, 3) := by decide +kernel
theorem dX6_remake_210 : decode cX6_remake 210 = .ok (.aload 7, 2) := by decide +kernel
theorem dX6_remake_212 : decode cX6_remake 212 = .ok (.iload 11, 2) := by decide +kernel
theorem dX6_remake_214 : decode cX6_remake 214 = .ok (.iconst 3, 1) := by decide +kernel
theorem dX6_remake_215 : decode cX6_remake 215 = .ok (.invokevirtual 120, 3) := by decide +kernel
theorem dX6_remake_218 : decode cX6_remake 218 = .ok (.invokevirtual 218, 3) := by decide +kernel
theorem dX6_remake_221 : decode cX6_remake 221 = .ok (.istore 15, 2) := by decide +kernel
theorem dX6_remake_223 : decode cX6_remake 223 = .ok (.iload 15, 2) := by decide +kernel
theorem dX6_remake_225 : decode cX6_remake 225 = .ok (.ifCond .ge 5, 3) := by decide +kernel
theorem dX6_remake_228 : decode cX6_remake 228 = .ok (.iconst (-1), 1) := by decide +kernel
theorem dX6_remake_229 : decode cX6_remake 229 = .ok (.ireturn, 1) := by decide +kernel
theorem dX6_remake_230 : decode cX6_remake 230 = .ok (.aload 9, 2) := by decide +kernel
theorem dX6_remake_232 : decode cX6_remake 232 = .ok (.iload 12, 2) := by decide +kernel
theorem dX6_remake_234 : decode cX6_remake 234 = .ok (.iload 13, 2) := by decide +kernel
theorem dX6_remake_236 : decode cX6_remake 236 = .ok (.iload 15, 2) := by decide +kernel
theorem dX6_remake_238 : decode cX6_remake 238 = .ok (.bipush (-100), 2) := by decide +kernel
theorem dX6_remake_240 : decode cX6_remake 240 = .ok (.aload 6, 2) := by decide +kernel
theorem dX6_remake_242 : decode cX6_remake 242 = .ok (.iload 14, 2) := by decide +kernel
theorem dX6_remake_244 : decode cX6_remake 244 = .ok (.iconst 4, 1) := by decide +kernel
theorem dX6_remake_245 : decode cX6_remake 245 = .ok (.invokevirtual 120, 3) := by decide +kernel
theorem dX6_remake_248 : decode cX6_remake 248 = .ok (.iconst (-1), 1) := by decide +kernel
theorem dX6_remake_249 : decode cX6_remake 249 = .ok (.invokevirtual 139, 3) := by decide +kernel
theorem dX6_remake_252 : decode cX6_remake 252 = .ok (.iinc 11 1, 3) := by decide +kernel
theorem dX6_remake_255 : decode cX6_remake 255 = .ok (.goto (-183), 3) := by decide +kernel
theorem dX6_remake_258 : decode cX6_remake 258 = .ok (.iload 8, 2) := by decide +kernel
theorem dX6_remake_260 : decode cX6_remake 260 = .ok (.ireturn, 1) := by decide +kernel
theorem dX6_typeTold_0 : decode cX6_typeTold 0 = .ok (.iload_n 3, 1) := by decide +kernel
theorem dX6_typeTold_1 : decode cX6_typeTold 1 = .ok (.bipush (-100), 2) := by decide +kernel
theorem dX6_typeTold_3 : decode cX6_typeTold 3 = .ok (.if_icmp .ne 11, 3) := by decide +kernel
theorem dX6_typeTold_6 : decode cX6_typeTold 6 = .ok (.aload_n 1, 1) := by decide +kernel
theorem dX6_typeTold_7 : decode cX6_typeTold 7 = .ok (.iload_n 2, 1) := by decide +kernel
theorem dX6_typeTold_8 : decode cX6_typeTold 8 = .ok (.invokevirtual 199, 3) := by decide +kernel
theorem dX6_typeTold_11 : decode cX6_typeTold 11 = .ok (.goto 20, 3) := by decide +kernel
theorem dX6_typeTold_14 : decode cX6_typeTold 14 = .ok (.aload_n 0, 1) := by decide +kernel
theorem dX6_typeTold_15 : decode cX6_typeTold 15 = .ok (.getfield 12, 3) := by decide +kernel
theorem dX6_typeTold_18 : decode cX6_typeTold 18 = .ok (.aload_n 1, 1) := by decide +kernel
theorem dX6_typeTold_19 : decode cX6_typeTold 19 = .ok (.iload_n 2, 1) := by decide +kernel
theorem dX6_typeTold_20 : decode cX6_typeTold 20 = .ok (.invokevirtual 199, 3) := by decide +kernel
theorem dX6_typeTold_23 : decode cX6_typeTold 23 = .ok (.aload_n 1, 1) := by decide +kernel
theorem dX6_typeTold_24 : decode cX6_typeTold 24 = .ok (.iload_n 3, 1) := by decide +kernel
theorem dX6_typeTold_25 : decode cX6_typeTold 25 = .ok (.invokevirtual 199, 3) := by decide +kernel
theorem dX6_typeTold_28 : decode cX6_typeTold 28 = .ok (.invokevirtual 63, 3) := by decide +kernel
theorem dX6_typeTold_31 : decode cX6_typeTold 31 = .ok (.ireturn, 1) := by decide +kernel
theorem dX6_bodyType_0 : decode cX6_bodyType 0 = .ok (.iload_n 1, 1) := by decide +kernel
theorem dX6_bodyType_1 : decode cX6_bodyType 1 = .ok (.invokestatic 89, 3) := by decide +kernel
theorem dX6_bodyType_4 : decode cX6_bodyType 4 = .ok (.iload_n 2, 1) := by decide +kernel
theorem dX6_bodyType_5 : decode cX6_bodyType 5 = .ok (.iconst (-1), 1) := by decide +kernel
theorem dX6_bodyType_6 : decode cX6_bodyType 6 = .ok (.if_icmp .eq 7, 3) := by decide +kernel
theorem dX6_bodyType_9 : decode cX6_bodyType 9 = .ok (.iload_n 2, 1) := by decide +kernel
theorem dX6_bodyType_10 : decode cX6_bodyType 10 = .ok (.invokestatic 89, 3) := by decide +kernel
theorem dX6_bodyType_13 : decode cX6_bodyType 13 = .ok (.aload_n 0, 1) := by decide +kernel
theorem dX6_bodyType_14 : decode cX6_bodyType 14 = .ok (.getfield 38, 3) := by decide +kernel
theorem dX6_bodyType_17 : decode cX6_bodyType 17 = .ok (.iconst 0, 1) := by decide +kernel
theorem dX6_bodyType_18 : decode cX6_bodyType 18 = .ok (.iload_n 1, 1) := by decide +kernel
theorem dX6_bodyType_19 : decode cX6_bodyType 19 = .ok (.invokestatic 147, 3) := by decide +kernel
theorem dX6_bodyType_22 : decode cX6_bodyType 22 = .ok (.aload_n 0, 1) := by decide +kernel
theorem dX6_bodyType_23 : decode cX6_bodyType 23 = .ok (.getfield 38, 3) := by decide +kernel
theorem dX6_bodyType_26 : decode cX6_bodyType 26 = .ok (.iconst 0, 1) := by decide +kernel
theorem dX6_bodyType_27 : decode cX6_bodyType 27 = .ok (.iload_n 1, 1) := by decide +kernel
theorem dX6_bodyType_28 : decode cX6_bodyType 28 = .ok (.bipush (-100), 2) := by decide +kernel
theorem dX6_bodyType_30 : decode cX6_bodyType 30 = .ok (.bipush (-100), 2) := by decide +kernel
theorem dX6_bodyType_32 : decode cX6_bodyType 32 = .ok (.iconst 0, 1) := by decide +kernel
theorem dX6_bodyType_33 : decode cX6_bodyType 33 = .ok (.iload_n 2, 1) := by decide +kernel
theorem dX6_bodyType_34 : decode cX6_bodyType 34 = .ok (.invokevirtual 139, 3) := by decide +kernel
theorem dX6_bodyType_37 : decode cX6_bodyType 37 = .ok (.aload_n 0, 1) := by decide +kernel
theorem dX6_bodyType_38 : decode cX6_bodyType 38 = .ok (.getfield 38, 3) := by decide +kernel
theorem dX6_bodyType_41 : decode cX6_bodyType 41 = .ok (.getfield 116, 3) := by decide +kernel
theorem dX6_bodyType_44 : decode cX6_bodyType 44 = .ok (.ireturn, 1) := by decide +kernel
theorem dX6_bodyValue_0 : decode cX6_bodyValue 0 = .ok (.aload_n 0, 1) := by decide +kernel
theorem dX6_bodyValue_1 : decode cX6_bodyValue 1 = .ok (.aload_n 0, 1) := by decide +kernel
theorem dX6_bodyValue_2 : decode cX6_bodyValue 2 = .ok (.getfield 38, 3) := by decide +kernel
theorem dX6_bodyValue_5 : decode cX6_bodyValue 5 = .ok (.iload_n 2, 1) := by decide +kernel
theorem dX6_bodyValue_6 : decode cX6_bodyValue 6 = .ok (.invokevirtual 143, 3) := by decide +kernel
theorem dX6_bodyValue_9 : decode cX6_bodyValue 9 = .ok (.iload_n 3, 1) := by decide +kernel
theorem dX6_bodyValue_10 : decode cX6_bodyValue 10 = .ok (.bipush (-100), 2) := by decide +kernel
theorem dX6_bodyValue_12 : decode cX6_bodyValue 12 = .ok (.if_icmp .eq 12, 3) := by decide +kernel
theorem dX6_bodyValue_15 : decode cX6_bodyValue 15 = .ok (.aload_n 0, 1) := by decide +kernel
theorem dX6_bodyValue_16 : decode cX6_bodyValue 16 = .ok (.aload_n 0, 1) := by decide +kernel
theorem dX6_bodyValue_17 : decode cX6_bodyValue 17 = .ok (.getfield 38, 3) := by decide +kernel
theorem dX6_bodyValue_20 : decode cX6_bodyValue 20 = .ok (.iload_n 3, 1) := by decide +kernel
theorem dX6_bodyValue_21 : decode cX6_bodyValue 21 = .ok (.invokevirtual 143, 3) := by decide +kernel
theorem dX6_bodyValue_24 : decode cX6_bodyValue 24 = .ok (.iload_n 1, 1) := by decide +kernel
theorem dX6_bodyValue_25 : decode cX6_bodyValue 25 = .ok (.invokestatic 89, 3) := by decide +kernel
theorem dX6_bodyValue_28 : decode cX6_bodyValue 28 = .ok (.iload 4, 2) := by decide +kernel
theorem dX6_bodyValue_30 : decode cX6_bodyValue 30 = .ok (.iconst (-1), 1) := by decide +kernel
theorem dX6_bodyValue_31 : decode cX6_bodyValue 31 = .ok (.if_icmp .eq 8, 3) := by decide +kernel
theorem dX6_bodyValue_34 : decode cX6_bodyValue 34 = .ok (.iload 4, 2) := by decide +kernel
theorem dX6_bodyValue_36 : decode cX6_bodyValue 36 = .ok (.invokestatic 89, 3) := by decide +kernel
theorem dX6_bodyValue_39 : decode cX6_bodyValue 39 = .ok (.iload 5, 2) := by decide +kernel
theorem dX6_bodyValue_41 : decode cX6_bodyValue 41 = .ok (.invokestatic 100, 3) := by decide +kernel
theorem dX6_bodyValue_44 : decode cX6_bodyValue 44 = .ok (.aload_n 0, 1) := by decide +kernel
theorem dX6_bodyValue_45 : decode cX6_bodyValue 45 = .ok (.getfield 38, 3) := by decide +kernel
theorem dX6_bodyValue_48 : decode cX6_bodyValue 48 = .ok (.iconst 1, 1) := by decide +kernel
theorem dX6_bodyValue_49 : decode cX6_bodyValue 49 = .ok (.iload_n 1, 1) := by decide +kernel
theorem dX6_bodyValue_50 : decode cX6_bodyValue 50 = .ok (.invokestatic 147, 3) := by decide +kernel
theorem dX6_bodyValue_53 : decode cX6_bodyValue 53 = .ok (.aload_n 0, 1) := by decide +kernel
theorem dX6_bodyValue_54 : decode cX6_bodyValue 54 = .ok (.getfield 38, 3) := by decide +kernel
theorem dX6_bodyValue_57 : decode cX6_bodyValue 57 = .ok (.iconst 1, 1) := by decide +kernel
theorem dX6_bodyValue_58 : decode cX6_bodyValue 58 = .ok (.iload_n 1, 1) := by decide +kernel
theorem dX6_bodyValue_59 : decode cX6_bodyValue 59 = .ok (.iload_n 2, 1) := by decide +kernel
theorem dX6_bodyValue_60 : decode cX6_bodyValue 60 = .ok (.iload_n 3, 1) := by decide +kernel
theorem dX6_bodyValue_61 : decode cX6_bodyValue 61 = .ok (.iload 5, 2) := by decide +kernel
theorem dX6_bodyValue_63 : decode cX6_bodyValue 63 = .ok (.iload 4, 2) := by decide +kernel
theorem dX6_bodyValue_65 : decode cX6_bodyValue 65 = .ok (.invokevirtual 139, 3) := by decide +kernel
theorem dX6_bodyValue_68 : decode cX6_bodyValue 68 = .ok (.aload_n 0, 1) := by decide +kernel
theorem dX6_bodyValue_69 : decode cX6_bodyValue 69 = .ok (.getfield 38, 3) := by decide +kernel
theorem dX6_bodyValue_72 : decode cX6_bodyValue 72 = .ok (.getfield 116, 3) := by decide +kernel
theorem dX6_bodyValue_75 : decode cX6_bodyValue 75 = .ok (.ireturn, 1) := by decide +kernel
theorem dX6_functor_0 : decode cX6_functor 0 = .ok (.aload_n 0, 1) := by decide +kernel
theorem dX6_functor_1 : decode cX6_functor 1 = .ok (.getfield 27, 3) := by decide +kernel
theorem dX6_functor_4 : decode cX6_functor 4 = .ok (.iload_n 1, 1) := by decide +kernel
theorem dX6_functor_5 : decode cX6_functor 5 = .ok (.invokevirtual 103, 3) := by decide +kernel
theorem dX6_functor_8 : decode cX6_functor 8 = .ok (.astore 4, 2) := by decide +kernel
theorem dX6_functor_10 : decode cX6_functor 10 = .ok (.aload 4, 2) := by decide +kernel
theorem dX6_functor_12 : decode cX6_functor 12 = .ok (.ifnull 19, 3) := by decide +kernel
theorem dX6_functor_15 : decode cX6_functor 15 = .ok (.iload_n 2, 1) := by decide +kernel
theorem dX6_functor_16 : decode cX6_functor 16 = .ok (.iconst (-1), 1) := by decide +kernel
theorem dX6_functor_17 : decode cX6_functor 17 = .ok (.if_icmp .eq 24, 3) := by decide +kernel
theorem dX6_functor_20 : decode cX6_functor 20 = .ok (.aload_n 0, 1) := by decide +kernel
theorem dX6_functor_21 : decode cX6_functor 21 = .ok (.getfield 27, 3) := by decide +kernel
theorem dX6_functor_24 : decode cX6_functor 24 = .ok (.iload_n 2, 1) := by decide +kernel
theorem dX6_functor_25 : decode cX6_functor 25 = .ok (.invokevirtual 103, 3) := by decide +kernel
theorem dX6_functor_28 : decode cX6_functor 28 = .ok (.ifnonnull 13, 3) := by decide +kernel
theorem dX6_functor_31 : decode cX6_functor 31 = .ok (.new 111, 3) := by decide +kernel
theorem dX6_functor_34 : decode cX6_functor 34 = .ok (.dup, 1) := by decide +kernel
theorem dX6_functor_35 : decode cX6_functor 35 = .ok (.ldc 157, 2) := by decide +kernel
theorem dX6_functor_37 : decode cX6_functor 37 = .ok (.invokespecial 115, 3) := by decide +kernel
theorem dX6_functor_40 : decode cX6_functor 40 = .ok (.athrow, 1) := by decide +kernel
theorem dX6_functor_41 : decode cX6_functor 41 = .ok (.aload_n 0, 1) := by decide +kernel
theorem dX6_functor_42 : decode cX6_functor 42 = .ok (.getfield 222, 3) := by decide +kernel
theorem dX6_functor_45 : decode cX6_functor 45 = .ok (.istore 5, 2) := by decide +kernel
theorem dX6_functor_47 : decode cX6_functor 47 = .ok (.iload 5, 2) := by decide +kernel
theorem dX6_functor_49 : decode cX6_functor 49 = .ok (.ifCond .lt 13, 3) := by decide +kernel
theorem dX6_functor_52 : decode cX6_functor 52 = .ok (.iload 5, 2) := by decide +kernel
theorem dX6_functor_54 : decode cX6_functor 54 = .ok (.aload_n 0, 1) := by decide +kernel
theorem dX6_functor_55 : decode cX6_functor 55 = .ok (.getfield 43, 3) := by decide +kernel
theorem dX6_functor_58 : decode cX6_functor 58 = .ok (.arraylength, 1) := by decide +kernel
theorem dX6_functor_59 : decode cX6_functor 59 = .ok (.if_icmp .lt 13, 3) := by decide +kernel
theorem dX6_functor_62 : decode cX6_functor 62 = .ok (.new 67, 3) := by decide +kernel
theorem dX6_functor_65 : decode cX6_functor 65 = .ok (.dup, 1) := by decide +kernel
theorem dX6_functor_66 : decode cX6_functor 66 = .ok (.ldc 225, 2) := by decide +kernel
theorem dX6_functor_68 : decode cX6_functor 68 = .ok (.invokespecial 71, 3) := by decide +kernel
theorem dX6_functor_71 : decode cX6_functor 71 = .ok (.athrow, 1) := by decide +kernel
theorem dX6_functor_72 : decode cX6_functor 72 = .ok (.iconst 0, 1) := by decide +kernel
theorem dX6_functor_73 : decode cX6_functor 73 = .ok (.istore 6, 2) := by decide +kernel
theorem dX6_functor_75 : decode cX6_functor 75 = .ok (.iload 6, 2) := by decide +kernel
theorem dX6_functor_77 : decode cX6_functor 77 = .ok (.aload_n 0, 1) := by decide +kernel
theorem dX6_functor_78 : decode cX6_functor 78 = .ok (.getfield 38, 3) := by decide +kernel
theorem dX6_functor_81 : decode cX6_functor 81 = .ok (.getfield 116, 3) := by decide +kernel
theorem dX6_functor_84 : decode cX6_functor 84 = .ok (.if_icmp .ge 58, 3) := by decide +kernel
theorem dX6_functor_87 : decode cX6_functor 87 = .ok (.aload_n 0, 1) := by decide +kernel
theorem dX6_functor_88 : decode cX6_functor 88 = .ok (.getfield 38, 3) := by decide +kernel
theorem dX6_functor_91 : decode cX6_functor 91 = .ok (.iload 6, 2) := by decide +kernel
theorem dX6_functor_93 : decode cX6_functor 93 = .ok (.iconst 5, 1) := by decide +kernel
theorem dX6_functor_94 : decode cX6_functor 94 = .ok (.invokevirtual 120, 3) := by decide +kernel
theorem dX6_functor_97 : decode cX6_functor 97 = .ok (.istore 7, 2) := by decide +kernel
theorem dX6_functor_99 : decode cX6_functor 99 = .ok (.iload 7, 2) := by decide +kernel
theorem dX6_functor_101 : decode cX6_functor 101 = .ok (.iconst (-1), 1) := by decide +kernel
theorem dX6_functor_102 : decode cX6_functor 102 = .ok (.if_icmp .eq 34, 3) := by decide +kernel
theorem dX6_functor_105 : decode cX6_functor 105 = .ok (.aload 4, 2) := by decide +kernel
theorem dX6_functor_107 : decode cX6_functor 107 = .ok (.aload_n 0, 1) := by decide +kernel
theorem dX6_functor_108 : decode cX6_functor 108 = .ok (.getfield 38, 3) := by decide +kernel
theorem dX6_functor_111 : decode cX6_functor 111 = .ok (.iload 6, 2) := by decide +kernel
theorem dX6_functor_113 : decode cX6_functor 113 = .ok (.iconst 0, 1) := by decide +kernel
theorem dX6_functor_114 : decode cX6_functor 114 = .ok (.invokevirtual 120, 3) := by decide +kernel
theorem dX6_functor_117 : decode cX6_functor 117 = .ok (.iload 7, 2) := by decide +kernel
theorem dX6_functor_119 : decode cX6_functor 119 = .ok (.invokevirtual 131, 3) := by decide +kernel
theorem dX6_functor_122 : decode cX6_functor 122 = .ok (.iconst (-1), 1) := by decide +kernel
theorem dX6_functor_123 : decode cX6_functor 123 = .ok (.if_icmp .ne 13, 3) := by decide +kernel
theorem dX6_functor_126 : decode cX6_functor 126 = .ok (.new 67, 3) := by decide +kernel
theorem dX6_functor_129 : decode cX6_functor 129 = .ok (.dup, 1) := by decide +kernel
theorem dX6_functor_130 : decode cX6_functor 130 = .ok (.ldc 227, 2) := by decide +kernel
theorem dX6_functor_132 : decode cX6_functor 132 = .ok (.invokespecial 71, 3) := by decide +kernel
theorem dX6_functor_135 : decode cX6_functor 135 = .ok (.athrow, 1) := by decide +kernel
theorem dX6_functor_136 : decode cX6_functor 136 = .ok (.iinc 6 1, 3) := by decide +kernel
theorem dX6_functor_139 : decode cX6_functor 139 = .ok (.goto (-64), 3) := by decide +kernel
theorem dX6_functor_142 : decode cX6_functor 142 = .ok (.new 41, 3) := by decide +kernel
theorem dX6_functor_145 : decode cX6_functor 145 = .ok (.dup, 1) := by decide +kernel
theorem dX6_functor_146 : decode cX6_functor 146 = .ok (.iload_n 1, 1) := by decide +kernel
theorem dX6_functor_147 : decode cX6_functor 147 = .ok (.iload_n 2, 1) := by decide +kernel
theorem dX6_functor_148 : decode cX6_functor 148 = .ok (.iload_n 3, 1) := by decide +kernel
theorem dX6_functor_149 : decode cX6_functor 149 = .ok (.invokespecial 229, 3) := by decide +kernel
theorem dX6_functor_152 : decode cX6_functor 152 = .ok (.astore 6, 2) := by decide +kernel
theorem dX6_functor_154 : decode cX6_functor 154 = .ok (.aload 6, 2) := by decide +kernel
theorem dX6_functor_156 : decode cX6_functor 156 = .ok (.getfield 232, 3) := by decide +kernel
theorem dX6_functor_159 : decode cX6_functor 159 = .ok (.aload_n 0, 1) := by decide +kernel
theorem dX6_functor_160 : decode cX6_functor 160 = .ok (.getfield 38, 3) := by decide +kernel
theorem dX6_functor_163 : decode cX6_functor 163 = .ok (.invokevirtual 162, 3) := by decide +kernel
theorem dX6_functor_166 : decode cX6_functor 166 = .ok (.aload_n 0, 1) := by decide +kernel
theorem dX6_functor_167 : decode cX6_functor 167 = .ok (.getfield 38, 3) := by decide +kernel
theorem dX6_functor_170 : decode cX6_functor 170 = .ok (.invokevirtual 235, 3) := by decide +kernel
theorem dX6_functor_173 : decode cX6_functor 173 = .ok (.aload_n 0, 1) := by decide +kernel
theorem dX6_functor_174 : decode cX6_functor 174 = .ok (.getfield 43, 3) := by decide +kernel
theorem dX6_functor_177 : decode cX6_functor 177 = .ok (.iload 5, 2) := by decide +kernel
theorem dX6_functor_179 : decode cX6_functor 179 = .ok (.aload 6, 2) := by decide +kernel
theorem dX6_functor_181 : decode cX6_functor 181 = .ok (.aastore, 1) := by decide +kernel
theorem dX6_functor_182 : decode cX6_functor 182 = .ok (.aload_n 0, 1) := by decide +kernel
theorem dX6_functor_183 : decode cX6_functor 183 = .ok (.dup, 1) := by decide +kernel
theorem dX6_functor_184 : decode cX6_functor 184 = .ok (.getfield 222, 3) := by decide +kernel
theorem dX6_functor_187 : decode cX6_functor 187 = .ok (.iconst 1, 1) := by decide +kernel
theorem dX6_functor_188 : decode cX6_functor 188 = .ok (.iadd, 1) := by decide +kernel
theorem dX6_functor_189 : decode cX6_functor 189 = .ok (.putfield 222, 3) := by decide +kernel
theorem dX6_functor_192 : decode cX6_functor 192 = .ok (.iload 5, 2) := by decide +kernel
theorem dX6_functor_194 : decode cX6_functor 194 = .ok (.ireturn, 1) := by decide +kernel
theorem dX6_apply_0 : decode cX6_apply 0 = .ok (.aload_n 0, 1) := by decide +kernel
theorem dX6_apply_1 : decode cX6_apply 1 = .ok (.iload_n 1, 1) := by decide +kernel
theorem dX6_apply_2 : decode cX6_apply 2 = .ok (.invokevirtual 238, 3) := by decide +kernel
theorem dX6_apply_5 : decode cX6_apply 5 = .ok (.astore_n 3, 1) := by decide +kernel
theorem dX6_apply_6 : decode cX6_apply 6 = .ok (.aload_n 3, 1) := by decide +kernel
theorem dX6_apply_7 : decode cX6_apply 7 = .ok (.ifnull 14, 3) := by decide +kernel
theorem dX6_apply_10 : decode cX6_apply 10 = .ok (.aload_n 0, 1) := by decide +kernel
theorem dX6_apply_11 : decode cX6_apply 11 = .ok (.getfield 23, 3) := by decide +kernel
theorem dX6_apply_14 : decode cX6_apply 14 = .ok (.iload_n 2, 1) := by decide +kernel
theorem dX6_apply_15 : decode cX6_apply 15 = .ok (.invokevirtual 103, 3) := by decide +kernel
theorem dX6_apply_18 : decode cX6_apply 18 = .ok (.ifnonnull 13, 3) := by decide +kernel
theorem dX6_apply_21 : decode cX6_apply 21 = .ok (.new 111, 3) := by decide +kernel
theorem dX6_apply_24 : decode cX6_apply 24 = .ok (.dup, 1) := by decide +kernel
theorem dX6_apply_25 : decode cX6_apply 25 = .ok (.ldc 242, 2) := by decide +kernel
theorem dX6_apply_27 : decode cX6_apply 27 = .ok (.invokespecial 115, 3) := by decide +kernel
theorem dX6_apply_30 : decode cX6_apply 30 = .ok (.athrow, 1) := by decide +kernel
theorem dX6_apply_31 : decode cX6_apply 31 = .ok (.aload_n 3, 1) := by decide +kernel
theorem dX6_apply_32 : decode cX6_apply 32 = .ok (.iload_n 2, 1) := by decide +kernel
theorem dX6_apply_33 : decode cX6_apply 33 = .ok (.invokevirtual 244, 3) := by decide +kernel
theorem dX6_apply_36 : decode cX6_apply 36 = .ok (.istore 4, 2) := by decide +kernel
theorem dX6_apply_38 : decode cX6_apply 38 = .ok (.iload 4, 2) := by decide +kernel
theorem dX6_apply_40 : decode cX6_apply 40 = .ok (.iconst (-1), 1) := by decide +kernel
theorem dX6_apply_41 : decode cX6_apply 41 = .ok (.if_icmp .eq 6, 3) := by decide +kernel
theorem dX6_apply_44 : decode cX6_apply 44 = .ok (.iload 4, 2) := by decide +kernel
theorem dX6_apply_46 : decode cX6_apply 46 = .ok (.ireturn, 1) := by decide +kernel
theorem dX6_apply_47 : decode cX6_apply 47 = .ok (.aload_n 0, 1) := by decide +kernel
theorem dX6_apply_48 : decode cX6_apply 48 = .ok (.aload_n 0, 1) := by decide +kernel
theorem dX6_apply_49 : decode cX6_apply 49 = .ok (.getfield 23, 3) := by decide +kernel
theorem dX6_apply_52 : decode cX6_apply 52 = .ok (.iload_n 2, 1) := by decide +kernel
theorem dX6_apply_53 : decode cX6_apply 53 = .ok (.aload_n 3, 1) := by decide +kernel
theorem dX6_apply_54 : decode cX6_apply 54 = .ok (.getfield 247, 3) := by decide +kernel
theorem dX6_apply_57 : decode cX6_apply 57 = .ok (.iconst 0, 1) := by decide +kernel
theorem dX6_apply_58 : decode cX6_apply 58 = .ok (.invokevirtual 183, 3) := by decide +kernel
theorem dX6_apply_61 : decode cX6_apply 61 = .ok (.ifCond .eq 13, 3) := by decide +kernel
theorem dX6_apply_64 : decode cX6_apply 64 = .ok (.new 67, 3) := by decide +kernel
theorem dX6_apply_67 : decode cX6_apply 67 = .ok (.dup, 1) := by decide +kernel
theorem dX6_apply_68 : decode cX6_apply 68 = .ok (.ldc 209, 2) := by decide +kernel
theorem dX6_apply_70 : decode cX6_apply 70 = .ok (.invokespecial 71, 3) := by decide +kernel
theorem dX6_apply_73 : decode cX6_apply 73 = .ok (.athrow, 1) := by decide +kernel
theorem dX6_apply_74 : decode cX6_apply 74 = .ok (.aload_n 0, 1) := by decide +kernel
theorem dX6_apply_75 : decode cX6_apply 75 = .ok (.getfield 12, 3) := by decide +kernel
theorem dX6_apply_78 : decode cX6_apply 78 = .ok (.getfield 211, 3) := by decide +kernel
theorem dX6_apply_81 : decode cX6_apply 81 = .ok (.istore 5, 2) := by decide +kernel
theorem dX6_apply_83 : decode cX6_apply 83 = .ok (.aload_n 0, 1) := by decide +kernel
theorem dX6_apply_84 : decode cX6_apply 84 = .ok (.getfield 23, 3) := by decide +kernel
theorem dX6_apply_87 : decode cX6_apply 87 = .ok (.getfield 169, 3) := by decide +kernel
theorem dX6_apply_90 : decode cX6_apply 90 = .ok (.istore 6, 2) := by decide +kernel
theorem dX6_apply_92 : decode cX6_apply 92 = .ok (.aload_n 0, 1) := by decide +kernel
theorem dX6_apply_93 : decode cX6_apply 93 = .ok (.aload_n 3, 1) := by decide +kernel
theorem dX6_apply_94 : decode cX6_apply 94 = .ok (.iload_n 2, 1) := by decide +kernel
theorem dX6_apply_95 : decode cX6_apply 95 = .ok (.invokevirtual 250, 3) := by decide +kernel
theorem dX6_apply_98 : decode cX6_apply 98 = .ok (.istore 7, 2) := by decide +kernel
theorem dX6_apply_100 : decode cX6_apply 100 = .ok (.iload 7, 2) := by decide +kernel
theorem dX6_apply_102 : decode cX6_apply 102 = .ok (.iconst (-1), 1) := by decide +kernel
theorem dX6_apply_103 : decode cX6_apply 103 = .ok (.if_icmp .ne 31, 3) := by decide +kernel
theorem dX6_apply_106 : decode cX6_apply 106 = .ok (.aload_n 0, 1) := by decide +kernel
theorem dX6_apply_107 : decode cX6_apply 107 = .ok (.getfield 12, 3) := by decide +kernel
theorem dX6_apply_110 : decode cX6_apply 110 = .ok (.iload 5, 2) := by decide +kernel
theorem dX6_apply_112 : decode cX6_apply 112 = .ok (.putfield 211, 3) := by decide +kernel
theorem dX6_apply_115 : decode cX6_apply 115 = .ok (.aload_n 0, 1) := by decide +kernel
theorem dX6_apply_116 : decode cX6_apply 116 = .ok (.getfield 23, 3) := by decide +kernel
theorem dX6_apply_119 : decode cX6_apply 119 = .ok (.iload 6, 2) := by decide +kernel
theorem dX6_apply_121 : decode cX6_apply 121 = .ok (.putfield 169, 3) := by decide +kernel
theorem dX6_apply_124 : decode cX6_apply 124 = .ok (.new 67, 3) := by decide +kernel
theorem dX6_apply_127 : decode cX6_apply 127 = .ok (.dup, 1) := by decide +kernel
theorem dX6_apply_128 : decode cX6_apply 128 = .ok (.ldc 254, 2) := by decide +kernel
theorem dX6_apply_130 : decode cX6_apply 130 = .ok (.invokespecial 71, 3) := by decide +kernel
theorem dX6_apply_133 : decode cX6_apply 133 = .ok (.athrow, 1) := by decide +kernel
theorem dX6_apply_134 : decode cX6_apply 134 = .ok (.aload_n 3, 1) := by decide +kernel
theorem dX6_apply_135 : decode cX6_apply 135 = .ok (.iload_n 2, 1) := by decide +kernel
theorem dX6_apply_136 : decode cX6_apply 136 = .ok (.iload 7, 2) := by decide +kernel
theorem dX6_apply_138 : decode cX6_apply 138 = .ok (.invokevirtual 256, 3) := by decide +kernel
theorem dX6_apply_141 : decode cX6_apply 141 = .ok (.iload 7, 2) := by decide +kernel
theorem dX6_apply_143 : decode cX6_apply 143 = .ok (.ireturn, 1) := by decide +kernel
theorem dX6_pack_0 : decode cX6_pack 0 = .ok (.aload_n 0, 1) := by decide +kernel
theorem dX6_pack_1 : decode cX6_pack 1 = .ok (.getfield 23, 3) := by decide +kernel
theorem dX6_pack_4 : decode cX6_pack 4 = .ok (.iload_n 1, 1) := by decide +kernel
theorem dX6_pack_5 : decode cX6_pack 5 = .ok (.invokevirtual 103, 3) := by decide +kernel
theorem dX6_pack_8 : decode cX6_pack 8 = .ok (.invokestatic 107, 3) := by decide +kernel
theorem dX6_pack_11 : decode cX6_pack 11 = .ok (.aload_n 0, 1) := by decide +kernel
theorem dX6_pack_12 : decode cX6_pack 12 = .ok (.getfield 27, 3) := by decide +kernel
theorem dX6_pack_15 : decode cX6_pack 15 = .ok (.iload_n 2, 1) := by decide +kernel
theorem dX6_pack_16 : decode cX6_pack 16 = .ok (.invokevirtual 103, 3) := by decide +kernel
theorem dX6_pack_19 : decode cX6_pack 19 = .ok (.invokestatic 107, 3) := by decide +kernel
theorem dX6_pack_22 : decode cX6_pack 22 = .ok (.aload_n 0, 1) := by decide +kernel
theorem dX6_pack_23 : decode cX6_pack 23 = .ok (.getfield 259, 3) := by decide +kernel
theorem dX6_pack_26 : decode cX6_pack 26 = .ok (.istore_n 3, 1) := by decide +kernel
theorem dX6_pack_27 : decode cX6_pack 27 = .ok (.iload_n 3, 1) := by decide +kernel
theorem dX6_pack_28 : decode cX6_pack 28 = .ok (.ifCond .lt 12, 3) := by decide +kernel
theorem dX6_pack_31 : decode cX6_pack 31 = .ok (.iload_n 3, 1) := by decide +kernel
theorem dX6_pack_32 : decode cX6_pack 32 = .ok (.aload_n 0, 1) := by decide +kernel
theorem dX6_pack_33 : decode cX6_pack 33 = .ok (.getfield 49, 3) := by decide +kernel
theorem dX6_pack_36 : decode cX6_pack 36 = .ok (.arraylength, 1) := by decide +kernel
theorem dX6_pack_37 : decode cX6_pack 37 = .ok (.if_icmp .lt 14, 3) := by decide +kernel
theorem dX6_pack_40 : decode cX6_pack 40 = .ok (.new 67, 3) := by decide +kernel
theorem dX6_pack_43 : decode cX6_pack 43 = .ok (.dup, 1) := by decide +kernel
theorem dX6_pack_44 : decode cX6_pack 44 = .ok (.ldc_w 262, 3) := by decide +kernel
theorem dX6_pack_47 : decode cX6_pack 47 = .ok (.invokespecial 71, 3) := by decide +kernel
theorem dX6_pack_50 : decode cX6_pack 50 = .ok (.athrow, 1) := by decide +kernel
theorem dX6_pack_51 : decode cX6_pack 51 = .ok (.aload_n 0, 1) := by decide +kernel
theorem dX6_pack_52 : decode cX6_pack 52 = .ok (.aload_n 0, 1) := by decide +kernel
theorem dX6_pack_53 : decode cX6_pack 53 = .ok (.getfield 23, 3) := by decide +kernel
theorem dX6_pack_56 : decode cX6_pack 56 = .ok (.iload_n 1, 1) := by decide +kernel
theorem dX6_pack_57 : decode cX6_pack 57 = .ok (.iload_n 2, 1) := by decide +kernel
theorem dX6_pack_58 : decode cX6_pack 58 = .ok (.iconst 0, 1) := by decide +kernel
theorem dX6_pack_59 : decode cX6_pack 59 = .ok (.invokevirtual 183, 3) := by decide +kernel
theorem dX6_pack_62 : decode cX6_pack 62 = .ok (.ifCond .eq 13, 3) := by decide +kernel
theorem dX6_pack_65 : decode cX6_pack 65 = .ok (.new 67, 3) := by decide +kernel
theorem dX6_pack_68 : decode cX6_pack 68 = .ok (.dup, 1) := by decide +kernel
theorem dX6_pack_69 : decode cX6_pack 69 = .ok (.ldc 209, 2) := by decide +kernel
theorem dX6_pack_71 : decode cX6_pack 71 = .ok (.invokespecial 71, 3) := by decide +kernel
theorem dX6_pack_74 : decode cX6_pack 74 = .ok (.athrow, 1) := by decide +kernel
theorem dX6_pack_75 : decode cX6_pack 75 = .ok (.aload_n 0, 1) := by decide +kernel
theorem dX6_pack_76 : decode cX6_pack 76 = .ok (.getfield 49, 3) := by decide +kernel
theorem dX6_pack_79 : decode cX6_pack 79 = .ok (.iload_n 3, 1) := by decide +kernel
theorem dX6_pack_80 : decode cX6_pack 80 = .ok (.new 47, 3) := by decide +kernel
theorem dX6_pack_83 : decode cX6_pack 83 = .ok (.dup, 1) := by decide +kernel
theorem dX6_pack_84 : decode cX6_pack 84 = .ok (.iload_n 1, 1) := by decide +kernel
theorem dX6_pack_85 : decode cX6_pack 85 = .ok (.iload_n 2, 1) := by decide +kernel
theorem dX6_pack_86 : decode cX6_pack 86 = .ok (.invokespecial 264, 3) := by decide +kernel
theorem dX6_pack_89 : decode cX6_pack 89 = .ok (.aastore, 1) := by decide +kernel
theorem dX6_pack_90 : decode cX6_pack 90 = .ok (.aload_n 0, 1) := by decide +kernel
theorem dX6_pack_91 : decode cX6_pack 91 = .ok (.dup, 1) := by decide +kernel
theorem dX6_pack_92 : decode cX6_pack 92 = .ok (.getfield 259, 3) := by decide +kernel
theorem dX6_pack_95 : decode cX6_pack 95 = .ok (.iconst 1, 1) := by decide +kernel
theorem dX6_pack_96 : decode cX6_pack 96 = .ok (.iadd, 1) := by decide +kernel
theorem dX6_pack_97 : decode cX6_pack 97 = .ok (.putfield 259, 3) := by decide +kernel
theorem dX6_pack_100 : decode cX6_pack 100 = .ok (.iload_n 3, 1) := by decide +kernel
theorem dX6_pack_101 : decode cX6_pack 101 = .ok (.ireturn, 1) := by decide +kernel
theorem dX6_unpack_0 : decode cX6_unpack 0 = .ok (.iload_n 1, 1) := by decide +kernel
theorem dX6_unpack_1 : decode cX6_unpack 1 = .ok (.ifCond .lt 21, 3) := by decide +kernel
theorem dX6_unpack_4 : decode cX6_unpack 4 = .ok (.iload_n 1, 1) := by decide +kernel
theorem dX6_unpack_5 : decode cX6_unpack 5 = .ok (.aload_n 0, 1) := by decide +kernel
theorem dX6_unpack_6 : decode cX6_unpack 6 = .ok (.getfield 49, 3) := by decide +kernel
theorem dX6_unpack_9 : decode cX6_unpack 9 = .ok (.arraylength, 1) := by decide +kernel
theorem dX6_unpack_10 : decode cX6_unpack 10 = .ok (.if_icmp .ge 12, 3) := by decide +kernel
theorem dX6_unpack_13 : decode cX6_unpack 13 = .ok (.aload_n 0, 1) := by decide +kernel
theorem dX6_unpack_14 : decode cX6_unpack 14 = .ok (.getfield 49, 3) := by decide +kernel
theorem dX6_unpack_17 : decode cX6_unpack 17 = .ok (.iload_n 1, 1) := by decide +kernel
theorem dX6_unpack_18 : decode cX6_unpack 18 = .ok (.aaload, 1) := by decide +kernel
theorem dX6_unpack_19 : decode cX6_unpack 19 = .ok (.goto 4, 3) := by decide +kernel
theorem dX6_unpack_22 : decode cX6_unpack 22 = .ok (.aconst_null, 1) := by decide +kernel
theorem dX6_unpack_23 : decode cX6_unpack 23 = .ok (.astore_n 2, 1) := by decide +kernel
theorem dX6_unpack_24 : decode cX6_unpack 24 = .ok (.aload_n 2, 1) := by decide +kernel
theorem dX6_unpack_25 : decode cX6_unpack 25 = .ok (.ifnonnull 14, 3) := by decide +kernel
theorem dX6_unpack_28 : decode cX6_unpack 28 = .ok (.new 111, 3) := by decide +kernel
theorem dX6_unpack_31 : decode cX6_unpack 31 = .ok (.dup, 1) := by decide +kernel
theorem dX6_unpack_32 : decode cX6_unpack 32 = .ok (.ldc_w 266, 3) := by decide +kernel
theorem dX6_unpack_35 : decode cX6_unpack 35 = .ok (.invokespecial 115, 3) := by decide +kernel
theorem dX6_unpack_38 : decode cX6_unpack 38 = .ok (.athrow, 1) := by decide +kernel
theorem dX6_unpack_39 : decode cX6_unpack 39 = .ok (.aload_n 0, 1) := by decide +kernel
theorem dX6_unpack_40 : decode cX6_unpack 40 = .ok (.aload_n 2, 1) := by decide +kernel
theorem dX6_unpack_41 : decode cX6_unpack 41 = .ok (.getfield 268, 3) := by decide +kernel
theorem dX6_unpack_44 : decode cX6_unpack 44 = .ok (.aload_n 2, 1) := by decide +kernel
theorem dX6_unpack_45 : decode cX6_unpack 45 = .ok (.getfield 271, 3) := by decide +kernel
theorem dX6_unpack_48 : decode cX6_unpack 48 = .ok (.iconst 1, 1) := by decide +kernel
theorem dX6_unpack_49 : decode cX6_unpack 49 = .ok (.invokevirtual 187, 3) := by decide +kernel
theorem dX6_unpack_52 : decode cX6_unpack 52 = .ok (.ireturn, 1) := by decide +kernel
theorem dX6_functorAt_0 : decode cX6_functorAt 0 = .ok (.iload_n 1, 1) := by decide +kernel
theorem dX6_functorAt_1 : decode cX6_functorAt 1 = .ok (.ifCond .lt 21, 3) := by decide +kernel
theorem dX6_functorAt_4 : decode cX6_functorAt 4 = .ok (.iload_n 1, 1) := by decide +kernel
theorem dX6_functorAt_5 : decode cX6_functorAt 5 = .ok (.aload_n 0, 1) := by decide +kernel
theorem dX6_functorAt_6 : decode cX6_functorAt 6 = .ok (.getfield 43, 3) := by decide +kernel
theorem dX6_functorAt_9 : decode cX6_functorAt 9 = .ok (.arraylength, 1) := by decide +kernel
theorem dX6_functorAt_10 : decode cX6_functorAt 10 = .ok (.if_icmp .ge 12, 3) := by decide +kernel
theorem dX6_functorAt_13 : decode cX6_functorAt 13 = .ok (.aload_n 0, 1) := by decide +kernel
theorem dX6_functorAt_14 : decode cX6_functorAt 14 = .ok (.getfield 43, 3) := by decide +kernel
theorem dX6_functorAt_17 : decode cX6_functorAt 17 = .ok (.iload_n 1, 1) := by decide +kernel
theorem dX6_functorAt_18 : decode cX6_functorAt 18 = .ok (.aaload, 1) := by decide +kernel
theorem dX6_functorAt_19 : decode cX6_functorAt 19 = .ok (.goto 4, 3) := by decide +kernel
theorem dX6_functorAt_22 : decode cX6_functorAt 22 = .ok (.aconst_null, 1) := by decide +kernel
theorem dX6_functorAt_23 : decode cX6_functorAt 23 = .ok (.areturn, 1) := by decide +kernel
theorem dX6_applyAnew_0 : decode cX6_applyAnew 0 = .ok (.aload_n 0, 1) := by decide +kernel
theorem dX6_applyAnew_1 : decode cX6_applyAnew 1 = .ok (.getfield 23, 3) := by decide +kernel
theorem dX6_applyAnew_4 : decode cX6_applyAnew 4 = .ok (.getfield 169, 3) := by decide +kernel
theorem dX6_applyAnew_7 : decode cX6_applyAnew 7 = .ok (.istore_n 3, 1) := by decide +kernel
theorem dX6_applyAnew_8 : decode cX6_applyAnew 8 = .ok (.aload_n 0, 1) := by decide +kernel
theorem dX6_applyAnew_9 : decode cX6_applyAnew 9 = .ok (.getfield 23, 3) := by decide +kernel
theorem dX6_applyAnew_12 : decode cX6_applyAnew 12 = .ok (.iload_n 3, 1) := by decide +kernel
theorem dX6_applyAnew_13 : decode cX6_applyAnew 13 = .ok (.invokevirtual 170, 3) := by decide +kernel
theorem dX6_applyAnew_16 : decode cX6_applyAnew 16 = .ok (.astore 4, 2) := by decide +kernel
theorem dX6_applyAnew_18 : decode cX6_applyAnew 18 = .ok (.aload_n 0, 1) := by decide +kernel
theorem dX6_applyAnew_19 : decode cX6_applyAnew 19 = .ok (.getfield 23, 3) := by decide +kernel
theorem dX6_applyAnew_22 : decode cX6_applyAnew 22 = .ok (.iload_n 2, 1) := by decide +kernel
theorem dX6_applyAnew_23 : decode cX6_applyAnew 23 = .ok (.invokevirtual 103, 3) := by decide +kernel
theorem dX6_applyAnew_26 : decode cX6_applyAnew 26 = .ok (.astore 5, 2) := by decide +kernel
theorem dX6_applyAnew_28 : decode cX6_applyAnew 28 = .ok (.aload 4, 2) := by decide +kernel
theorem dX6_applyAnew_30 : decode cX6_applyAnew 30 = .ok (.ifnull 23, 3) := by decide +kernel
theorem dX6_applyAnew_33 : decode cX6_applyAnew 33 = .ok (.aload 5, 2) := by decide +kernel
theorem dX6_applyAnew_35 : decode cX6_applyAnew 35 = .ok (.ifnull 18, 3) := by decide +kernel
theorem dX6_applyAnew_38 : decode cX6_applyAnew 38 = .ok (.aload_n 0, 1) := by decide +kernel
theorem dX6_applyAnew_39 : decode cX6_applyAnew 39 = .ok (.aload 4, 2) := by decide +kernel
theorem dX6_applyAnew_41 : decode cX6_applyAnew 41 = .ok (.aload_n 1, 1) := by decide +kernel
theorem dX6_applyAnew_42 : decode cX6_applyAnew 42 = .ok (.getfield 232, 3) := by decide +kernel
theorem dX6_applyAnew_45 : decode cX6_applyAnew 45 = .ok (.aload 5, 2) := by decide +kernel
theorem dX6_applyAnew_47 : decode cX6_applyAnew 47 = .ok (.invokevirtual 274, 3) := by decide +kernel
theorem dX6_applyAnew_50 : decode cX6_applyAnew 50 = .ok (.ifCond .ne 5, 3) := by decide +kernel
theorem dX6_applyAnew_53 : decode cX6_applyAnew 53 = .ok (.iconst (-1), 1) := by decide +kernel
theorem dX6_applyAnew_54 : decode cX6_applyAnew 54 = .ok (.ireturn, 1) := by decide +kernel
theorem dX6_applyAnew_55 : decode cX6_applyAnew 55 = .ok (.aload_n 0, 1) := by decide +kernel
theorem dX6_applyAnew_56 : decode cX6_applyAnew 56 = .ok (.getfield 23, 3) := by decide +kernel
theorem dX6_applyAnew_59 : decode cX6_applyAnew 59 = .ok (.dup, 1) := by decide +kernel
theorem dX6_applyAnew_60 : decode cX6_applyAnew 60 = .ok (.getfield 169, 3) := by decide +kernel
theorem dX6_applyAnew_63 : decode cX6_applyAnew 63 = .ok (.iconst 1, 1) := by decide +kernel
theorem dX6_applyAnew_64 : decode cX6_applyAnew 64 = .ok (.iadd, 1) := by decide +kernel
theorem dX6_applyAnew_65 : decode cX6_applyAnew 65 = .ok (.putfield 169, 3) := by decide +kernel
theorem dX6_applyAnew_68 : decode cX6_applyAnew 68 = .ok (.aload_n 1, 1) := by decide +kernel
theorem dX6_applyAnew_69 : decode cX6_applyAnew 69 = .ok (.getfield 278, 3) := by decide +kernel
theorem dX6_applyAnew_72 : decode cX6_applyAnew 72 = .ok (.iconst (-1), 1) := by decide +kernel
theorem dX6_applyAnew_73 : decode cX6_applyAnew 73 = .ok (.if_icmp .ne 5, 3) := by decide +kernel
theorem dX6_applyAnew_76 : decode cX6_applyAnew 76 = .ok (.iload_n 3, 1) := by decide +kernel
theorem dX6_applyAnew_77 : decode cX6_applyAnew 77 = .ok (.ireturn, 1) := by decide +kernel
theorem dX6_applyAnew_78 : decode cX6_applyAnew 78 = .ok (.aload_n 0, 1) := by decide +kernel
theorem dX6_applyAnew_79 : decode cX6_applyAnew 79 = .ok (.aload_n 0, 1) := by decide +kernel
theorem dX6_applyAnew_80 : decode cX6_applyAnew 80 = .ok (.getfield 23, 3) := by decide +kernel
theorem dX6_applyAnew_83 : decode cX6_applyAnew 83 = .ok (.iload_n 3, 1) := by decide +kernel
theorem dX6_applyAnew_84 : decode cX6_applyAnew 84 = .ok (.aload_n 1, 1) := by decide +kernel
theorem dX6_applyAnew_85 : decode cX6_applyAnew 85 = .ok (.getfield 278, 3) := by decide +kernel
theorem dX6_applyAnew_88 : decode cX6_applyAnew 88 = .ok (.iconst 0, 1) := by decide +kernel
theorem dX6_applyAnew_89 : decode cX6_applyAnew 89 = .ok (.invokevirtual 183, 3) := by decide +kernel
theorem dX6_applyAnew_92 : decode cX6_applyAnew 92 = .ok (.ifCond .eq 5, 3) := by decide +kernel
theorem dX6_applyAnew_95 : decode cX6_applyAnew 95 = .ok (.iconst (-1), 1) := by decide +kernel
theorem dX6_applyAnew_96 : decode cX6_applyAnew 96 = .ok (.ireturn, 1) := by decide +kernel
theorem dX6_applyAnew_97 : decode cX6_applyAnew 97 = .ok (.aload_n 0, 1) := by decide +kernel
theorem dX6_applyAnew_98 : decode cX6_applyAnew 98 = .ok (.iload_n 3, 1) := by decide +kernel
theorem dX6_applyAnew_99 : decode cX6_applyAnew 99 = .ok (.aload_n 1, 1) := by decide +kernel
theorem dX6_applyAnew_100 : decode cX6_applyAnew 100 = .ok (.getfield 278, 3) := by decide +kernel
theorem dX6_applyAnew_103 : decode cX6_applyAnew 103 = .ok (.aload_n 0, 1) := by decide +kernel
theorem dX6_applyAnew_104 : decode cX6_applyAnew 104 = .ok (.getfield 23, 3) := by decide +kernel
theorem dX6_applyAnew_107 : decode cX6_applyAnew 107 = .ok (.getfield 169, 3) := by decide +kernel
theorem dX6_applyAnew_110 : decode cX6_applyAnew 110 = .ok (.iconst 1, 1) := by decide +kernel
theorem dX6_applyAnew_111 : decode cX6_applyAnew 111 = .ok (.iconst 0, 1) := by decide +kernel
theorem dX6_applyAnew_112 : decode cX6_applyAnew 112 = .ok (.invokevirtual 212, 3) := by decide +kernel
theorem dX6_applyAnew_115 : decode cX6_applyAnew 115 = .ok (.istore 6, 2) := by decide +kernel
theorem dX6_applyAnew_117 : decode cX6_applyAnew 117 = .ok (.iload 6, 2) := by decide +kernel
theorem dX6_applyAnew_119 : decode cX6_applyAnew 119 = .ok (.iconst (-1), 1) := by decide +kernel
theorem dX6_applyAnew_120 : decode cX6_applyAnew 120 = .ok (.if_icmp .eq 14, 3) := by decide +kernel
theorem dX6_applyAnew_123 : decode cX6_applyAnew 123 = .ok (.aload_n 0, 1) := by decide +kernel
theorem dX6_applyAnew_124 : decode cX6_applyAnew 124 = .ok (.getfield 23, 3) := by decide +kernel
theorem dX6_applyAnew_127 : decode cX6_applyAnew 127 = .ok (.iload 6, 2) := by decide +kernel
theorem dX6_applyAnew_129 : decode cX6_applyAnew 129 = .ok (.iconst 1, 1) := by decide +kernel
theorem dX6_applyAnew_130 : decode cX6_applyAnew 130 = .ok (.iadd, 1) := by decide +kernel
theorem dX6_applyAnew_131 : decode cX6_applyAnew 131 = .ok (.putfield 169, 3) := by decide +kernel
theorem dX6_applyAnew_134 : decode cX6_applyAnew 134 = .ok (.iload 6, 2) := by decide +kernel
theorem dX6_applyAnew_136 : decode cX6_applyAnew 136 = .ok (.ireturn, 1) := by decide +kernel
theorem dX6_fill_0 : decode cX6_fill 0 = .ok (.iconst 0, 1) := by decide +kernel
theorem dX6_fill_1 : decode cX6_fill 1 = .ok (.istore 4, 2) := by decide +kernel
theorem dX6_fill_3 : decode cX6_fill 3 = .ok (.iload 4, 2) := by decide +kernel
theorem dX6_fill_5 : decode cX6_fill 5 = .ok (.aload_n 2, 1) := by decide +kernel
theorem dX6_fill_6 : decode cX6_fill 6 = .ok (.getfield 116, 3) := by decide +kernel
theorem dX6_fill_9 : decode cX6_fill 9 = .ok (.if_icmp .ge 149, 3) := by decide +kernel
theorem dX6_fill_12 : decode cX6_fill 12 = .ok (.aload_n 2, 1) := by decide +kernel
theorem dX6_fill_13 : decode cX6_fill 13 = .ok (.iload 4, 2) := by decide +kernel
theorem dX6_fill_15 : decode cX6_fill 15 = .ok (.iconst 0, 1) := by decide +kernel
theorem dX6_fill_16 : decode cX6_fill 16 = .ok (.invokevirtual 120, 3) := by decide +kernel
theorem dX6_fill_19 : decode cX6_fill 19 = .ok (.istore 5, 2) := by decide +kernel
theorem dX6_fill_21 : decode cX6_fill 21 = .ok (.aload_n 2, 1) := by decide +kernel
theorem dX6_fill_22 : decode cX6_fill 22 = .ok (.iload 4, 2) := by decide +kernel
theorem dX6_fill_24 : decode cX6_fill 24 = .ok (.iconst 5, 1) := by decide +kernel
theorem dX6_fill_25 : decode cX6_fill 25 = .ok (.invokevirtual 120, 3) := by decide +kernel
theorem dX6_fill_28 : decode cX6_fill 28 = .ok (.istore 6, 2) := by decide +kernel
theorem dX6_fill_30 : decode cX6_fill 30 = .ok (.aload_n 2, 1) := by decide +kernel
theorem dX6_fill_31 : decode cX6_fill 31 = .ok (.iload 4, 2) := by decide +kernel
theorem dX6_fill_33 : decode cX6_fill 33 = .ok (.iconst 4, 1) := by decide +kernel
theorem dX6_fill_34 : decode cX6_fill 34 = .ok (.invokevirtual 120, 3) := by decide +kernel
theorem dX6_fill_37 : decode cX6_fill 37 = .ok (.istore 7, 2) := by decide +kernel
theorem dX6_fill_39 : decode cX6_fill 39 = .ok (.iload 5, 2) := by decide +kernel
theorem dX6_fill_41 : decode cX6_fill 41 = .ok (.iconst 1, 1) := by decide +kernel
theorem dX6_fill_42 : decode cX6_fill 42 = .ok (.if_icmp .ne 54, 3) := by decide +kernel
theorem dX6_fill_45 : decode cX6_fill 45 = .ok (.aload_n 0, 1) := by decide +kernel
theorem dX6_fill_46 : decode cX6_fill 46 = .ok (.aload_n 1, 1) := by decide +kernel
theorem dX6_fill_47 : decode cX6_fill 47 = .ok (.aload_n 2, 1) := by decide +kernel
theorem dX6_fill_48 : decode cX6_fill 48 = .ok (.iload 4, 2) := by decide +kernel
theorem dX6_fill_50 : decode cX6_fill 50 = .ok (.iconst 2, 1) := by decide +kernel
theorem dX6_fill_51 : decode cX6_fill 51 = .ok (.invokevirtual 120, 3) := by decide +kernel
theorem dX6_fill_54 : decode cX6_fill 54 = .ok (.aload_n 2, 1) := by decide +kernel
theorem dX6_fill_55 : decode cX6_fill 55 = .ok (.iload 4, 2) := by decide +kernel
theorem dX6_fill_57 : decode cX6_fill 57 = .ok (.iconst 3, 1) := by decide +kernel
theorem dX6_fill_58 : decode cX6_fill 58 = .ok (.invokevirtual 120, 3) := by decide +kernel
theorem dX6_fill_61 : decode cX6_fill 61 = .ok (.invokevirtual 218, 3) := by decide +kernel
theorem dX6_fill_64 : decode cX6_fill 64 = .ok (.istore 8, 2) := by decide +kernel
theorem dX6_fill_66 : decode cX6_fill 66 = .ok (.iload 7, 2) := by decide +kernel
theorem dX6_fill_68 : decode cX6_fill 68 = .ok (.iload 6, 2) := by decide +kernel
theorem dX6_fill_70 : decode cX6_fill 70 = .ok (.iconst (-1), 1) := by decide +kernel
theorem dX6_fill_71 : decode cX6_fill 71 = .ok (.if_icmp .ne 7, 3) := by decide +kernel
theorem dX6_fill_74 : decode cX6_fill 74 = .ok (.iconst 0, 1) := by decide +kernel
theorem dX6_fill_75 : decode cX6_fill 75 = .ok (.goto 15, 3) := by decide +kernel
theorem dX6_fill_78 : decode cX6_fill 78 = .ok (.aload_n 3, 1) := by decide +kernel
theorem dX6_fill_79 : decode cX6_fill 79 = .ok (.aload_n 3, 1) := by decide +kernel
theorem dX6_fill_80 : decode cX6_fill 80 = .ok (.iconst 1, 1) := by decide +kernel
theorem dX6_fill_81 : decode cX6_fill 81 = .ok (.iload 6, 2) := by decide +kernel
theorem dX6_fill_83 : decode cX6_fill 83 = .ok (.invokevirtual 131, 3) := by decide +kernel
theorem dX6_fill_86 : decode cX6_fill 86 = .ok (.iconst 4, 1) := by decide +kernel
theorem dX6_fill_87 : decode cX6_fill 87 = .ok (.invokevirtual 120, 3) := by decide +kernel
theorem dX6_fill_90 : decode cX6_fill 90 = .ok (.iadd, 1) := by decide +kernel
theorem dX6_fill_91 : decode cX6_fill 91 = .ok (.istore 7, 2) := by decide +kernel
theorem dX6_fill_93 : decode cX6_fill 93 = .ok (.goto 29, 3) := by decide +kernel
theorem dX6_fill_96 : decode cX6_fill 96 = .ok (.iload 6, 2) := by decide +kernel
theorem dX6_fill_98 : decode cX6_fill 98 = .ok (.iconst (-1), 1) := by decide +kernel
theorem dX6_fill_99 : decode cX6_fill 99 = .ok (.if_icmp .ne 13, 3) := by decide +kernel
theorem dX6_fill_102 : decode cX6_fill 102 = .ok (.aload_n 0, 1) := by decide +kernel
theorem dX6_fill_103 : decode cX6_fill 103 = .ok (.getfield 12, 3) := by decide +kernel
theorem dX6_fill_106 : decode cX6_fill 106 = .ok (.invokevirtual 92, 3) := by decide +kernel
theorem dX6_fill_109 : decode cX6_fill 109 = .ok (.goto 11, 3) := by decide +kernel
theorem dX6_fill_112 : decode cX6_fill 112 = .ok (.aload_n 3, 1) := by decide +kernel
theorem dX6_fill_113 : decode cX6_fill 113 = .ok (.iconst (-1), 1) := by decide +kernel
theorem dX6_fill_114 : decode cX6_fill 114 = .ok (.iload 6, 2) := by decide +kernel
theorem dX6_fill_116 : decode cX6_fill 116 = .ok (.isub, 1) := by decide +kernel
theorem dX6_fill_117 : decode cX6_fill 117 = .ok (.invokevirtual 199, 3) := by decide +kernel
theorem dX6_fill_120 : decode cX6_fill 120 = .ok (.istore 8, 2) := by decide +kernel
theorem dX6_fill_122 : decode cX6_fill 122 = .ok (.iload 8, 2) := by decide +kernel
theorem dX6_fill_124 : decode cX6_fill 124 = .ok (.ifCond .ge 5, 3) := by decide +kernel
theorem dX6_fill_127 : decode cX6_fill 127 = .ok (.iconst 0, 1) := by decide +kernel
theorem dX6_fill_128 : decode cX6_fill 128 = .ok (.ireturn, 1) := by decide +kernel
theorem dX6_fill_129 : decode cX6_fill 129 = .ok (.aload_n 1, 1) := by decide +kernel
theorem dX6_fill_130 : decode cX6_fill 130 = .ok (.iload 5, 2) := by decide +kernel
theorem dX6_fill_132 : decode cX6_fill 132 = .ok (.aload_n 2, 1) := by decide +kernel
theorem dX6_fill_133 : decode cX6_fill 133 = .ok (.iload 4, 2) := by decide +kernel
theorem dX6_fill_135 : decode cX6_fill 135 = .ok (.iconst 1, 1) := by decide +kernel
theorem dX6_fill_136 : decode cX6_fill 136 = .ok (.invokevirtual 120, 3) := by decide +kernel
theorem dX6_fill_139 : decode cX6_fill 139 = .ok (.iload 8, 2) := by decide +kernel
theorem dX6_fill_141 : decode cX6_fill 141 = .ok (.bipush (-100), 2) := by decide +kernel
theorem dX6_fill_143 : decode cX6_fill 143 = .ok (.iload 7, 2) := by decide +kernel
theorem dX6_fill_145 : decode cX6_fill 145 = .ok (.invokestatic 281, 3) := by decide +kernel
theorem dX6_fill_148 : decode cX6_fill 148 = .ok (.iconst (-1), 1) := by decide +kernel
theorem dX6_fill_149 : decode cX6_fill 149 = .ok (.invokevirtual 139, 3) := by decide +kernel
theorem dX6_fill_152 : decode cX6_fill 152 = .ok (.iinc 4 1, 3) := by decide +kernel
theorem dX6_fill_155 : decode cX6_fill 155 = .ok (.goto (-152), 3) := by decide +kernel
theorem dX6_fill_158 : decode cX6_fill 158 = .ok (.iconst 1, 1) := by decide +kernel
theorem dX6_fill_159 : decode cX6_fill 159 = .ok (.ireturn, 1) := by decide +kernel
theorem dX6_cut_0 : decode cX6_cut 0 = .ok (.sipush (-10000), 3) := by decide +kernel
theorem dX6_cut_3 : decode cX6_cut 3 = .ok (.sipush 10000, 3) := by decide +kernel
theorem dX6_cut_6 : decode cX6_cut 6 = .ok (.iload_n 0, 1) := by decide +kernel
theorem dX6_cut_7 : decode cX6_cut 7 = .ok (.invokestatic 284, 3) := by decide +kernel
theorem dX6_cut_10 : decode cX6_cut 10 = .ok (.invokestatic 289, 3) := by decide +kernel
theorem dX6_cut_13 : decode cX6_cut 13 = .ok (.ireturn, 1) := by decide +kernel
theorem dX6_unit_0 : decode cX6_unit 0 = .ok (.aload_n 0, 1) := by decide +kernel
theorem dX6_unit_1 : decode cX6_unit 1 = .ok (.getfield 27, 3) := by decide +kernel
theorem dX6_unit_4 : decode cX6_unit 4 = .ok (.iload_n 1, 1) := by decide +kernel
theorem dX6_unit_5 : decode cX6_unit 5 = .ok (.invokevirtual 103, 3) := by decide +kernel
theorem dX6_unit_8 : decode cX6_unit 8 = .ok (.invokestatic 107, 3) := by decide +kernel
theorem dX6_unit_11 : decode cX6_unit 11 = .ok (.aload_n 0, 1) := by decide +kernel
theorem dX6_unit_12 : decode cX6_unit 12 = .ok (.getfield 292, 3) := by decide +kernel
theorem dX6_unit_15 : decode cX6_unit 15 = .ok (.istore 4, 2) := by decide +kernel
theorem dX6_unit_17 : decode cX6_unit 17 = .ok (.iconst 1, 1) := by decide +kernel
theorem dX6_unit_18 : decode cX6_unit 18 = .ok (.iload 4, 2) := by decide +kernel
theorem dX6_unit_20 : decode cX6_unit 20 = .ok (.ishl, 1) := by decide +kernel
theorem dX6_unit_21 : decode cX6_unit 21 = .ok (.iconst 1, 1) := by decide +kernel
theorem dX6_unit_22 : decode cX6_unit 22 = .ok (.isub, 1) := by decide +kernel
theorem dX6_unit_23 : decode cX6_unit 23 = .ok (.istore 5, 2) := by decide +kernel
theorem dX6_unit_25 : decode cX6_unit 25 = .ok (.iload_n 2, 1) := by decide +kernel
theorem dX6_unit_26 : decode cX6_unit 26 = .ok (.iload 5, 2) := by decide +kernel
theorem dX6_unit_28 : decode cX6_unit 28 = .ok (.iconst (-1), 1) := by decide +kernel
theorem dX6_unit_29 : decode cX6_unit 29 = .ok (.ixor, 1) := by decide +kernel
theorem dX6_unit_30 : decode cX6_unit 30 = .ok (.iand, 1) := by decide +kernel
theorem dX6_unit_31 : decode cX6_unit 31 = .ok (.ifCond .eq 14, 3) := by decide +kernel
theorem dX6_unit_34 : decode cX6_unit 34 = .ok (.new 111, 3) := by decide +kernel
theorem dX6_unit_37 : decode cX6_unit 37 = .ok (.dup, 1) := by decide +kernel
theorem dX6_unit_38 : decode cX6_unit 38 = .ok (.ldc_w 295, 3) := by decide +kernel
theorem dX6_unit_41 : decode cX6_unit 41 = .ok (.invokespecial 115, 3) := by decide +kernel
theorem dX6_unit_44 : decode cX6_unit 44 = .ok (.athrow, 1) := by decide +kernel
theorem dX6_unit_45 : decode cX6_unit 45 = .ok (.iload 4, 2) := by decide +kernel
theorem dX6_unit_47 : decode cX6_unit 47 = .ok (.ifCond .lt 13, 3) := by decide +kernel
theorem dX6_unit_50 : decode cX6_unit 50 = .ok (.iload 4, 2) := by decide +kernel
theorem dX6_unit_52 : decode cX6_unit 52 = .ok (.aload_n 0, 1) := by decide +kernel
theorem dX6_unit_53 : decode cX6_unit 53 = .ok (.getfield 55, 3) := by decide +kernel
theorem dX6_unit_56 : decode cX6_unit 56 = .ok (.arraylength, 1) := by decide +kernel
theorem dX6_unit_57 : decode cX6_unit 57 = .ok (.if_icmp .lt 14, 3) := by decide +kernel
theorem dX6_unit_60 : decode cX6_unit 60 = .ok (.new 67, 3) := by decide +kernel
theorem dX6_unit_63 : decode cX6_unit 63 = .ok (.dup, 1) := by decide +kernel
theorem dX6_unit_64 : decode cX6_unit 64 = .ok (.ldc_w 297, 3) := by decide +kernel
theorem dX6_unit_67 : decode cX6_unit 67 = .ok (.invokespecial 71, 3) := by decide +kernel
theorem dX6_unit_70 : decode cX6_unit 70 = .ok (.athrow, 1) := by decide +kernel
theorem dX6_unit_71 : decode cX6_unit 71 = .ok (.aload_n 0, 1) := by decide +kernel
theorem dX6_unit_72 : decode cX6_unit 72 = .ok (.getfield 55, 3) := by decide +kernel
theorem dX6_unit_75 : decode cX6_unit 75 = .ok (.iload 4, 2) := by decide +kernel
theorem dX6_unit_77 : decode cX6_unit 77 = .ok (.new 53, 3) := by decide +kernel
theorem dX6_unit_80 : decode cX6_unit 80 = .ok (.dup, 1) := by decide +kernel
theorem dX6_unit_81 : decode cX6_unit 81 = .ok (.iload_n 1, 1) := by decide +kernel
theorem dX6_unit_82 : decode cX6_unit 82 = .ok (.iload_n 2, 1) := by decide +kernel
theorem dX6_unit_83 : decode cX6_unit 83 = .ok (.iload_n 3, 1) := by decide +kernel
theorem dX6_unit_84 : decode cX6_unit 84 = .ok (.invokespecial 299, 3) := by decide +kernel
theorem dX6_unit_87 : decode cX6_unit 87 = .ok (.aastore, 1) := by decide +kernel
theorem dX6_unit_88 : decode cX6_unit 88 = .ok (.aload_n 0, 1) := by decide +kernel
theorem dX6_unit_89 : decode cX6_unit 89 = .ok (.dup, 1) := by decide +kernel
theorem dX6_unit_90 : decode cX6_unit 90 = .ok (.getfield 292, 3) := by decide +kernel
theorem dX6_unit_93 : decode cX6_unit 93 = .ok (.iconst 1, 1) := by decide +kernel
theorem dX6_unit_94 : decode cX6_unit 94 = .ok (.iadd, 1) := by decide +kernel
theorem dX6_unit_95 : decode cX6_unit 95 = .ok (.putfield 292, 3) := by decide +kernel
theorem dX6_unit_98 : decode cX6_unit 98 = .ok (.iload 4, 2) := by decide +kernel
theorem dX6_unit_100 : decode cX6_unit 100 = .ok (.ireturn, 1) := by decide +kernel
theorem dX6_change_0 : decode cX6_change 0 = .ok (.aload_n 0, 1) := by decide +kernel
theorem dX6_change_1 : decode cX6_change 1 = .ok (.iload_n 1, 1) := by decide +kernel
theorem dX6_change_2 : decode cX6_change 2 = .ok (.invokevirtual 300, 3) := by decide +kernel
theorem dX6_change_5 : decode cX6_change 5 = .ok (.astore_n 3, 1) := by decide +kernel
theorem dX6_change_6 : decode cX6_change 6 = .ok (.aload_n 3, 1) := by decide +kernel
theorem dX6_change_7 : decode cX6_change 7 = .ok (.ifnull 19, 3) := by decide +kernel
theorem dX6_change_10 : decode cX6_change 10 = .ok (.iload_n 2, 1) := by decide +kernel
theorem dX6_change_11 : decode cX6_change 11 = .ok (.iconst (-1), 1) := by decide +kernel
theorem dX6_change_12 : decode cX6_change 12 = .ok (.if_icmp .eq 25, 3) := by decide +kernel
theorem dX6_change_15 : decode cX6_change 15 = .ok (.aload_n 0, 1) := by decide +kernel
theorem dX6_change_16 : decode cX6_change 16 = .ok (.getfield 27, 3) := by decide +kernel
theorem dX6_change_19 : decode cX6_change 19 = .ok (.iload_n 2, 1) := by decide +kernel
theorem dX6_change_20 : decode cX6_change 20 = .ok (.invokevirtual 103, 3) := by decide +kernel
theorem dX6_change_23 : decode cX6_change 23 = .ok (.ifnonnull 14, 3) := by decide +kernel
theorem dX6_change_26 : decode cX6_change 26 = .ok (.new 111, 3) := by decide +kernel
theorem dX6_change_29 : decode cX6_change 29 = .ok (.dup, 1) := by decide +kernel
theorem dX6_change_30 : decode cX6_change 30 = .ok (.ldc_w 304, 3) := by decide +kernel
theorem dX6_change_33 : decode cX6_change 33 = .ok (.invokespecial 115, 3) := by decide +kernel
theorem dX6_change_36 : decode cX6_change 36 = .ok (.athrow, 1) := by decide +kernel
theorem dX6_change_37 : decode cX6_change 37 = .ok (.iload_n 2, 1) := by decide +kernel
theorem dX6_change_38 : decode cX6_change 38 = .ok (.iconst (-1), 1) := by decide +kernel
theorem dX6_change_39 : decode cX6_change 39 = .ok (.if_icmp .eq 8, 3) := by decide +kernel
theorem dX6_change_42 : decode cX6_change 42 = .ok (.aload_n 3, 1) := by decide +kernel
theorem dX6_change_43 : decode cX6_change 43 = .ok (.iload_n 2, 1) := by decide +kernel
theorem dX6_change_44 : decode cX6_change 44 = .ok (.putfield 306, 3) := by decide +kernel
theorem dX6_change_47 : decode cX6_change 47 = .ok (.aload_n 3, 1) := by decide +kernel
theorem dX6_change_48 : decode cX6_change 48 = .ok (.dup, 1) := by decide +kernel
theorem dX6_change_49 : decode cX6_change 49 = .ok (.getfield 309, 3) := by decide +kernel
theorem dX6_change_52 : decode cX6_change 52 = .ok (.iconst 1, 1) := by decide +kernel
theorem dX6_change_53 : decode cX6_change 53 = .ok (.iadd, 1) := by decide +kernel
theorem dX6_change_54 : decode cX6_change 54 = .ok (.putfield 309, 3) := by decide +kernel
theorem dX6_change_57 : decode cX6_change 57 = .ok (.aload_n 3, 1) := by decide +kernel
theorem dX6_change_58 : decode cX6_change 58 = .ok (.getfield 309, 3) := by decide +kernel
theorem dX6_change_61 : decode cX6_change 61 = .ok (.ireturn, 1) := by decide +kernel
theorem dX6_stale_0 : decode cX6_stale 0 = .ok (.iconst 0, 1) := by decide +kernel
theorem dX6_stale_1 : decode cX6_stale 1 = .ok (.istore_n 1, 1) := by decide +kernel
theorem dX6_stale_2 : decode cX6_stale 2 = .ok (.iconst 0, 1) := by decide +kernel
theorem dX6_stale_3 : decode cX6_stale 3 = .ok (.istore_n 2, 1) := by decide +kernel
theorem dX6_stale_4 : decode cX6_stale 4 = .ok (.iload_n 2, 1) := by decide +kernel
theorem dX6_stale_5 : decode cX6_stale 5 = .ok (.aload_n 0, 1) := by decide +kernel
theorem dX6_stale_6 : decode cX6_stale 6 = .ok (.getfield 292, 3) := by decide +kernel
theorem dX6_stale_9 : decode cX6_stale 9 = .ok (.if_icmp .ge 33, 3) := by decide +kernel
theorem dX6_stale_12 : decode cX6_stale 12 = .ok (.aload_n 0, 1) := by decide +kernel
theorem dX6_stale_13 : decode cX6_stale 13 = .ok (.iload_n 2, 1) := by decide +kernel
theorem dX6_stale_14 : decode cX6_stale 14 = .ok (.invokevirtual 300, 3) := by decide +kernel
theorem dX6_stale_17 : decode cX6_stale 17 = .ok (.astore_n 3, 1) := by decide +kernel
theorem dX6_stale_18 : decode cX6_stale 18 = .ok (.aload_n 3, 1) := by decide +kernel
theorem dX6_stale_19 : decode cX6_stale 19 = .ok (.ifnull 17, 3) := by decide +kernel
theorem dX6_stale_22 : decode cX6_stale 22 = .ok (.aload_n 0, 1) := by decide +kernel
theorem dX6_stale_23 : decode cX6_stale 23 = .ok (.aload_n 3, 1) := by decide +kernel
theorem dX6_stale_24 : decode cX6_stale 24 = .ok (.invokevirtual 312, 3) := by decide +kernel
theorem dX6_stale_27 : decode cX6_stale 27 = .ok (.ifCond .eq 9, 3) := by decide +kernel
theorem dX6_stale_30 : decode cX6_stale 30 = .ok (.iload_n 1, 1) := by decide +kernel
theorem dX6_stale_31 : decode cX6_stale 31 = .ok (.iconst 1, 1) := by decide +kernel
theorem dX6_stale_32 : decode cX6_stale 32 = .ok (.iload_n 2, 1) := by decide +kernel
theorem dX6_stale_33 : decode cX6_stale 33 = .ok (.ishl, 1) := by decide +kernel
theorem dX6_stale_34 : decode cX6_stale 34 = .ok (.ior, 1) := by decide +kernel
theorem dX6_stale_35 : decode cX6_stale 35 = .ok (.istore_n 1, 1) := by decide +kernel
theorem dX6_stale_36 : decode cX6_stale 36 = .ok (.iinc 2 1, 3) := by decide +kernel
theorem dX6_stale_39 : decode cX6_stale 39 = .ok (.goto (-35), 3) := by decide +kernel
theorem dX6_stale_42 : decode cX6_stale 42 = .ok (.iload_n 1, 1) := by decide +kernel
theorem dX6_stale_43 : decode cX6_stale 43 = .ok (.ireturn, 1) := by decide +kernel
theorem dX6_build_0 : decode cX6_build 0 = .ok (.iconst 0, 1) := by decide +kernel
theorem dX6_build_1 : decode cX6_build 1 = .ok (.istore_n 1, 1) := by decide +kernel
theorem dX6_build_2 : decode cX6_build 2 = .ok (.iconst 0, 1) := by decide +kernel
theorem dX6_build_3 : decode cX6_build 3 = .ok (.istore_n 2, 1) := by decide +kernel
theorem dX6_build_4 : decode cX6_build 4 = .ok (.iload_n 2, 1) := by decide +kernel
theorem dX6_build_5 : decode cX6_build 5 = .ok (.aload_n 0, 1) := by decide +kernel
theorem dX6_build_6 : decode cX6_build 6 = .ok (.getfield 292, 3) := by decide +kernel
theorem dX6_build_9 : decode cX6_build 9 = .ok (.if_icmp .ge 35, 3) := by decide +kernel
theorem dX6_build_12 : decode cX6_build 12 = .ok (.aload_n 0, 1) := by decide +kernel
theorem dX6_build_13 : decode cX6_build 13 = .ok (.iload_n 2, 1) := by decide +kernel
theorem dX6_build_14 : decode cX6_build 14 = .ok (.invokevirtual 300, 3) := by decide +kernel
theorem dX6_build_17 : decode cX6_build 17 = .ok (.astore_n 3, 1) := by decide +kernel
theorem dX6_build_18 : decode cX6_build 18 = .ok (.aload_n 3, 1) := by decide +kernel
theorem dX6_build_19 : decode cX6_build 19 = .ok (.ifnull 19, 3) := by decide +kernel
theorem dX6_build_22 : decode cX6_build 22 = .ok (.aload_n 0, 1) := by decide +kernel
theorem dX6_build_23 : decode cX6_build 23 = .ok (.aload_n 3, 1) := by decide +kernel
theorem dX6_build_24 : decode cX6_build 24 = .ok (.invokevirtual 312, 3) := by decide +kernel
theorem dX6_build_27 : decode cX6_build 27 = .ok (.ifCond .eq 11, 3) := by decide +kernel
theorem dX6_build_30 : decode cX6_build 30 = .ok (.aload_n 0, 1) := by decide +kernel
theorem dX6_build_31 : decode cX6_build 31 = .ok (.aload_n 3, 1) := by decide +kernel
theorem dX6_build_32 : decode cX6_build 32 = .ok (.invokevirtual 316, 3) := by decide +kernel
theorem dX6_build_35 : decode cX6_build 35 = .ok (.iinc 1 1, 3) := by decide +kernel
theorem dX6_build_38 : decode cX6_build 38 = .ok (.iinc 2 1, 3) := by decide +kernel
theorem dX6_build_41 : decode cX6_build 41 = .ok (.goto (-37), 3) := by decide +kernel
theorem dX6_build_44 : decode cX6_build 44 = .ok (.iload_n 1, 1) := by decide +kernel
theorem dX6_build_45 : decode cX6_build 45 = .ok (.ireturn, 1) := by decide +kernel
theorem dX6_unitAt_0 : decode cX6_unitAt 0 = .ok (.iload_n 1, 1) := by decide +kernel
theorem dX6_unitAt_1 : decode cX6_unitAt 1 = .ok (.ifCond .lt 21, 3) := by decide +kernel
theorem dX6_unitAt_4 : decode cX6_unitAt 4 = .ok (.iload_n 1, 1) := by decide +kernel
theorem dX6_unitAt_5 : decode cX6_unitAt 5 = .ok (.aload_n 0, 1) := by decide +kernel
theorem dX6_unitAt_6 : decode cX6_unitAt 6 = .ok (.getfield 55, 3) := by decide +kernel
theorem dX6_unitAt_9 : decode cX6_unitAt 9 = .ok (.arraylength, 1) := by decide +kernel
theorem dX6_unitAt_10 : decode cX6_unitAt 10 = .ok (.if_icmp .ge 12, 3) := by decide +kernel
theorem dX6_unitAt_13 : decode cX6_unitAt 13 = .ok (.aload_n 0, 1) := by decide +kernel
theorem dX6_unitAt_14 : decode cX6_unitAt 14 = .ok (.getfield 55, 3) := by decide +kernel
theorem dX6_unitAt_17 : decode cX6_unitAt 17 = .ok (.iload_n 1, 1) := by decide +kernel
theorem dX6_unitAt_18 : decode cX6_unitAt 18 = .ok (.aaload, 1) := by decide +kernel
theorem dX6_unitAt_19 : decode cX6_unitAt 19 = .ok (.goto 4, 3) := by decide +kernel
theorem dX6_unitAt_22 : decode cX6_unitAt 22 = .ok (.aconst_null, 1) := by decide +kernel
theorem dX6_unitAt_23 : decode cX6_unitAt 23 = .ok (.areturn, 1) := by decide +kernel
theorem dX6_isStale_0 : decode cX6_isStale 0 = .ok (.aload_n 1, 1) := by decide +kernel
theorem dX6_isStale_1 : decode cX6_isStale 1 = .ok (.getfield 320, 3) := by decide +kernel
theorem dX6_isStale_4 : decode cX6_isStale 4 = .ok (.aload_n 1, 1) := by decide +kernel
theorem dX6_isStale_5 : decode cX6_isStale 5 = .ok (.getfield 309, 3) := by decide +kernel
theorem dX6_isStale_8 : decode cX6_isStale 8 = .ok (.if_icmp .eq 5, 3) := by decide +kernel
theorem dX6_isStale_11 : decode cX6_isStale 11 = .ok (.iconst 1, 1) := by decide +kernel
theorem dX6_isStale_12 : decode cX6_isStale 12 = .ok (.ireturn, 1) := by decide +kernel
theorem dX6_isStale_13 : decode cX6_isStale 13 = .ok (.iconst 0, 1) := by decide +kernel
theorem dX6_isStale_14 : decode cX6_isStale 14 = .ok (.istore_n 2, 1) := by decide +kernel
theorem dX6_isStale_15 : decode cX6_isStale 15 = .ok (.iload_n 2, 1) := by decide +kernel
theorem dX6_isStale_16 : decode cX6_isStale 16 = .ok (.aload_n 0, 1) := by decide +kernel
theorem dX6_isStale_17 : decode cX6_isStale 17 = .ok (.getfield 292, 3) := by decide +kernel
theorem dX6_isStale_20 : decode cX6_isStale 20 = .ok (.if_icmp .ge 65, 3) := by decide +kernel
theorem dX6_isStale_23 : decode cX6_isStale 23 = .ok (.aload_n 0, 1) := by decide +kernel
theorem dX6_isStale_24 : decode cX6_isStale 24 = .ok (.iload_n 2, 1) := by decide +kernel
theorem dX6_isStale_25 : decode cX6_isStale 25 = .ok (.invokevirtual 300, 3) := by decide +kernel
theorem dX6_isStale_28 : decode cX6_isStale 28 = .ok (.astore_n 3, 1) := by decide +kernel
theorem dX6_isStale_29 : decode cX6_isStale 29 = .ok (.aload_n 3, 1) := by decide +kernel
theorem dX6_isStale_30 : decode cX6_isStale 30 = .ok (.ifnull 49, 3) := by decide +kernel
theorem dX6_isStale_33 : decode cX6_isStale 33 = .ok (.aload_n 1, 1) := by decide +kernel
theorem dX6_isStale_34 : decode cX6_isStale 34 = .ok (.iload_n 2, 1) := by decide +kernel
theorem dX6_isStale_35 : decode cX6_isStale 35 = .ok (.invokevirtual 323, 3) := by decide +kernel
theorem dX6_isStale_38 : decode cX6_isStale 38 = .ok (.ifCond .eq 41, 3) := by decide +kernel
theorem dX6_isStale_41 : decode cX6_isStale 41 = .ok (.aload_n 0, 1) := by decide +kernel
theorem dX6_isStale_42 : decode cX6_isStale 42 = .ok (.aload_n 3, 1) := by decide +kernel
theorem dX6_isStale_43 : decode cX6_isStale 43 = .ok (.getfield 306, 3) := by decide +kernel
theorem dX6_isStale_46 : decode cX6_isStale 46 = .ok (.aload_n 1, 1) := by decide +kernel
theorem dX6_isStale_47 : decode cX6_isStale 47 = .ok (.iload_n 2, 1) := by decide +kernel
theorem dX6_isStale_48 : decode cX6_isStale 48 = .ok (.invokevirtual 326, 3) := by decide +kernel
theorem dX6_isStale_51 : decode cX6_isStale 51 = .ok (.iconst 0, 1) := by decide +kernel
theorem dX6_isStale_52 : decode cX6_isStale 52 = .ok (.invokevirtual 191, 3) := by decide +kernel
theorem dX6_isStale_55 : decode cX6_isStale 55 = .ok (.ifCond .eq 22, 3) := by decide +kernel
theorem dX6_isStale_58 : decode cX6_isStale 58 = .ok (.aload_n 3, 1) := by decide +kernel
theorem dX6_isStale_59 : decode cX6_isStale 59 = .ok (.getfield 329, 3) := by decide +kernel
theorem dX6_isStale_62 : decode cX6_isStale 62 = .ok (.ifCond .eq 17, 3) := by decide +kernel
theorem dX6_isStale_65 : decode cX6_isStale 65 = .ok (.aload_n 3, 1) := by decide +kernel
theorem dX6_isStale_66 : decode cX6_isStale 66 = .ok (.getfield 309, 3) := by decide +kernel
theorem dX6_isStale_69 : decode cX6_isStale 69 = .ok (.aload_n 1, 1) := by decide +kernel
theorem dX6_isStale_70 : decode cX6_isStale 70 = .ok (.iload_n 2, 1) := by decide +kernel
theorem dX6_isStale_71 : decode cX6_isStale 71 = .ok (.invokevirtual 333, 3) := by decide +kernel
theorem dX6_isStale_74 : decode cX6_isStale 74 = .ok (.if_icmp .eq 5, 3) := by decide +kernel
theorem dX6_isStale_77 : decode cX6_isStale 77 = .ok (.iconst 1, 1) := by decide +kernel
theorem dX6_isStale_78 : decode cX6_isStale 78 = .ok (.ireturn, 1) := by decide +kernel
theorem dX6_isStale_79 : decode cX6_isStale 79 = .ok (.iinc 2 1, 3) := by decide +kernel
theorem dX6_isStale_82 : decode cX6_isStale 82 = .ok (.goto (-67), 3) := by decide +kernel
theorem dX6_isStale_85 : decode cX6_isStale 85 = .ok (.iconst 0, 1) := by decide +kernel
theorem dX6_isStale_86 : decode cX6_isStale 86 = .ok (.ireturn, 1) := by decide +kernel
theorem dX6_noteAllUsed_0 : decode cX6_noteAllUsed 0 = .ok (.aload_n 1, 1) := by decide +kernel
theorem dX6_noteAllUsed_1 : decode cX6_noteAllUsed 1 = .ok (.aload_n 1, 1) := by decide +kernel
theorem dX6_noteAllUsed_2 : decode cX6_noteAllUsed 2 = .ok (.getfield 309, 3) := by decide +kernel
theorem dX6_noteAllUsed_5 : decode cX6_noteAllUsed 5 = .ok (.putfield 320, 3) := by decide +kernel
theorem dX6_noteAllUsed_8 : decode cX6_noteAllUsed 8 = .ok (.iconst 0, 1) := by decide +kernel
theorem dX6_noteAllUsed_9 : decode cX6_noteAllUsed 9 = .ok (.istore_n 2, 1) := by decide +kernel
theorem dX6_noteAllUsed_10 : decode cX6_noteAllUsed 10 = .ok (.iload_n 2, 1) := by decide +kernel
theorem dX6_noteAllUsed_11 : decode cX6_noteAllUsed 11 = .ok (.aload_n 0, 1) := by decide +kernel
theorem dX6_noteAllUsed_12 : decode cX6_noteAllUsed 12 = .ok (.getfield 292, 3) := by decide +kernel
theorem dX6_noteAllUsed_15 : decode cX6_noteAllUsed 15 = .ok (.if_icmp .ge 40, 3) := by decide +kernel
theorem dX6_noteAllUsed_18 : decode cX6_noteAllUsed 18 = .ok (.aload_n 0, 1) := by decide +kernel
theorem dX6_noteAllUsed_19 : decode cX6_noteAllUsed 19 = .ok (.iload_n 2, 1) := by decide +kernel
theorem dX6_noteAllUsed_20 : decode cX6_noteAllUsed 20 = .ok (.invokevirtual 300, 3) := by decide +kernel
theorem dX6_noteAllUsed_23 : decode cX6_noteAllUsed 23 = .ok (.astore_n 3, 1) := by decide +kernel
theorem dX6_noteAllUsed_24 : decode cX6_noteAllUsed 24 = .ok (.aload_n 3, 1) := by decide +kernel
theorem dX6_noteAllUsed_25 : decode cX6_noteAllUsed 25 = .ok (.ifnull 24, 3) := by decide +kernel
theorem dX6_noteAllUsed_28 : decode cX6_noteAllUsed 28 = .ok (.aload_n 1, 1) := by decide +kernel
theorem dX6_noteAllUsed_29 : decode cX6_noteAllUsed 29 = .ok (.iload_n 2, 1) := by decide +kernel
theorem dX6_noteAllUsed_30 : decode cX6_noteAllUsed 30 = .ok (.invokevirtual 323, 3) := by decide +kernel
theorem dX6_noteAllUsed_33 : decode cX6_noteAllUsed 33 = .ok (.ifCond .eq 16, 3) := by decide +kernel
theorem dX6_noteAllUsed_36 : decode cX6_noteAllUsed 36 = .ok (.aload_n 1, 1) := by decide +kernel
theorem dX6_noteAllUsed_37 : decode cX6_noteAllUsed 37 = .ok (.iload_n 2, 1) := by decide +kernel
theorem dX6_noteAllUsed_38 : decode cX6_noteAllUsed 38 = .ok (.aload_n 3, 1) := by decide +kernel
theorem dX6_noteAllUsed_39 : decode cX6_noteAllUsed 39 = .ok (.getfield 306, 3) := by decide +kernel
theorem dX6_noteAllUsed_42 : decode cX6_noteAllUsed 42 = .ok (.aload_n 3, 1) := by decide +kernel
theorem dX6_noteAllUsed_43 : decode cX6_noteAllUsed 43 = .ok (.getfield 309, 3) := by decide +kernel
theorem dX6_noteAllUsed_46 : decode cX6_noteAllUsed 46 = .ok (.invokevirtual 336, 3) := by decide +kernel
theorem dX6_noteAllUsed_49 : decode cX6_noteAllUsed 49 = .ok (.iinc 2 1, 3) := by decide +kernel
theorem dX6_noteAllUsed_52 : decode cX6_noteAllUsed 52 = .ok (.goto (-42), 3) := by decide +kernel
theorem dX6_noteAllUsed_55 : decode cX6_noteAllUsed 55 = .ok (.return_, 1) := by decide +kernel
theorem dX6_needType_0 : decode cX6_needType 0 = .ok (.aload_n 0, 1) := by decide +kernel
theorem dX6_needType_1 : decode cX6_needType 1 = .ok (.getfield 12, 3) := by decide +kernel
theorem dX6_needType_4 : decode cX6_needType 4 = .ok (.iload_n 1, 1) := by decide +kernel
theorem dX6_needType_5 : decode cX6_needType 5 = .ok (.invokevirtual 338, 3) := by decide +kernel
theorem dX6_needType_8 : decode cX6_needType 8 = .ok (.ifCond .ne 14, 3) := by decide +kernel
theorem dX6_needType_11 : decode cX6_needType 11 = .ok (.new 111, 3) := by decide +kernel
theorem dX6_needType_14 : decode cX6_needType 14 = .ok (.dup, 1) := by decide +kernel
theorem dX6_needType_15 : decode cX6_needType 15 = .ok (.ldc_w 341, 3) := by decide +kernel
theorem dX6_needType_18 : decode cX6_needType 18 = .ok (.invokespecial 115, 3) := by decide +kernel
theorem dX6_needType_21 : decode cX6_needType 21 = .ok (.athrow, 1) := by decide +kernel
theorem dX6_needType_22 : decode cX6_needType 22 = .ok (.return_, 1) := by decide +kernel
theorem dX6_needRow_0 : decode cX6_needRow 0 = .ok (.aload_n 0, 1) := by decide +kernel
theorem dX6_needRow_1 : decode cX6_needRow 1 = .ok (.ifnonnull 14, 3) := by decide +kernel
theorem dX6_needRow_4 : decode cX6_needRow 4 = .ok (.new 111, 3) := by decide +kernel
theorem dX6_needRow_7 : decode cX6_needRow 7 = .ok (.dup, 1) := by decide +kernel
theorem dX6_needRow_8 : decode cX6_needRow 8 = .ok (.ldc_w 343, 3) := by decide +kernel
theorem dX6_needRow_11 : decode cX6_needRow 11 = .ok (.invokespecial 115, 3) := by decide +kernel
theorem dX6_needRow_14 : decode cX6_needRow 14 = .ok (.athrow, 1) := by decide +kernel
theorem dX6_needRow_15 : decode cX6_needRow 15 = .ok (.return_, 1) := by decide +kernel
theorem dX6_needTold_0 : decode cX6_needTold 0 = .ok (.iload_n 2, 1) := by decide +kernel
theorem dX6_needTold_1 : decode cX6_needTold 1 = .ok (.ifCond .ge 23, 3) := by decide +kernel
theorem dX6_needTold_4 : decode cX6_needTold 4 = .ok (.aload_n 1, 1) := by decide +kernel
theorem dX6_needTold_5 : decode cX6_needTold 5 = .ok (.iconst 0, 1) := by decide +kernel
theorem dX6_needTold_6 : decode cX6_needTold 6 = .ok (.iconst (-1), 1) := by decide +kernel
theorem dX6_needTold_7 : decode cX6_needTold 7 = .ok (.iload_n 2, 1) := by decide +kernel
theorem dX6_needTold_8 : decode cX6_needTold 8 = .ok (.isub, 1) := by decide +kernel
theorem dX6_needTold_9 : decode cX6_needTold 9 = .ok (.invokevirtual 131, 3) := by decide +kernel
theorem dX6_needTold_12 : decode cX6_needTold 12 = .ok (.iconst (-1), 1) := by decide +kernel
theorem dX6_needTold_13 : decode cX6_needTold 13 = .ok (.if_icmp .eq 7, 3) := by decide +kernel
theorem dX6_needTold_16 : decode cX6_needTold 16 = .ok (.iconst 1, 1) := by decide +kernel
theorem dX6_needTold_17 : decode cX6_needTold 17 = .ok (.goto 15, 3) := by decide +kernel
theorem dX6_needTold_20 : decode cX6_needTold 20 = .ok (.iconst 0, 1) := by decide +kernel
theorem dX6_needTold_21 : decode cX6_needTold 21 = .ok (.goto 11, 3) := by decide +kernel
theorem dX6_needTold_24 : decode cX6_needTold 24 = .ok (.aload_n 0, 1) := by decide +kernel
theorem dX6_needTold_25 : decode cX6_needTold 25 = .ok (.getfield 12, 3) := by decide +kernel
theorem dX6_needTold_28 : decode cX6_needTold 28 = .ok (.iload_n 2, 1) := by decide +kernel
theorem dX6_needTold_29 : decode cX6_needTold 29 = .ok (.invokevirtual 338, 3) := by decide +kernel
theorem dX6_needTold_32 : decode cX6_needTold 32 = .ok (.istore_n 3, 1) := by decide +kernel
theorem dX6_needTold_33 : decode cX6_needTold 33 = .ok (.iload_n 3, 1) := by decide +kernel
theorem dX6_needTold_34 : decode cX6_needTold 34 = .ok (.ifCond .ne 14, 3) := by decide +kernel
theorem dX6_needTold_37 : decode cX6_needTold 37 = .ok (.new 111, 3) := by decide +kernel
theorem dX6_needTold_40 : decode cX6_needTold 40 = .ok (.dup, 1) := by decide +kernel
theorem dX6_needTold_41 : decode cX6_needTold 41 = .ok (.ldc_w 345, 3) := by decide +kernel
theorem dX6_needTold_44 : decode cX6_needTold 44 = .ok (.invokespecial 115, 3) := by decide +kernel
theorem dX6_needTold_47 : decode cX6_needTold 47 = .ok (.athrow, 1) := by decide +kernel
theorem dX6_needTold_48 : decode cX6_needTold 48 = .ok (.return_, 1) := by decide +kernel
theorem dX6_needName_0 : decode cX6_needName 0 = .ok (.iload_n 0, 1) := by decide +kernel
theorem dX6_needName_1 : decode cX6_needName 1 = .ok (.ifCond .lt 9, 3) := by decide +kernel
theorem dX6_needName_4 : decode cX6_needName 4 = .ok (.iload_n 0, 1) := by decide +kernel
theorem dX6_needName_5 : decode cX6_needName 5 = .ok (.bipush 10, 2) := by decide +kernel
theorem dX6_needName_7 : decode cX6_needName 7 = .ok (.if_icmp .lt 14, 3) := by decide +kernel
theorem dX6_needName_10 : decode cX6_needName 10 = .ok (.new 84, 3) := by decide +kernel
theorem dX6_needName_13 : decode cX6_needName 13 = .ok (.dup, 1) := by decide +kernel
theorem dX6_needName_14 : decode cX6_needName 14 = .ok (.ldc_w 347, 3) := by decide +kernel
theorem dX6_needName_17 : decode cX6_needName 17 = .ok (.invokespecial 88, 3) := by decide +kernel
theorem dX6_needName_20 : decode cX6_needName 20 = .ok (.athrow, 1) := by decide +kernel
theorem dX6_needName_21 : decode cX6_needName 21 = .ok (.return_, 1) := by decide +kernel
theorem dX6_needNumber_0 : decode cX6_needNumber 0 = .ok (.iload_n 0, 1) := by decide +kernel
theorem dX6_needNumber_1 : decode cX6_needNumber 1 = .ok (.sipush (-10000), 3) := by decide +kernel
theorem dX6_needNumber_4 : decode cX6_needNumber 4 = .ok (.if_icmp .lt 10, 3) := by decide +kernel
theorem dX6_needNumber_7 : decode cX6_needNumber 7 = .ok (.iload_n 0, 1) := by decide +kernel
theorem dX6_needNumber_8 : decode cX6_needNumber 8 = .ok (.sipush 10000, 3) := by decide +kernel
theorem dX6_needNumber_11 : decode cX6_needNumber 11 = .ok (.if_icmp .le 14, 3) := by decide +kernel
theorem dX6_needNumber_14 : decode cX6_needNumber 14 = .ok (.new 84, 3) := by decide +kernel
theorem dX6_needNumber_17 : decode cX6_needNumber 17 = .ok (.dup, 1) := by decide +kernel
theorem dX6_needNumber_18 : decode cX6_needNumber 18 = .ok (.ldc_w 349, 3) := by decide +kernel
theorem dX6_needNumber_21 : decode cX6_needNumber 21 = .ok (.invokespecial 88, 3) := by decide +kernel
theorem dX6_needNumber_24 : decode cX6_needNumber 24 = .ok (.athrow, 1) := by decide +kernel
theorem dX6_needNumber_25 : decode cX6_needNumber 25 = .ok (.return_, 1) := by decide +kernel
theorem dX6_needPlace_0 : decode cX6_needPlace 0 = .ok (.aload_n 0, 1) := by decide +kernel
theorem dX6_needPlace_1 : decode cX6_needPlace 1 = .ok (.iload_n 1, 1) := by decide +kernel
theorem dX6_needPlace_2 : decode cX6_needPlace 2 = .ok (.iload_n 2, 1) := by decide +kernel
theorem dX6_needPlace_3 : decode cX6_needPlace 3 = .ok (.invokevirtual 131, 3) := by decide +kernel
theorem dX6_needPlace_6 : decode cX6_needPlace 6 = .ok (.iconst (-1), 1) := by decide +kernel
theorem dX6_needPlace_7 : decode cX6_needPlace 7 = .ok (.if_icmp .eq 14, 3) := by decide +kernel
theorem dX6_needPlace_10 : decode cX6_needPlace 10 = .ok (.new 67, 3) := by decide +kernel
theorem dX6_needPlace_13 : decode cX6_needPlace 13 = .ok (.dup, 1) := by decide +kernel
theorem dX6_needPlace_14 : decode cX6_needPlace 14 = .ok (.ldc_w 351, 3) := by decide +kernel
theorem dX6_needPlace_17 : decode cX6_needPlace 17 = .ok (.invokespecial 71, 3) := by decide +kernel
theorem dX6_needPlace_20 : decode cX6_needPlace 20 = .ok (.athrow, 1) := by decide +kernel
theorem dX6_needPlace_21 : decode cX6_needPlace 21 = .ok (.return_, 1) := by decide +kernel
theorem dX6_read_0 : decode cX6_read 0 = .ok (.iload_n 1, 1) := by decide +kernel
theorem dX6_read_1 : decode cX6_read 1 = .ok (.ifCond .lt 15, 3) := by decide +kernel
theorem dX6_read_4 : decode cX6_read 4 = .ok (.iload_n 1, 1) := by decide +kernel
theorem dX6_read_5 : decode cX6_read 5 = .ok (.aload_n 0, 1) := by decide +kernel
theorem dX6_read_6 : decode cX6_read 6 = .ok (.arraylength, 1) := by decide +kernel
theorem dX6_read_7 : decode cX6_read 7 = .ok (.if_icmp .ge 9, 3) := by decide +kernel
theorem dX6_read_10 : decode cX6_read 10 = .ok (.aload_n 0, 1) := by decide +kernel
theorem dX6_read_11 : decode cX6_read 11 = .ok (.iload_n 1, 1) := by decide +kernel
theorem dX6_read_12 : decode cX6_read 12 = .ok (.iaload, 1) := by decide +kernel
theorem dX6_read_13 : decode cX6_read 13 = .ok (.goto 4, 3) := by decide +kernel
theorem dX6_read_16 : decode cX6_read 16 = .ok (.iconst (-1), 1) := by decide +kernel
theorem dX6_read_17 : decode cX6_read 17 = .ok (.ireturn, 1) := by decide +kernel
theorem dX6_write_0 : decode cX6_write 0 = .ok (.iload_n 1, 1) := by decide +kernel
theorem dX6_write_1 : decode cX6_write 1 = .ok (.ifCond .lt 13, 3) := by decide +kernel
theorem dX6_write_4 : decode cX6_write 4 = .ok (.iload_n 1, 1) := by decide +kernel
theorem dX6_write_5 : decode cX6_write 5 = .ok (.aload_n 0, 1) := by decide +kernel
theorem dX6_write_6 : decode cX6_write 6 = .ok (.arraylength, 1) := by decide +kernel
theorem dX6_write_7 : decode cX6_write 7 = .ok (.if_icmp .ge 7, 3) := by decide +kernel
theorem dX6_write_10 : decode cX6_write 10 = .ok (.aload_n 0, 1) := by decide +kernel
theorem dX6_write_11 : decode cX6_write 11 = .ok (.iload_n 1, 1) := by decide +kernel
theorem dX6_write_12 : decode cX6_write 12 = .ok (.iload_n 2, 1) := by decide +kernel
theorem dX6_write_13 : decode cX6_write 13 = .ok (.iastore, 1) := by decide +kernel
theorem dX6_write_14 : decode cX6_write 14 = .ok (.return_, 1) := by decide +kernel
theorem dX7_init_0 : decode cX7_init 0 = .ok (.aload_n 0, 1) := by decide +kernel
theorem dX7_init_1 : decode cX7_init 1 = .ok (.invokespecial 1, 3) := by decide +kernel
theorem dX7_init_4 : decode cX7_init 4 = .ok (.aload_n 0, 1) := by decide +kernel
theorem dX7_init_5 : decode cX7_init 5 = .ok (.iconst 2, 1) := by decide +kernel
theorem dX7_init_6 : decode cX7_init 6 = .ok (.putfield 7, 3) := by decide +kernel
theorem dX7_init_9 : decode cX7_init 9 = .ok (.aload_n 0, 1) := by decide +kernel
theorem dX7_init_10 : decode cX7_init 10 = .ok (.sipush 400, 3) := by decide +kernel
theorem dX7_init_13 : decode cX7_init 13 = .ok (.newarray .int, 2) := by decide +kernel
theorem dX7_init_15 : decode cX7_init 15 = .ok (.putfield 13, 3) := by decide +kernel
theorem dX7_init_18 : decode cX7_init 18 = .ok (.aload_n 0, 1) := by decide +kernel
theorem dX7_init_19 : decode cX7_init 19 = .ok (.sipush 400, 3) := by decide +kernel
theorem dX7_init_22 : decode cX7_init 22 = .ok (.newarray .int, 2) := by decide +kernel
theorem dX7_init_24 : decode cX7_init 24 = .ok (.putfield 17, 3) := by decide +kernel
theorem dX7_init_27 : decode cX7_init 27 = .ok (.aload_n 0, 1) := by decide +kernel
theorem dX7_init_28 : decode cX7_init 28 = .ok (.sipush 400, 3) := by decide +kernel
theorem dX7_init_31 : decode cX7_init 31 = .ok (.newarray .int, 2) := by decide +kernel
theorem dX7_init_33 : decode cX7_init 33 = .ok (.putfield 20, 3) := by decide +kernel
theorem dX7_init_36 : decode cX7_init 36 = .ok (.aload_n 0, 1) := by decide +kernel
theorem dX7_init_37 : decode cX7_init 37 = .ok (.bipush 101, 2) := by decide +kernel
theorem dX7_init_39 : decode cX7_init 39 = .ok (.newarray .int, 2) := by decide +kernel
theorem dX7_init_41 : decode cX7_init 41 = .ok (.putfield 23, 3) := by decide +kernel
theorem dX7_init_44 : decode cX7_init 44 = .ok (.aload_n 0, 1) := by decide +kernel
theorem dX7_init_45 : decode cX7_init 45 = .ok (.sipush 6060, 3) := by decide +kernel
theorem dX7_init_48 : decode cX7_init 48 = .ok (.newarray .int, 2) := by decide +kernel
theorem dX7_init_50 : decode cX7_init 50 = .ok (.putfield 26, 3) := by decide +kernel
theorem dX7_init_53 : decode cX7_init 53 = .ok (.aload_n 0, 1) := by decide +kernel
theorem dX7_init_54 : decode cX7_init 54 = .ok (.sipush 6060, 3) := by decide +kernel
theorem dX7_init_57 : decode cX7_init 57 = .ok (.newarray .int, 2) := by decide +kernel
theorem dX7_init_59 : decode cX7_init 59 = .ok (.putfield 29, 3) := by decide +kernel
theorem dX7_init_62 : decode cX7_init 62 = .ok (.aload_n 0, 1) := by decide +kernel
theorem dX7_init_63 : decode cX7_init 63 = .ok (.sipush 6060, 3) := by decide +kernel
theorem dX7_init_66 : decode cX7_init 66 = .ok (.newarray .int, 2) := by decide +kernel
theorem dX7_init_68 : decode cX7_init 68 = .ok (.putfield 32, 3) := by decide +kernel
theorem dX7_init_71 : decode cX7_init 71 = .ok (.aload_n 0, 1) := by decide +kernel
theorem dX7_init_72 : decode cX7_init 72 = .ok (.sipush 6060, 3) := by decide +kernel
theorem dX7_init_75 : decode cX7_init 75 = .ok (.newarray .int, 2) := by decide +kernel
theorem dX7_init_77 : decode cX7_init 77 = .ok (.putfield 35, 3) := by decide +kernel
theorem dX7_init_80 : decode cX7_init 80 = .ok (.aload_n 0, 1) := by decide +kernel
theorem dX7_init_81 : decode cX7_init 81 = .ok (.bipush 21, 2) := by decide +kernel
theorem dX7_init_83 : decode cX7_init 83 = .ok (.newarray .int, 2) := by decide +kernel
theorem dX7_init_85 : decode cX7_init 85 = .ok (.putfield 38, 3) := by decide +kernel
theorem dX7_init_88 : decode cX7_init 88 = .ok (.aload_n 0, 1) := by decide +kernel
theorem dX7_init_89 : decode cX7_init 89 = .ok (.bipush 21, 2) := by decide +kernel
theorem dX7_init_91 : decode cX7_init 91 = .ok (.newarray .int, 2) := by decide +kernel
theorem dX7_init_93 : decode cX7_init 93 = .ok (.putfield 41, 3) := by decide +kernel
theorem dX7_init_96 : decode cX7_init 96 = .ok (.aload_n 0, 1) := by decide +kernel
theorem dX7_init_97 : decode cX7_init 97 = .ok (.sipush 1260, 3) := by decide +kernel
theorem dX7_init_100 : decode cX7_init 100 = .ok (.newarray .int, 2) := by decide +kernel
theorem dX7_init_102 : decode cX7_init 102 = .ok (.putfield 44, 3) := by decide +kernel
theorem dX7_init_105 : decode cX7_init 105 = .ok (.aload_n 0, 1) := by decide +kernel
theorem dX7_init_106 : decode cX7_init 106 = .ok (.sipush 1260, 3) := by decide +kernel
theorem dX7_init_109 : decode cX7_init 109 = .ok (.newarray .int, 2) := by decide +kernel
theorem dX7_init_111 : decode cX7_init 111 = .ok (.putfield 47, 3) := by decide +kernel
theorem dX7_init_114 : decode cX7_init 114 = .ok (.aload_n 0, 1) := by decide +kernel
theorem dX7_init_115 : decode cX7_init 115 = .ok (.sipush 1260, 3) := by decide +kernel
theorem dX7_init_118 : decode cX7_init 118 = .ok (.newarray .int, 2) := by decide +kernel
theorem dX7_init_120 : decode cX7_init 120 = .ok (.putfield 50, 3) := by decide +kernel
theorem dX7_init_123 : decode cX7_init 123 = .ok (.aload_n 0, 1) := by decide +kernel
theorem dX7_init_124 : decode cX7_init 124 = .ok (.sipush 1260, 3) := by decide +kernel
theorem dX7_init_127 : decode cX7_init 127 = .ok (.newarray .int, 2) := by decide +kernel
theorem dX7_init_129 : decode cX7_init 129 = .ok (.putfield 53, 3) := by decide +kernel
theorem dX7_init_132 : decode cX7_init 132 = .ok (.aload_n 0, 1) := by decide +kernel
theorem dX7_init_133 : decode cX7_init 133 = .ok (.bipush 9, 2) := by decide +kernel
theorem dX7_init_135 : decode cX7_init 135 = .ok (.newarray .int, 2) := by decide +kernel
theorem dX7_init_137 : decode cX7_init 137 = .ok (.putfield 56, 3) := by decide +kernel
theorem dX7_init_140 : decode cX7_init 140 = .ok (.aload_n 0, 1) := by decide +kernel
theorem dX7_init_141 : decode cX7_init 141 = .ok (.sipush 180, 3) := by decide +kernel
theorem dX7_init_144 : decode cX7_init 144 = .ok (.newarray .int, 2) := by decide +kernel
theorem dX7_init_146 : decode cX7_init 146 = .ok (.putfield 59, 3) := by decide +kernel
theorem dX7_init_149 : decode cX7_init 149 = .ok (.aload_n 0, 1) := by decide +kernel
theorem dX7_init_150 : decode cX7_init 150 = .ok (.sipush 180, 3) := by decide +kernel
theorem dX7_init_153 : decode cX7_init 153 = .ok (.newarray .int, 2) := by decide +kernel
theorem dX7_init_155 : decode cX7_init 155 = .ok (.putfield 62, 3) := by decide +kernel
theorem dX7_init_158 : decode cX7_init 158 = .ok (.aload_n 0, 1) := by decide +kernel
theorem dX7_init_159 : decode cX7_init 159 = .ok (.sipush 180, 3) := by decide +kernel
theorem dX7_init_162 : decode cX7_init 162 = .ok (.newarray .int, 2) := by decide +kernel
theorem dX7_init_164 : decode cX7_init 164 = .ok (.putfield 65, 3) := by decide +kernel
theorem dX7_init_167 : decode cX7_init 167 = .ok (.aload_n 0, 1) := by decide +kernel
theorem dX7_init_168 : decode cX7_init 168 = .ok (.sipush 180, 3) := by decide +kernel
theorem dX7_init_171 : decode cX7_init 171 = .ok (.newarray .int, 2) := by decide +kernel
theorem dX7_init_173 : decode cX7_init 173 = .ok (.putfield 68, 3) := by decide +kernel
theorem dX7_init_176 : decode cX7_init 176 = .ok (.aload_n 0, 1) := by decide +kernel
theorem dX7_init_177 : decode cX7_init 177 = .ok (.sipush 180, 3) := by decide +kernel
theorem dX7_init_180 : decode cX7_init 180 = .ok (.newarray .int, 2) := by decide +kernel
theorem dX7_init_182 : decode cX7_init 182 = .ok (.putfield 71, 3) := by decide +kernel
theorem dX7_init_185 : decode cX7_init 185 = .ok (.aload_n 0, 1) := by decide +kernel
theorem dX7_init_186 : decode cX7_init 186 = .ok (.sipush 180, 3) := by decide +kernel
theorem dX7_init_189 : decode cX7_init 189 = .ok (.newarray .int, 2) := by decide +kernel
theorem dX7_init_191 : decode cX7_init 191 = .ok (.putfield 74, 3) := by decide +kernel
theorem dX7_init_194 : decode cX7_init 194 = .ok (.aload_n 0, 1) := by decide +kernel
theorem dX7_init_195 : decode cX7_init 195 = .ok (.bipush 8, 2) := by decide +kernel
theorem dX7_init_197 : decode cX7_init 197 = .ok (.newarray .int, 2) := by decide +kernel
theorem dX7_init_199 : decode cX7_init 199 = .ok (.putfield 77, 3) := by decide +kernel
theorem dX7_init_202 : decode cX7_init 202 = .ok (.aload_n 0, 1) := by decide +kernel
theorem dX7_init_203 : decode cX7_init 203 = .ok (.bipush 8, 2) := by decide +kernel
theorem dX7_init_205 : decode cX7_init 205 = .ok (.newarray .int, 2) := by decide +kernel
theorem dX7_init_207 : decode cX7_init 207 = .ok (.putfield 80, 3) := by decide +kernel
theorem dX7_init_210 : decode cX7_init 210 = .ok (.aload_n 0, 1) := by decide +kernel
theorem dX7_init_211 : decode cX7_init 211 = .ok (.bipush 8, 2) := by decide +kernel
theorem dX7_init_213 : decode cX7_init 213 = .ok (.newarray .boolean, 2) := by decide +kernel
theorem dX7_init_215 : decode cX7_init 215 = .ok (.putfield 83, 3) := by decide +kernel
theorem dX7_init_218 : decode cX7_init 218 = .ok (.aload_n 0, 1) := by decide +kernel
theorem dX7_init_219 : decode cX7_init 219 = .ok (.sipush 240, 3) := by decide +kernel
theorem dX7_init_222 : decode cX7_init 222 = .ok (.newarray .int, 2) := by decide +kernel
theorem dX7_init_224 : decode cX7_init 224 = .ok (.putfield 87, 3) := by decide +kernel
theorem dX7_init_227 : decode cX7_init 227 = .ok (.aload_n 0, 1) := by decide +kernel
theorem dX7_init_228 : decode cX7_init 228 = .ok (.bipush 10, 2) := by decide +kernel
theorem dX7_init_230 : decode cX7_init 230 = .ok (.newarray .int, 2) := by decide +kernel
theorem dX7_init_232 : decode cX7_init 232 = .ok (.putfield 90, 3) := by decide +kernel
theorem dX7_init_235 : decode cX7_init 235 = .ok (.aload_n 0, 1) := by decide +kernel
theorem dX7_init_236 : decode cX7_init 236 = .ok (.bipush 10, 2) := by decide +kernel
theorem dX7_init_238 : decode cX7_init 238 = .ok (.newarray .int, 2) := by decide +kernel
theorem dX7_init_240 : decode cX7_init 240 = .ok (.putfield 93, 3) := by decide +kernel
theorem dX7_init_243 : decode cX7_init 243 = .ok (.aload_n 0, 1) := by decide +kernel
theorem dX7_init_244 : decode cX7_init 244 = .ok (.bipush 8, 2) := by decide +kernel
theorem dX7_init_246 : decode cX7_init 246 = .ok (.newarray .int, 2) := by decide +kernel
theorem dX7_init_248 : decode cX7_init 248 = .ok (.putfield 96, 3) := by decide +kernel
theorem dX7_init_251 : decode cX7_init 251 = .ok (.aload_n 0, 1) := by decide +kernel
theorem dX7_init_252 : decode cX7_init 252 = .ok (.bipush 8, 2) := by decide +kernel
theorem dX7_init_254 : decode cX7_init 254 = .ok (.newarray .int, 2) := by decide +kernel
theorem dX7_init_256 : decode cX7_init 256 = .ok (.putfield 99, 3) := by decide +kernel
theorem dX7_init_259 : decode cX7_init 259 = .ok (.aload_n 0, 1) := by decide +kernel
theorem dX7_init_260 : decode cX7_init 260 = .ok (.bipush 8, 2) := by decide +kernel
theorem dX7_init_262 : decode cX7_init 262 = .ok (.newarray .boolean, 2) := by decide +kernel
theorem dX7_init_264 : decode cX7_init 264 = .ok (.putfield 102, 3) := by decide +kernel
theorem dX7_init_267 : decode cX7_init 267 = .ok (.aload_n 0, 1) := by decide +kernel
theorem dX7_init_268 : decode cX7_init 268 = .ok (.bipush 8, 2) := by decide +kernel
theorem dX7_init_270 : decode cX7_init 270 = .ok (.newarray .int, 2) := by decide +kernel
theorem dX7_init_272 : decode cX7_init 272 = .ok (.putfield 105, 3) := by decide +kernel
theorem dX7_init_275 : decode cX7_init 275 = .ok (.aload_n 0, 1) := by decide +kernel
theorem dX7_init_276 : decode cX7_init 276 = .ok (.bipush 8, 2) := by decide +kernel
theorem dX7_init_278 : decode cX7_init 278 = .ok (.newarray .boolean, 2) := by decide +kernel
theorem dX7_init_280 : decode cX7_init 280 = .ok (.putfield 108, 3) := by decide +kernel
theorem dX7_init_283 : decode cX7_init 283 = .ok (.aload_n 0, 1) := by decide +kernel
theorem dX7_init_284 : decode cX7_init 284 = .ok (.bipush 8, 2) := by decide +kernel
theorem dX7_init_286 : decode cX7_init 286 = .ok (.newarray .int, 2) := by decide +kernel
theorem dX7_init_288 : decode cX7_init 288 = .ok (.putfield 111, 3) := by decide +kernel
theorem dX7_init_291 : decode cX7_init 291 = .ok (.aload_n 0, 1) := by decide +kernel
theorem dX7_init_292 : decode cX7_init 292 = .ok (.bipush 64, 2) := by decide +kernel
theorem dX7_init_294 : decode cX7_init 294 = .ok (.newarray .int, 2) := by decide +kernel
theorem dX7_init_296 : decode cX7_init 296 = .ok (.putfield 114, 3) := by decide +kernel
theorem dX7_init_299 : decode cX7_init 299 = .ok (.aload_n 0, 1) := by decide +kernel
theorem dX7_init_300 : decode cX7_init 300 = .ok (.bipush 64, 2) := by decide +kernel
theorem dX7_init_302 : decode cX7_init 302 = .ok (.newarray .int, 2) := by decide +kernel
theorem dX7_init_304 : decode cX7_init 304 = .ok (.putfield 117, 3) := by decide +kernel
theorem dX7_init_307 : decode cX7_init 307 = .ok (.aload_n 0, 1) := by decide +kernel
theorem dX7_init_308 : decode cX7_init 308 = .ok (.bipush 22, 2) := by decide +kernel
theorem dX7_init_310 : decode cX7_init 310 = .ok (.newarray .int, 2) := by decide +kernel
theorem dX7_init_312 : decode cX7_init 312 = .ok (.putfield 120, 3) := by decide +kernel
theorem dX7_init_315 : decode cX7_init 315 = .ok (.aload_n 0, 1) := by decide +kernel
theorem dX7_init_316 : decode cX7_init 316 = .ok (.bipush 22, 2) := by decide +kernel
theorem dX7_init_318 : decode cX7_init 318 = .ok (.newarray .int, 2) := by decide +kernel
theorem dX7_init_320 : decode cX7_init 320 = .ok (.putfield 123, 3) := by decide +kernel
theorem dX7_init_323 : decode cX7_init 323 = .ok (.aload_n 0, 1) := by decide +kernel
theorem dX7_init_324 : decode cX7_init 324 = .ok (.bipush 22, 2) := by decide +kernel
theorem dX7_init_326 : decode cX7_init 326 = .ok (.newarray .int, 2) := by decide +kernel
theorem dX7_init_328 : decode cX7_init 328 = .ok (.putfield 126, 3) := by decide +kernel
theorem dX7_init_331 : decode cX7_init 331 = .ok (.aload_n 0, 1) := by decide +kernel
theorem dX7_init_332 : decode cX7_init 332 = .ok (.bipush 22, 2) := by decide +kernel
theorem dX7_init_334 : decode cX7_init 334 = .ok (.newarray .int, 2) := by decide +kernel
theorem dX7_init_336 : decode cX7_init 336 = .ok (.putfield 129, 3) := by decide +kernel
theorem dX7_init_339 : decode cX7_init 339 = .ok (.aload_n 0, 1) := by decide +kernel
theorem dX7_init_340 : decode cX7_init 340 = .ok (.sipush 220, 3) := by decide +kernel
theorem dX7_init_343 : decode cX7_init 343 = .ok (.newarray .int, 2) := by decide +kernel
theorem dX7_init_345 : decode cX7_init 345 = .ok (.putfield 132, 3) := by decide +kernel
theorem dX7_init_348 : decode cX7_init 348 = .ok (.aload_n 0, 1) := by decide +kernel
theorem dX7_init_349 : decode cX7_init 349 = .ok (.bipush 22, 2) := by decide +kernel
theorem dX7_init_351 : decode cX7_init 351 = .ok (.newarray .int, 2) := by decide +kernel
theorem dX7_init_353 : decode cX7_init 353 = .ok (.putfield 135, 3) := by decide +kernel
theorem dX7_init_356 : decode cX7_init 356 = .ok (.aload_n 0, 1) := by decide +kernel
theorem dX7_init_357 : decode cX7_init 357 = .ok (.sipush 1320, 3) := by decide +kernel
theorem dX7_init_360 : decode cX7_init 360 = .ok (.newarray .int, 2) := by decide +kernel
theorem dX7_init_362 : decode cX7_init 362 = .ok (.putfield 138, 3) := by decide +kernel
theorem dX7_init_365 : decode cX7_init 365 = .ok (.aload_n 0, 1) := by decide +kernel
theorem dX7_init_366 : decode cX7_init 366 = .ok (.sipush 1320, 3) := by decide +kernel
theorem dX7_init_369 : decode cX7_init 369 = .ok (.newarray .int, 2) := by decide +kernel
theorem dX7_init_371 : decode cX7_init 371 = .ok (.putfield 141, 3) := by decide +kernel
theorem dX7_init_374 : decode cX7_init 374 = .ok (.aload_n 0, 1) := by decide +kernel
theorem dX7_init_375 : decode cX7_init 375 = .ok (.sipush 1320, 3) := by decide +kernel
theorem dX7_init_378 : decode cX7_init 378 = .ok (.newarray .int, 2) := by decide +kernel
theorem dX7_init_380 : decode cX7_init 380 = .ok (.putfield 144, 3) := by decide +kernel
theorem dX7_init_383 : decode cX7_init 383 = .ok (.aload_n 0, 1) := by decide +kernel
theorem dX7_init_384 : decode cX7_init 384 = .ok (.sipush 1320, 3) := by decide +kernel
theorem dX7_init_387 : decode cX7_init 387 = .ok (.newarray .int, 2) := by decide +kernel
theorem dX7_init_389 : decode cX7_init 389 = .ok (.putfield 147, 3) := by decide +kernel
theorem dX7_init_392 : decode cX7_init 392 = .ok (.aload_n 0, 1) := by decide +kernel
theorem dX7_init_393 : decode cX7_init 393 = .ok (.sipush 2000, 3) := by decide +kernel
theorem dX7_init_396 : decode cX7_init 396 = .ok (.newarray .int, 2) := by decide +kernel
theorem dX7_init_398 : decode cX7_init 398 = .ok (.putfield 150, 3) := by decide +kernel
theorem dX7_init_401 : decode cX7_init 401 = .ok (.aload_n 0, 1) := by decide +kernel
theorem dX7_init_402 : decode cX7_init 402 = .ok (.sipush 400, 3) := by decide +kernel
theorem dX7_init_405 : decode cX7_init 405 = .ok (.newarray .boolean, 2) := by decide +kernel
theorem dX7_init_407 : decode cX7_init 407 = .ok (.putfield 153, 3) := by decide +kernel
theorem dX7_init_410 : decode cX7_init 410 = .ok (.iconst 0, 1) := by decide +kernel
theorem dX7_init_411 : decode cX7_init 411 = .ok (.istore_n 1, 1) := by decide +kernel
theorem dX7_init_412 : decode cX7_init 412 = .ok (.iload_n 1, 1) := by decide +kernel
theorem dX7_init_413 : decode cX7_init 413 = .ok (.sipush 240, 3) := by decide +kernel
theorem dX7_init_416 : decode cX7_init 416 = .ok (.if_icmp .ge 16, 3) := by decide +kernel
theorem dX7_init_419 : decode cX7_init 419 = .ok (.aload_n 0, 1) := by decide +kernel
theorem dX7_init_420 : decode cX7_init 420 = .ok (.getfield 87, 3) := by decide +kernel
theorem dX7_init_423 : decode cX7_init 423 = .ok (.iload_n 1, 1) := by decide +kernel
theorem dX7_init_424 : decode cX7_init 424 = .ok (.iconst (-1), 1) := by decide +kernel
theorem dX7_init_425 : decode cX7_init 425 = .ok (.iastore, 1) := by decide +kernel
theorem dX7_init_426 : decode cX7_init 426 = .ok (.iinc 1 1, 3) := by decide +kernel
theorem dX7_init_429 : decode cX7_init 429 = .ok (.goto (-17), 3) := by decide +kernel
theorem dX7_init_432 : decode cX7_init 432 = .ok (.return_, 1) := by decide +kernel
