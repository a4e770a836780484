theorem dX0_init_0 : decode cX0_init 0 = .ok (.aload_n 0, 1) := by decide +kernel
theorem dX0_init_1 : decode cX0_init 1 = .ok (.invokespecial 1, 3) := by decide +kernel
theorem dX0_init_4 : decode cX0_init 4 = .ok (.aload_n 0, 1) := by decide +kernel
theorem dX0_init_5 : decode cX0_init 5 = .ok (.sipush 512, 3) := by decide +kernel
theorem dX0_init_8 : decode cX0_init 8 = .ok (.newarray .int, 2) := by decide +kernel
theorem dX0_init_10 : decode cX0_init 10 = .ok (.putfield 9, 3) := by decide +kernel
theorem dX0_init_13 : decode cX0_init 13 = .ok (.aload_n 0, 1) := by decide +kernel
theorem dX0_init_14 : decode cX0_init 14 = .ok (.sipush 512, 3) := by decide +kernel
theorem dX0_init_17 : decode cX0_init 17 = .ok (.newarray .int, 2) := by decide +kernel
theorem dX0_init_19 : decode cX0_init 19 = .ok (.putfield 13, 3) := by decide +kernel
theorem dX0_init_22 : decode cX0_init 22 = .ok (.aload_n 0, 1) := by decide +kernel
theorem dX0_init_23 : decode cX0_init 23 = .ok (.sipush 512, 3) := by decide +kernel
theorem dX0_init_26 : decode cX0_init 26 = .ok (.newarray .int, 2) := by decide +kernel
theorem dX0_init_28 : decode cX0_init 28 = .ok (.putfield 16, 3) := by decide +kernel
theorem dX0_init_31 : decode cX0_init 31 = .ok (.aload_n 0, 1) := by decide +kernel
theorem dX0_init_32 : decode cX0_init 32 = .ok (.sipush 512, 3) := by decide +kernel
theorem dX0_init_35 : decode cX0_init 35 = .ok (.newarray .int, 2) := by decide +kernel
theorem dX0_init_37 : decode cX0_init 37 = .ok (.putfield 19, 3) := by decide +kernel
theorem dX0_init_40 : decode cX0_init 40 = .ok (.aload_n 0, 1) := by decide +kernel
theorem dX0_init_41 : decode cX0_init 41 = .ok (.sipush 512, 3) := by decide +kernel
theorem dX0_init_44 : decode cX0_init 44 = .ok (.newarray .int, 2) := by decide +kernel
theorem dX0_init_46 : decode cX0_init 46 = .ok (.putfield 22, 3) := by decide +kernel
theorem dX0_init_49 : decode cX0_init 49 = .ok (.return_, 1) := by decide +kernel
theorem dX0_copyFrom_0 : decode cX0_copyFrom 0 = .ok (.aload_n 0, 1) := by decide +kernel
theorem dX0_copyFrom_1 : decode cX0_copyFrom 1 = .ok (.aload_n 1, 1) := by decide +kernel
theorem dX0_copyFrom_2 : decode cX0_copyFrom 2 = .ok (.getfield 25, 3) := by decide +kernel
theorem dX0_copyFrom_5 : decode cX0_copyFrom 5 = .ok (.putfield 25, 3) := by decide +kernel
theorem dX0_copyFrom_8 : decode cX0_copyFrom 8 = .ok (.aload_n 1, 1) := by decide +kernel
theorem dX0_copyFrom_9 : decode cX0_copyFrom 9 = .ok (.getfield 9, 3) := by decide +kernel
theorem dX0_copyFrom_12 : decode cX0_copyFrom 12 = .ok (.iconst 0, 1) := by decide +kernel
theorem dX0_copyFrom_13 : decode cX0_copyFrom 13 = .ok (.aload_n 0, 1) := by decide +kernel
theorem dX0_copyFrom_14 : decode cX0_copyFrom 14 = .ok (.getfield 9, 3) := by decide +kernel
theorem dX0_copyFrom_17 : decode cX0_copyFrom 17 = .ok (.iconst 0, 1) := by decide +kernel
theorem dX0_copyFrom_18 : decode cX0_copyFrom 18 = .ok (.aload_n 0, 1) := by decide +kernel
theorem dX0_copyFrom_19 : decode cX0_copyFrom 19 = .ok (.getfield 25, 3) := by decide +kernel
theorem dX0_copyFrom_22 : decode cX0_copyFrom 22 = .ok (.invokestatic 29, 3) := by decide +kernel
theorem dX0_copyFrom_25 : decode cX0_copyFrom 25 = .ok (.aload_n 1, 1) := by decide +kernel
theorem dX0_copyFrom_26 : decode cX0_copyFrom 26 = .ok (.getfield 13, 3) := by decide +kernel
theorem dX0_copyFrom_29 : decode cX0_copyFrom 29 = .ok (.iconst 0, 1) := by decide +kernel
theorem dX0_copyFrom_30 : decode cX0_copyFrom 30 = .ok (.aload_n 0, 1) := by decide +kernel
theorem dX0_copyFrom_31 : decode cX0_copyFrom 31 = .ok (.getfield 13, 3) := by decide +kernel
theorem dX0_copyFrom_34 : decode cX0_copyFrom 34 = .ok (.iconst 0, 1) := by decide +kernel
theorem dX0_copyFrom_35 : decode cX0_copyFrom 35 = .ok (.aload_n 0, 1) := by decide +kernel
theorem dX0_copyFrom_36 : decode cX0_copyFrom 36 = .ok (.getfield 25, 3) := by decide +kernel
theorem dX0_copyFrom_39 : decode cX0_copyFrom 39 = .ok (.invokestatic 29, 3) := by decide +kernel
theorem dX0_copyFrom_42 : decode cX0_copyFrom 42 = .ok (.aload_n 1, 1) := by decide +kernel
theorem dX0_copyFrom_43 : decode cX0_copyFrom 43 = .ok (.getfield 16, 3) := by decide +kernel
theorem dX0_copyFrom_46 : decode cX0_copyFrom 46 = .ok (.iconst 0, 1) := by decide +kernel
theorem dX0_copyFrom_47 : decode cX0_copyFrom 47 = .ok (.aload_n 0, 1) := by decide +kernel
theorem dX0_copyFrom_48 : decode cX0_copyFrom 48 = .ok (.getfield 16, 3) := by decide +kernel
theorem dX0_copyFrom_51 : decode cX0_copyFrom 51 = .ok (.iconst 0, 1) := by decide +kernel
theorem dX0_copyFrom_52 : decode cX0_copyFrom 52 = .ok (.aload_n 0, 1) := by decide +kernel
theorem dX0_copyFrom_53 : decode cX0_copyFrom 53 = .ok (.getfield 25, 3) := by decide +kernel
theorem dX0_copyFrom_56 : decode cX0_copyFrom 56 = .ok (.invokestatic 29, 3) := by decide +kernel
theorem dX0_copyFrom_59 : decode cX0_copyFrom 59 = .ok (.aload_n 1, 1) := by decide +kernel
theorem dX0_copyFrom_60 : decode cX0_copyFrom 60 = .ok (.getfield 19, 3) := by decide +kernel
theorem dX0_copyFrom_63 : decode cX0_copyFrom 63 = .ok (.iconst 0, 1) := by decide +kernel
theorem dX0_copyFrom_64 : decode cX0_copyFrom 64 = .ok (.aload_n 0, 1) := by decide +kernel
theorem dX0_copyFrom_65 : decode cX0_copyFrom 65 = .ok (.getfield 19, 3) := by decide +kernel
theorem dX0_copyFrom_68 : decode cX0_copyFrom 68 = .ok (.iconst 0, 1) := by decide +kernel
theorem dX0_copyFrom_69 : decode cX0_copyFrom 69 = .ok (.aload_n 0, 1) := by decide +kernel
theorem dX0_copyFrom_70 : decode cX0_copyFrom 70 = .ok (.getfield 25, 3) := by decide +kernel
theorem dX0_copyFrom_73 : decode cX0_copyFrom 73 = .ok (.invokestatic 29, 3) := by decide +kernel
theorem dX0_copyFrom_76 : decode cX0_copyFrom 76 = .ok (.aload_n 1, 1) := by decide +kernel
theorem dX0_copyFrom_77 : decode cX0_copyFrom 77 = .ok (.getfield 22, 3) := by decide +kernel
theorem dX0_copyFrom_80 : decode cX0_copyFrom 80 = .ok (.iconst 0, 1) := by decide +kernel
theorem dX0_copyFrom_81 : decode cX0_copyFrom 81 = .ok (.aload_n 0, 1) := by decide +kernel
theorem dX0_copyFrom_82 : decode cX0_copyFrom 82 = .ok (.getfield 22, 3) := by decide +kernel
theorem dX0_copyFrom_85 : decode cX0_copyFrom 85 = .ok (.iconst 0, 1) := by decide +kernel
theorem dX0_copyFrom_86 : decode cX0_copyFrom 86 = .ok (.aload_n 0, 1) := by decide +kernel
theorem dX0_copyFrom_87 : decode cX0_copyFrom 87 = .ok (.getfield 25, 3) := by decide +kernel
theorem dX0_copyFrom_90 : decode cX0_copyFrom 90 = .ok (.invokestatic 29, 3) := by decide +kernel
theorem dX0_copyFrom_93 : decode cX0_copyFrom 93 = .ok (.return_, 1) := by decide +kernel
theorem dX0_add_0 : decode cX0_add 0 = .ok (.aload_n 0, 1) := by decide +kernel
theorem dX0_add_1 : decode cX0_add 1 = .ok (.getfield 25, 3) := by decide +kernel
theorem dX0_add_4 : decode cX0_add 4 = .ok (.sipush 512, 3) := by decide +kernel
theorem dX0_add_7 : decode cX0_add 7 = .ok (.if_icmp .lt 4, 3) := by decide +kernel
theorem dX0_add_10 : decode cX0_add 10 = .ok (.return_, 1) := by decide +kernel
theorem dX0_add_11 : decode cX0_add 11 = .ok (.aload_n 0, 1) := by decide +kernel
theorem dX0_add_12 : decode cX0_add 12 = .ok (.getfield 9, 3) := by decide +kernel
theorem dX0_add_15 : decode cX0_add 15 = .ok (.aload_n 0, 1) := by decide +kernel
theorem dX0_add_16 : decode cX0_add 16 = .ok (.getfield 25, 3) := by decide +kernel
theorem dX0_add_19 : decode cX0_add 19 = .ok (.iload_n 1, 1) := by decide +kernel
theorem dX0_add_20 : decode cX0_add 20 = .ok (.iastore, 1) := by decide +kernel
theorem dX0_add_21 : decode cX0_add 21 = .ok (.aload_n 0, 1) := by decide +kernel
theorem dX0_add_22 : decode cX0_add 22 = .ok (.getfield 13, 3) := by decide +kernel
theorem dX0_add_25 : decode cX0_add 25 = .ok (.aload_n 0, 1) := by decide +kernel
theorem dX0_add_26 : decode cX0_add 26 = .ok (.getfield 25, 3) := by decide +kernel
theorem dX0_add_29 : decode cX0_add 29 = .ok (.iload_n 2, 1) := by decide +kernel
theorem dX0_add_30 : decode cX0_add 30 = .ok (.iastore, 1) := by decide +kernel
theorem dX0_add_31 : decode cX0_add 31 = .ok (.aload_n 0, 1) := by decide +kernel
theorem dX0_add_32 : decode cX0_add 32 = .ok (.getfield 16, 3) := by decide +kernel
theorem dX0_add_35 : decode cX0_add 35 = .ok (.aload_n 0, 1) := by decide +kernel
theorem dX0_add_36 : decode cX0_add 36 = .ok (.getfield 25, 3) := by decide +kernel
theorem dX0_add_39 : decode cX0_add 39 = .ok (.iload_n 3, 1) := by decide +kernel
theorem dX0_add_40 : decode cX0_add 40 = .ok (.iastore, 1) := by decide +kernel
theorem dX0_add_41 : decode cX0_add 41 = .ok (.aload_n 0, 1) := by decide +kernel
theorem dX0_add_42 : decode cX0_add 42 = .ok (.getfield 19, 3) := by decide +kernel
theorem dX0_add_45 : decode cX0_add 45 = .ok (.aload_n 0, 1) := by decide +kernel
theorem dX0_add_46 : decode cX0_add 46 = .ok (.getfield 25, 3) := by decide +kernel
theorem dX0_add_49 : decode cX0_add 49 = .ok (.iload 4, 2) := by decide +kernel
theorem dX0_add_51 : decode cX0_add 51 = .ok (.iastore, 1) := by decide +kernel
theorem dX0_add_52 : decode cX0_add 52 = .ok (.aload_n 0, 1) := by decide +kernel
theorem dX0_add_53 : decode cX0_add 53 = .ok (.getfield 22, 3) := by decide +kernel
theorem dX0_add_56 : decode cX0_add 56 = .ok (.aload_n 0, 1) := by decide +kernel
theorem dX0_add_57 : decode cX0_add 57 = .ok (.getfield 25, 3) := by decide +kernel
theorem dX0_add_60 : decode cX0_add 60 = .ok (.iload 5, 2) := by decide +kernel
theorem dX0_add_62 : decode cX0_add 62 = .ok (.iastore, 1) := by decide +kernel
theorem dX0_add_63 : decode cX0_add 63 = .ok (.aload_n 0, 1) := by decide +kernel
theorem dX0_add_64 : decode cX0_add 64 = .ok (.dup, 1) := by decide +kernel
theorem dX0_add_65 : decode cX0_add 65 = .ok (.getfield 25, 3) := by decide +kernel
theorem dX0_add_68 : decode cX0_add 68 = .ok (.iconst 1, 1) := by decide +kernel
theorem dX0_add_69 : decode cX0_add 69 = .ok (.iadd, 1) := by decide +kernel
theorem dX0_add_70 : decode cX0_add 70 = .ok (.putfield 25, 3) := by decide +kernel
theorem dX0_add_73 : decode cX0_add 73 = .ok (.return_, 1) := by decide +kernel
theorem dX0_tidy_0 : decode cX0_tidy 0 = .ok (.iconst 0, 1) := by decide +kernel
theorem dX0_tidy_1 : decode cX0_tidy 1 = .ok (.istore_n 2, 1) := by decide +kernel
theorem dX0_tidy_2 : decode cX0_tidy 2 = .ok (.iconst 0, 1) := by decide +kernel
theorem dX0_tidy_3 : decode cX0_tidy 3 = .ok (.istore_n 3, 1) := by decide +kernel
theorem dX0_tidy_4 : decode cX0_tidy 4 = .ok (.iload_n 3, 1) := by decide +kernel
theorem dX0_tidy_5 : decode cX0_tidy 5 = .ok (.aload_n 0, 1) := by decide +kernel
theorem dX0_tidy_6 : decode cX0_tidy 6 = .ok (.getfield 25, 3) := by decide +kernel
theorem dX0_tidy_9 : decode cX0_tidy 9 = .ok (.if_icmp .ge 82, 3) := by decide +kernel
theorem dX0_tidy_12 : decode cX0_tidy 12 = .ok (.aload_n 0, 1) := by decide +kernel
theorem dX0_tidy_13 : decode cX0_tidy 13 = .ok (.getfield 22, 3) := by decide +kernel
theorem dX0_tidy_16 : decode cX0_tidy 16 = .ok (.iload_n 3, 1) := by decide +kernel
theorem dX0_tidy_17 : decode cX0_tidy 17 = .ok (.iaload, 1) := by decide +kernel
theorem dX0_tidy_18 : decode cX0_tidy 18 = .ok (.iload_n 1, 1) := by decide +kernel
theorem dX0_tidy_19 : decode cX0_tidy 19 = .ok (.if_icmp .le 66, 3) := by decide +kernel
theorem dX0_tidy_22 : decode cX0_tidy 22 = .ok (.aload_n 0, 1) := by decide +kernel
theorem dX0_tidy_23 : decode cX0_tidy 23 = .ok (.getfield 9, 3) := by decide +kernel
theorem dX0_tidy_26 : decode cX0_tidy 26 = .ok (.iload_n 2, 1) := by decide +kernel
theorem dX0_tidy_27 : decode cX0_tidy 27 = .ok (.aload_n 0, 1) := by decide +kernel
theorem dX0_tidy_28 : decode cX0_tidy 28 = .ok (.getfield 9, 3) := by decide +kernel
theorem dX0_tidy_31 : decode cX0_tidy 31 = .ok (.iload_n 3, 1) := by decide +kernel
theorem dX0_tidy_32 : decode cX0_tidy 32 = .ok (.iaload, 1) := by decide +kernel
theorem dX0_tidy_33 : decode cX0_tidy 33 = .ok (.iastore, 1) := by decide +kernel
theorem dX0_tidy_34 : decode cX0_tidy 34 = .ok (.aload_n 0, 1) := by decide +kernel
theorem dX0_tidy_35 : decode cX0_tidy 35 = .ok (.getfield 13, 3) := by decide +kernel
theorem dX0_tidy_38 : decode cX0_tidy 38 = .ok (.iload_n 2, 1) := by decide +kernel
theorem dX0_tidy_39 : decode cX0_tidy 39 = .ok (.aload_n 0, 1) := by decide +kernel
theorem dX0_tidy_40 : decode cX0_tidy 40 = .ok (.getfield 13, 3) := by decide +kernel
theorem dX0_tidy_43 : decode cX0_tidy 43 = .ok (.iload_n 3, 1) := by decide +kernel
theorem dX0_tidy_44 : decode cX0_tidy 44 = .ok (.iaload, 1) := by decide +kernel
theorem dX0_tidy_45 : decode cX0_tidy 45 = .ok (.iastore, 1) := by decide +kernel
theorem dX0_tidy_46 : decode cX0_tidy 46 = .ok (.aload_n 0, 1) := by decide +kernel
theorem dX0_tidy_47 : decode cX0_tidy 47 = .ok (.getfield 16, 3) := by decide +kernel
theorem dX0_tidy_50 : decode cX0_tidy 50 = .ok (.iload_n 2, 1) := by decide +kernel
theorem dX0_tidy_51 : decode cX0_tidy 51 = .ok (.aload_n 0, 1) := by decide +kernel
theorem dX0_tidy_52 : decode cX0_tidy 52 = .ok (.getfield 16, 3) := by decide +kernel
theorem dX0_tidy_55 : decode cX0_tidy 55 = .ok (.iload_n 3, 1) := by decide +kernel
theorem dX0_tidy_56 : decode cX0_tidy 56 = .ok (.iaload, 1) := by decide +kernel
theorem dX0_tidy_57 : decode cX0_tidy 57 = .ok (.iastore, 1) := by decide +kernel
theorem dX0_tidy_58 : decode cX0_tidy 58 = .ok (.aload_n 0, 1) := by decide +kernel
theorem dX0_tidy_59 : decode cX0_tidy 59 = .ok (.getfield 19, 3) := by decide +kernel
theorem dX0_tidy_62 : decode cX0_tidy 62 = .ok (.iload_n 2, 1) := by decide +kernel
theorem dX0_tidy_63 : decode cX0_tidy 63 = .ok (.aload_n 0, 1) := by decide +kernel
theorem dX0_tidy_64 : decode cX0_tidy 64 = .ok (.getfield 19, 3) := by decide +kernel
theorem dX0_tidy_67 : decode cX0_tidy 67 = .ok (.iload_n 3, 1) := by decide +kernel
theorem dX0_tidy_68 : decode cX0_tidy 68 = .ok (.iaload, 1) := by decide +kernel
theorem dX0_tidy_69 : decode cX0_tidy 69 = .ok (.iastore, 1) := by decide +kernel
theorem dX0_tidy_70 : decode cX0_tidy 70 = .ok (.aload_n 0, 1) := by decide +kernel
theorem dX0_tidy_71 : decode cX0_tidy 71 = .ok (.getfield 22, 3) := by decide +kernel
theorem dX0_tidy_74 : decode cX0_tidy 74 = .ok (.iload_n 2, 1) := by decide +kernel
theorem dX0_tidy_75 : decode cX0_tidy 75 = .ok (.aload_n 0, 1) := by decide +kernel
theorem dX0_tidy_76 : decode cX0_tidy 76 = .ok (.getfield 22, 3) := by decide +kernel
theorem dX0_tidy_79 : decode cX0_tidy 79 = .ok (.iload_n 3, 1) := by decide +kernel
theorem dX0_tidy_80 : decode cX0_tidy 80 = .ok (.iaload, 1) := by decide +kernel
theorem dX0_tidy_81 : decode cX0_tidy 81 = .ok (.iastore, 1) := by decide +kernel
theorem dX0_tidy_82 : decode cX0_tidy 82 = .ok (.iinc 2 1, 3) := by decide +kernel
theorem dX0_tidy_85 : decode cX0_tidy 85 = .ok (.iinc 3 1, 3) := by decide +kernel
theorem dX0_tidy_88 : decode cX0_tidy 88 = .ok (.goto (-84), 3) := by decide +kernel
theorem dX0_tidy_91 : decode cX0_tidy 91 = .ok (.aload_n 0, 1) := by decide +kernel
theorem dX0_tidy_92 : decode cX0_tidy 92 = .ok (.iload_n 2, 1) := by decide +kernel
theorem dX0_tidy_93 : decode cX0_tidy 93 = .ok (.putfield 25, 3) := by decide +kernel
theorem dX0_tidy_96 : decode cX0_tidy 96 = .ok (.return_, 1) := by decide +kernel
theorem dX1_init_0 : decode cX1_init 0 = .ok (.aload_n 0, 1) := by decide +kernel
theorem dX1_init_1 : decode cX1_init 1 = .ok (.invokespecial 1, 3) := by decide +kernel
theorem dX1_init_4 : decode cX1_init 4 = .ok (.aload_n 0, 1) := by decide +kernel
theorem dX1_init_5 : decode cX1_init 5 = .ok (.iconst 1, 1) := by decide +kernel
theorem dX1_init_6 : decode cX1_init 6 = .ok (.putfield 7, 3) := by decide +kernel
theorem dX1_init_9 : decode cX1_init 9 = .ok (.return_, 1) := by decide +kernel
theorem dX1_drawOf_0 : decode cX1_drawOf 0 = .ok (.aload_n 0, 1) := by decide +kernel
theorem dX1_drawOf_1 : decode cX1_drawOf 1 = .ok (.ldc2_w 13, 3) := by decide +kernel
theorem dX1_drawOf_4 : decode cX1_drawOf 4 = .ok (.aload_n 0, 1) := by decide +kernel
theorem dX1_drawOf_5 : decode cX1_drawOf 5 = .ok (.getfield 7, 3) := by decide +kernel
theorem dX1_drawOf_8 : decode cX1_drawOf 8 = .ok (.i2l, 1) := by decide +kernel
theorem dX1_drawOf_9 : decode cX1_drawOf 9 = .ok (.lmul, 1) := by decide +kernel
theorem dX1_drawOf_10 : decode cX1_drawOf 10 = .ok (.ldc2_w 15, 3) := by decide +kernel
theorem dX1_drawOf_13 : decode cX1_drawOf 13 = .ok (.ladd, 1) := by decide +kernel
theorem dX1_drawOf_14 : decode cX1_drawOf 14 = .ok (.ldc2_w 17, 3) := by decide +kernel
theorem dX1_drawOf_17 : decode cX1_drawOf 17 = .ok (.land, 1) := by decide +kernel
theorem dX1_drawOf_18 : decode cX1_drawOf 18 = .ok (.l2i, 1) := by decide +kernel
theorem dX1_drawOf_19 : decode cX1_drawOf 19 = .ok (.putfield 7, 3) := by decide +kernel
theorem dX1_drawOf_22 : decode cX1_drawOf 22 = .ok (.iload_n 1, 1) := by decide +kernel
theorem dX1_drawOf_23 : decode cX1_drawOf 23 = .ok (.ifCond .le 15, 3) := by decide +kernel
theorem dX1_drawOf_26 : decode cX1_drawOf 26 = .ok (.aload_n 0, 1) := by decide +kernel
theorem dX1_drawOf_27 : decode cX1_drawOf 27 = .ok (.getfield 7, 3) := by decide +kernel
theorem dX1_drawOf_30 : decode cX1_drawOf 30 = .ok (.bipush 64, 2) := by decide +kernel
theorem dX1_drawOf_32 : decode cX1_drawOf 32 = .ok (.idiv, 1) := by decide +kernel
theorem dX1_drawOf_33 : decode cX1_drawOf 33 = .ok (.iload_n 1, 1) := by decide +kernel
theorem dX1_drawOf_34 : decode cX1_drawOf 34 = .ok (.irem, 1) := by decide +kernel
theorem dX1_drawOf_35 : decode cX1_drawOf 35 = .ok (.goto 4, 3) := by decide +kernel
theorem dX1_drawOf_38 : decode cX1_drawOf 38 = .ok (.iconst 0, 1) := by decide +kernel
theorem dX1_drawOf_39 : decode cX1_drawOf 39 = .ok (.ireturn, 1) := by decide +kernel
theorem dX2_init_0 : decode cX2_init 0 = .ok (.aload_n 0, 1) := by decide +kernel
theorem dX2_init_1 : decode cX2_init 1 = .ok (.invokespecial 3, 3) := by decide +kernel
theorem dX2_init_4 : decode cX2_init 4 = .ok (.aload_n 0, 1) := by decide +kernel
theorem dX2_init_5 : decode cX2_init 5 = .ok (.sipush 512, 3) := by decide +kernel
theorem dX2_init_8 : decode cX2_init 8 = .ok (.newarray .int, 2) := by decide +kernel
theorem dX2_init_10 : decode cX2_init 10 = .ok (.putfield 11, 3) := by decide +kernel
theorem dX2_init_13 : decode cX2_init 13 = .ok (.aload_n 0, 1) := by decide +kernel
theorem dX2_init_14 : decode cX2_init 14 = .ok (.sipush 512, 3) := by decide +kernel
theorem dX2_init_17 : decode cX2_init 17 = .ok (.newarray .int, 2) := by decide +kernel
theorem dX2_init_19 : decode cX2_init 19 = .ok (.putfield 15, 3) := by decide +kernel
theorem dX2_init_22 : decode cX2_init 22 = .ok (.aload_n 0, 1) := by decide +kernel
theorem dX2_init_23 : decode cX2_init 23 = .ok (.sipush 512, 3) := by decide +kernel
theorem dX2_init_26 : decode cX2_init 26 = .ok (.newarray .int, 2) := by decide +kernel
theorem dX2_init_28 : decode cX2_init 28 = .ok (.putfield 18, 3) := by decide +kernel
theorem dX2_init_31 : decode cX2_init 31 = .ok (.aload_n 0, 1) := by decide +kernel
theorem dX2_init_32 : decode cX2_init 32 = .ok (.sipush 512, 3) := by decide +kernel
theorem dX2_init_35 : decode cX2_init 35 = .ok (.newarray .int, 2) := by decide +kernel
theorem dX2_init_37 : decode cX2_init 37 = .ok (.putfield 21, 3) := by decide +kernel
theorem dX2_init_40 : decode cX2_init 40 = .ok (.aload_n 0, 1) := by decide +kernel
theorem dX2_init_41 : decode cX2_init 41 = .ok (.sipush 512, 3) := by decide +kernel
theorem dX2_init_44 : decode cX2_init 44 = .ok (.newarray .int, 2) := by decide +kernel
theorem dX2_init_46 : decode cX2_init 46 = .ok (.putfield 24, 3) := by decide +kernel
theorem dX2_init_49 : decode cX2_init 49 = .ok (.aload_n 0, 1) := by decide +kernel
theorem dX2_init_50 : decode cX2_init 50 = .ok (.sipush 512, 3) := by decide +kernel
theorem dX2_init_53 : decode cX2_init 53 = .ok (.newarray .int, 2) := by decide +kernel
theorem dX2_init_55 : decode cX2_init 55 = .ok (.putfield 27, 3) := by decide +kernel
theorem dX2_init_58 : decode cX2_init 58 = .ok (.aload_n 0, 1) := by decide +kernel
theorem dX2_init_59 : decode cX2_init 59 = .ok (.sipush 512, 3) := by decide +kernel
theorem dX2_init_62 : decode cX2_init 62 = .ok (.newarray .boolean, 2) := by decide +kernel
theorem dX2_init_64 : decode cX2_init 64 = .ok (.putfield 30, 3) := by decide +kernel
theorem dX2_init_67 : decode cX2_init 67 = .ok (.aload_n 0, 1) := by decide +kernel
theorem dX2_init_68 : decode cX2_init 68 = .ok (.sipush 512, 3) := by decide +kernel
theorem dX2_init_71 : decode cX2_init 71 = .ok (.newarray .boolean, 2) := by decide +kernel
theorem dX2_init_73 : decode cX2_init 73 = .ok (.putfield 34, 3) := by decide +kernel
theorem dX2_init_76 : decode cX2_init 76 = .ok (.return_, 1) := by decide +kernel
theorem dX2_copyFrom_0 : decode cX2_copyFrom 0 = .ok (.aload_n 0, 1) := by decide +kernel
theorem dX2_copyFrom_1 : decode cX2_copyFrom 1 = .ok (.aload_n 1, 1) := by decide +kernel
theorem dX2_copyFrom_2 : decode cX2_copyFrom 2 = .ok (.getfield 37, 3) := by decide +kernel
theorem dX2_copyFrom_5 : decode cX2_copyFrom 5 = .ok (.putfield 37, 3) := by decide +kernel
theorem dX2_copyFrom_8 : decode cX2_copyFrom 8 = .ok (.aload_n 1, 1) := by decide +kernel
theorem dX2_copyFrom_9 : decode cX2_copyFrom 9 = .ok (.getfield 11, 3) := by decide +kernel
theorem dX2_copyFrom_12 : decode cX2_copyFrom 12 = .ok (.iconst 0, 1) := by decide +kernel
theorem dX2_copyFrom_13 : decode cX2_copyFrom 13 = .ok (.aload_n 0, 1) := by decide +kernel
theorem dX2_copyFrom_14 : decode cX2_copyFrom 14 = .ok (.getfield 11, 3) := by decide +kernel
theorem dX2_copyFrom_17 : decode cX2_copyFrom 17 = .ok (.iconst 0, 1) := by decide +kernel
theorem dX2_copyFrom_18 : decode cX2_copyFrom 18 = .ok (.aload_n 0, 1) := by decide +kernel
theorem dX2_copyFrom_19 : decode cX2_copyFrom 19 = .ok (.getfield 37, 3) := by decide +kernel
theorem dX2_copyFrom_22 : decode cX2_copyFrom 22 = .ok (.invokestatic 41, 3) := by decide +kernel
theorem dX2_copyFrom_25 : decode cX2_copyFrom 25 = .ok (.aload_n 1, 1) := by decide +kernel
theorem dX2_copyFrom_26 : decode cX2_copyFrom 26 = .ok (.getfield 15, 3) := by decide +kernel
theorem dX2_copyFrom_29 : decode cX2_copyFrom 29 = .ok (.iconst 0, 1) := by decide +kernel
theorem dX2_copyFrom_30 : decode cX2_copyFrom 30 = .ok (.aload_n 0, 1) := by decide +kernel
theorem dX2_copyFrom_31 : decode cX2_copyFrom 31 = .ok (.getfield 15, 3) := by decide +kernel
theorem dX2_copyFrom_34 : decode cX2_copyFrom 34 = .ok (.iconst 0, 1) := by decide +kernel
theorem dX2_copyFrom_35 : decode cX2_copyFrom 35 = .ok (.aload_n 0, 1) := by decide +kernel
theorem dX2_copyFrom_36 : decode cX2_copyFrom 36 = .ok (.getfield 37, 3) := by decide +kernel
theorem dX2_copyFrom_39 : decode cX2_copyFrom 39 = .ok (.invokestatic 41, 3) := by decide +kernel
theorem dX2_copyFrom_42 : decode cX2_copyFrom 42 = .ok (.aload_n 1, 1) := by decide +kernel
theorem dX2_copyFrom_43 : decode cX2_copyFrom 43 = .ok (.getfield 18, 3) := by decide +kernel
theorem dX2_copyFrom_46 : decode cX2_copyFrom 46 = .ok (.iconst 0, 1) := by decide +kernel
theorem dX2_copyFrom_47 : decode cX2_copyFrom 47 = .ok (.aload_n 0, 1) := by decide +kernel
theorem dX2_copyFrom_48 : decode cX2_copyFrom 48 = .ok (.getfield 18, 3) := by decide +kernel
theorem dX2_copyFrom_51 : decode cX2_copyFrom 51 = .ok (.iconst 0, 1) := by decide +kernel
theorem dX2_copyFrom_52 : decode cX2_copyFrom 52 = .ok (.aload_n 0, 1) := by decide +kernel
theorem dX2_copyFrom_53 : decode cX2_copyFrom 53 = .ok (.getfield 37, 3) := by decide +kernel
theorem dX2_copyFrom_56 : decode cX2_copyFrom 56 = .ok (.invokestatic 41, 3) := by decide +kernel
theorem dX2_copyFrom_59 : decode cX2_copyFrom 59 = .ok (.aload_n 1, 1) := by decide +kernel
theorem dX2_copyFrom_60 : decode cX2_copyFrom 60 = .ok (.getfield 21, 3) := by decide +kernel
theorem dX2_copyFrom_63 : decode cX2_copyFrom 63 = .ok (.iconst 0, 1) := by decide +kernel
theorem dX2_copyFrom_64 : decode cX2_copyFrom 64 = .ok (.aload_n 0, 1) := by decide +kernel
theorem dX2_copyFrom_65 : decode cX2_copyFrom 65 = .ok (.getfield 21, 3) := by decide +kernel
theorem dX2_copyFrom_68 : decode cX2_copyFrom 68 = .ok (.iconst 0, 1) := by decide +kernel
theorem dX2_copyFrom_69 : decode cX2_copyFrom 69 = .ok (.aload_n 0, 1) := by decide +kernel
theorem dX2_copyFrom_70 : decode cX2_copyFrom 70 = .ok (.getfield 37, 3) := by decide +kernel
theorem dX2_copyFrom_73 : decode cX2_copyFrom 73 = .ok (.invokestatic 41, 3) := by decide +kernel
theorem dX2_copyFrom_76 : decode cX2_copyFrom 76 = .ok (.aload_n 1, 1) := by decide +kernel
theorem dX2_copyFrom_77 : decode cX2_copyFrom 77 = .ok (.getfield 24, 3) := by decide +kernel
theorem dX2_copyFrom_80 : decode cX2_copyFrom 80 = .ok (.iconst 0, 1) := by decide +kernel
theorem dX2_copyFrom_81 : decode cX2_copyFrom 81 = .ok (.aload_n 0, 1) := by decide +kernel
theorem dX2_copyFrom_82 : decode cX2_copyFrom 82 = .ok (.getfield 24, 3) := by decide +kernel
theorem dX2_copyFrom_85 : decode cX2_copyFrom 85 = .ok (.iconst 0, 1) := by decide +kernel
theorem dX2_copyFrom_86 : decode cX2_copyFrom 86 = .ok (.aload_n 0, 1) := by decide +kernel
theorem dX2_copyFrom_87 : decode cX2_copyFrom 87 = .ok (.getfield 37, 3) := by decide +kernel
theorem dX2_copyFrom_90 : decode cX2_copyFrom 90 = .ok (.invokestatic 41, 3) := by decide +kernel
theorem dX2_copyFrom_93 : decode cX2_copyFrom 93 = .ok (.aload_n 1, 1) := by decide +kernel
theorem dX2_copyFrom_94 : decode cX2_copyFrom 94 = .ok (.getfield 27, 3) := by decide +kernel
theorem dX2_copyFrom_97 : decode cX2_copyFrom 97 = .ok (.iconst 0, 1) := by decide +kernel
theorem dX2_copyFrom_98 : decode cX2_copyFrom 98 = .ok (.aload_n 0, 1) := by decide +kernel
theorem dX2_copyFrom_99 : decode cX2_copyFrom 99 = .ok (.getfield 27, 3) := by decide +kernel
theorem dX2_copyFrom_102 : decode cX2_copyFrom 102 = .ok (.iconst 0, 1) := by decide +kernel
theorem dX2_copyFrom_103 : decode cX2_copyFrom 103 = .ok (.aload_n 0, 1) := by decide +kernel
theorem dX2_copyFrom_104 : decode cX2_copyFrom 104 = .ok (.getfield 37, 3) := by decide +kernel
theorem dX2_copyFrom_107 : decode cX2_copyFrom 107 = .ok (.invokestatic 41, 3) := by decide +kernel
theorem dX2_copyFrom_110 : decode cX2_copyFrom 110 = .ok (.iconst 0, 1) := by decide +kernel
theorem dX2_copyFrom_111 : decode cX2_copyFrom 111 = .ok (.istore_n 2, 1) := by decide +kernel
theorem dX2_copyFrom_112 : decode cX2_copyFrom 112 = .ok (.iload_n 2, 1) := by decide +kernel
theorem dX2_copyFrom_113 : decode cX2_copyFrom 113 = .ok (.aload_n 0, 1) := by decide +kernel
theorem dX2_copyFrom_114 : decode cX2_copyFrom 114 = .ok (.getfield 37, 3) := by decide +kernel
theorem dX2_copyFrom_117 : decode cX2_copyFrom 117 = .ok (.if_icmp .ge 33, 3) := by decide +kernel
theorem dX2_copyFrom_120 : decode cX2_copyFrom 120 = .ok (.aload_n 0, 1) := by decide +kernel
theorem dX2_copyFrom_121 : decode cX2_copyFrom 121 = .ok (.getfield 30, 3) := by decide +kernel
theorem dX2_copyFrom_124 : decode cX2_copyFrom 124 = .ok (.iload_n 2, 1) := by decide +kernel
theorem dX2_copyFrom_125 : decode cX2_copyFrom 125 = .ok (.aload_n 1, 1) := by decide +kernel
theorem dX2_copyFrom_126 : decode cX2_copyFrom 126 = .ok (.getfield 30, 3) := by decide +kernel
theorem dX2_copyFrom_129 : decode cX2_copyFrom 129 = .ok (.iload_n 2, 1) := by decide +kernel
theorem dX2_copyFrom_130 : decode cX2_copyFrom 130 = .ok (.baload, 1) := by decide +kernel
theorem dX2_copyFrom_131 : decode cX2_copyFrom 131 = .ok (.bastore, 1) := by decide +kernel
theorem dX2_copyFrom_132 : decode cX2_copyFrom 132 = .ok (.aload_n 0, 1) := by decide +kernel
theorem dX2_copyFrom_133 : decode cX2_copyFrom 133 = .ok (.getfield 34, 3) := by decide +kernel
theorem dX2_copyFrom_136 : decode cX2_copyFrom 136 = .ok (.iload_n 2, 1) := by decide +kernel
theorem dX2_copyFrom_137 : decode cX2_copyFrom 137 = .ok (.aload_n 1, 1) := by decide +kernel
theorem dX2_copyFrom_138 : decode cX2_copyFrom 138 = .ok (.getfield 34, 3) := by decide +kernel
theorem dX2_copyFrom_141 : decode cX2_copyFrom 141 = .ok (.iload_n 2, 1) := by decide +kernel
theorem dX2_copyFrom_142 : decode cX2_copyFrom 142 = .ok (.baload, 1) := by decide +kernel
theorem dX2_copyFrom_143 : decode cX2_copyFrom 143 = .ok (.bastore, 1) := by decide +kernel
theorem dX2_copyFrom_144 : decode cX2_copyFrom 144 = .ok (.iinc 2 1, 3) := by decide +kernel
theorem dX2_copyFrom_147 : decode cX2_copyFrom 147 = .ok (.goto (-35), 3) := by decide +kernel
theorem dX2_copyFrom_150 : decode cX2_copyFrom 150 = .ok (.return_, 1) := by decide +kernel
theorem dX2_add_0 : decode cX2_add 0 = .ok (.aload_n 0, 1) := by decide +kernel
theorem dX2_add_1 : decode cX2_add 1 = .ok (.getfield 37, 3) := by decide +kernel
theorem dX2_add_4 : decode cX2_add 4 = .ok (.sipush 512, 3) := by decide +kernel
theorem dX2_add_7 : decode cX2_add 7 = .ok (.if_icmp .lt 4, 3) := by decide +kernel
theorem dX2_add_10 : decode cX2_add 10 = .ok (.return_, 1) := by decide +kernel
theorem dX2_add_11 : decode cX2_add 11 = .ok (.aload_n 0, 1) := by decide +kernel
theorem dX2_add_12 : decode cX2_add 12 = .ok (.getfield 11, 3) := by decide +kernel
theorem dX2_add_15 : decode cX2_add 15 = .ok (.aload_n 0, 1) := by decide +kernel
theorem dX2_add_16 : decode cX2_add 16 = .ok (.getfield 37, 3) := by decide +kernel
theorem dX2_add_19 : decode cX2_add 19 = .ok (.iload_n 1, 1) := by decide +kernel
theorem dX2_add_20 : decode cX2_add 20 = .ok (.iastore, 1) := by decide +kernel
theorem dX2_add_21 : decode cX2_add 21 = .ok (.aload_n 0, 1) := by decide +kernel
theorem dX2_add_22 : decode cX2_add 22 = .ok (.getfield 15, 3) := by decide +kernel
theorem dX2_add_25 : decode cX2_add 25 = .ok (.aload_n 0, 1) := by decide +kernel
theorem dX2_add_26 : decode cX2_add 26 = .ok (.getfield 37, 3) := by decide +kernel
theorem dX2_add_29 : decode cX2_add 29 = .ok (.iload_n 2, 1) := by decide +kernel
theorem dX2_add_30 : decode cX2_add 30 = .ok (.iastore, 1) := by decide +kernel
theorem dX2_add_31 : decode cX2_add 31 = .ok (.aload_n 0, 1) := by decide +kernel
theorem dX2_add_32 : decode cX2_add 32 = .ok (.getfield 18, 3) := by decide +kernel
theorem dX2_add_35 : decode cX2_add 35 = .ok (.aload_n 0, 1) := by decide +kernel
theorem dX2_add_36 : decode cX2_add 36 = .ok (.getfield 37, 3) := by decide +kernel
theorem dX2_add_39 : decode cX2_add 39 = .ok (.iload_n 3, 1) := by decide +kernel
theorem dX2_add_40 : decode cX2_add 40 = .ok (.iastore, 1) := by decide +kernel
theorem dX2_add_41 : decode cX2_add 41 = .ok (.aload_n 0, 1) := by decide +kernel
theorem dX2_add_42 : decode cX2_add 42 = .ok (.getfield 21, 3) := by decide +kernel
theorem dX2_add_45 : decode cX2_add 45 = .ok (.aload_n 0, 1) := by decide +kernel
theorem dX2_add_46 : decode cX2_add 46 = .ok (.getfield 37, 3) := by decide +kernel
theorem dX2_add_49 : decode cX2_add 49 = .ok (.iload 4, 2) := by decide +kernel
theorem dX2_add_51 : decode cX2_add 51 = .ok (.iastore, 1) := by decide +kernel
theorem dX2_add_52 : decode cX2_add 52 = .ok (.aload_n 0, 1) := by decide +kernel
theorem dX2_add_53 : decode cX2_add 53 = .ok (.getfield 24, 3) := by decide +kernel
theorem dX2_add_56 : decode cX2_add 56 = .ok (.aload_n 0, 1) := by decide +kernel
theorem dX2_add_57 : decode cX2_add 57 = .ok (.getfield 37, 3) := by decide +kernel
theorem dX2_add_60 : decode cX2_add 60 = .ok (.iload 5, 2) := by decide +kernel
theorem dX2_add_62 : decode cX2_add 62 = .ok (.iastore, 1) := by decide +kernel
theorem dX2_add_63 : decode cX2_add 63 = .ok (.aload_n 0, 1) := by decide +kernel
theorem dX2_add_64 : decode cX2_add 64 = .ok (.getfield 27, 3) := by decide +kernel
theorem dX2_add_67 : decode cX2_add 67 = .ok (.aload_n 0, 1) := by decide +kernel
theorem dX2_add_68 : decode cX2_add 68 = .ok (.getfield 37, 3) := by decide +kernel
theorem dX2_add_71 : decode cX2_add 71 = .ok (.iload 6, 2) := by decide +kernel
theorem dX2_add_73 : decode cX2_add 73 = .ok (.iastore, 1) := by decide +kernel
theorem dX2_add_74 : decode cX2_add 74 = .ok (.aload_n 0, 1) := by decide +kernel
theorem dX2_add_75 : decode cX2_add 75 = .ok (.getfield 30, 3) := by decide +kernel
theorem dX2_add_78 : decode cX2_add 78 = .ok (.aload_n 0, 1) := by decide +kernel
theorem dX2_add_79 : decode cX2_add 79 = .ok (.getfield 37, 3) := by decide +kernel
theorem dX2_add_82 : decode cX2_add 82 = .ok (.iload 7, 2) := by decide +kernel
theorem dX2_add_84 : decode cX2_add 84 = .ok (.bastore, 1) := by decide +kernel
theorem dX2_add_85 : decode cX2_add 85 = .ok (.aload_n 0, 1) := by decide +kernel
theorem dX2_add_86 : decode cX2_add 86 = .ok (.getfield 34, 3) := by decide +kernel
theorem dX2_add_89 : decode cX2_add 89 = .ok (.aload_n 0, 1) := by decide +kernel
theorem dX2_add_90 : decode cX2_add 90 = .ok (.getfield 37, 3) := by decide +kernel
theorem dX2_add_93 : decode cX2_add 93 = .ok (.iconst 1, 1) := by decide +kernel
theorem dX2_add_94 : decode cX2_add 94 = .ok (.bastore, 1) := by decide +kernel
theorem dX2_add_95 : decode cX2_add 95 = .ok (.aload_n 0, 1) := by decide +kernel
theorem dX2_add_96 : decode cX2_add 96 = .ok (.dup, 1) := by decide +kernel
theorem dX2_add_97 : decode cX2_add 97 = .ok (.getfield 37, 3) := by decide +kernel
theorem dX2_add_100 : decode cX2_add 100 = .ok (.iconst 1, 1) := by decide +kernel
theorem dX2_add_101 : decode cX2_add 101 = .ok (.iadd, 1) := by decide +kernel
theorem dX2_add_102 : decode cX2_add 102 = .ok (.putfield 37, 3) := by decide +kernel
theorem dX2_add_105 : decode cX2_add 105 = .ok (.return_, 1) := by decide +kernel
theorem dX2_flyingRow_0 : decode cX2_flyingRow 0 = .ok (.iload_n 1, 1) := by decide +kernel
theorem dX2_flyingRow_1 : decode cX2_flyingRow 1 = .ok (.istore_n 2, 1) := by decide +kernel
theorem dX2_flyingRow_2 : decode cX2_flyingRow 2 = .ok (.iconst 0, 1) := by decide +kernel
theorem dX2_flyingRow_3 : decode cX2_flyingRow 3 = .ok (.istore_n 3, 1) := by decide +kernel
theorem dX2_flyingRow_4 : decode cX2_flyingRow 4 = .ok (.iload_n 3, 1) := by decide +kernel
theorem dX2_flyingRow_5 : decode cX2_flyingRow 5 = .ok (.aload_n 0, 1) := by decide +kernel
theorem dX2_flyingRow_6 : decode cX2_flyingRow 6 = .ok (.getfield 37, 3) := by decide +kernel
theorem dX2_flyingRow_9 : decode cX2_flyingRow 9 = .ok (.if_icmp .ge 31, 3) := by decide +kernel
theorem dX2_flyingRow_12 : decode cX2_flyingRow 12 = .ok (.iload_n 2, 1) := by decide +kernel
theorem dX2_flyingRow_13 : decode cX2_flyingRow 13 = .ok (.ifCond .lt 27, 3) := by decide +kernel
theorem dX2_flyingRow_16 : decode cX2_flyingRow 16 = .ok (.aload_n 0, 1) := by decide +kernel
theorem dX2_flyingRow_17 : decode cX2_flyingRow 17 = .ok (.getfield 34, 3) := by decide +kernel
theorem dX2_flyingRow_20 : decode cX2_flyingRow 20 = .ok (.iload_n 3, 1) := by decide +kernel
theorem dX2_flyingRow_21 : decode cX2_flyingRow 21 = .ok (.baload, 1) := by decide +kernel
theorem dX2_flyingRow_22 : decode cX2_flyingRow 22 = .ok (.ifCond .eq 12, 3) := by decide +kernel
theorem dX2_flyingRow_25 : decode cX2_flyingRow 25 = .ok (.iload_n 2, 1) := by decide +kernel
theorem dX2_flyingRow_26 : decode cX2_flyingRow 26 = .ok (.ifCond .ne 5, 3) := by decide +kernel
theorem dX2_flyingRow_29 : decode cX2_flyingRow 29 = .ok (.iload_n 3, 1) := by decide +kernel
theorem dX2_flyingRow_30 : decode cX2_flyingRow 30 = .ok (.ireturn, 1) := by decide +kernel
theorem dX2_flyingRow_31 : decode cX2_flyingRow 31 = .ok (.iinc 2 (-1), 3) := by decide +kernel
theorem dX2_flyingRow_34 : decode cX2_flyingRow 34 = .ok (.iinc 3 1, 3) := by decide +kernel
theorem dX2_flyingRow_37 : decode cX2_flyingRow 37 = .ok (.goto (-33), 3) := by decide +kernel
theorem dX2_flyingRow_40 : decode cX2_flyingRow 40 = .ok (.iconst (-1), 1) := by decide +kernel
theorem dX2_flyingRow_41 : decode cX2_flyingRow 41 = .ok (.ireturn, 1) := by decide +kernel
theorem dX2_rowOf_0 : decode cX2_rowOf 0 = .ok (.iconst 0, 1) := by decide +kernel
theorem dX2_rowOf_1 : decode cX2_rowOf 1 = .ok (.istore_n 3, 1) := by decide +kernel
theorem dX2_rowOf_2 : decode cX2_rowOf 2 = .ok (.iload_n 3, 1) := by decide +kernel
theorem dX2_rowOf_3 : decode cX2_rowOf 3 = .ok (.aload_n 0, 1) := by decide +kernel
theorem dX2_rowOf_4 : decode cX2_rowOf 4 = .ok (.getfield 37, 3) := by decide +kernel
theorem dX2_rowOf_7 : decode cX2_rowOf 7 = .ok (.if_icmp .ge 40, 3) := by decide +kernel
theorem dX2_rowOf_10 : decode cX2_rowOf 10 = .ok (.aload_n 0, 1) := by decide +kernel
theorem dX2_rowOf_11 : decode cX2_rowOf 11 = .ok (.getfield 34, 3) := by decide +kernel
theorem dX2_rowOf_14 : decode cX2_rowOf 14 = .ok (.iload_n 3, 1) := by decide +kernel
theorem dX2_rowOf_15 : decode cX2_rowOf 15 = .ok (.baload, 1) := by decide +kernel
theorem dX2_rowOf_16 : decode cX2_rowOf 16 = .ok (.ifCond .eq 25, 3) := by decide +kernel
theorem dX2_rowOf_19 : decode cX2_rowOf 19 = .ok (.aload_n 0, 1) := by decide +kernel
theorem dX2_rowOf_20 : decode cX2_rowOf 20 = .ok (.getfield 11, 3) := by decide +kernel
theorem dX2_rowOf_23 : decode cX2_rowOf 23 = .ok (.iload_n 3, 1) := by decide +kernel
theorem dX2_rowOf_24 : decode cX2_rowOf 24 = .ok (.iaload, 1) := by decide +kernel
theorem dX2_rowOf_25 : decode cX2_rowOf 25 = .ok (.iload_n 1, 1) := by decide +kernel
theorem dX2_rowOf_26 : decode cX2_rowOf 26 = .ok (.if_icmp .ne 15, 3) := by decide +kernel
theorem dX2_rowOf_29 : decode cX2_rowOf 29 = .ok (.aload_n 0, 1) := by decide +kernel
theorem dX2_rowOf_30 : decode cX2_rowOf 30 = .ok (.getfield 15, 3) := by decide +kernel
theorem dX2_rowOf_33 : decode cX2_rowOf 33 = .ok (.iload_n 3, 1) := by decide +kernel
theorem dX2_rowOf_34 : decode cX2_rowOf 34 = .ok (.iaload, 1) := by decide +kernel
theorem dX2_rowOf_35 : decode cX2_rowOf 35 = .ok (.iload_n 2, 1) := by decide +kernel
theorem dX2_rowOf_36 : decode cX2_rowOf 36 = .ok (.if_icmp .ne 5, 3) := by decide +kernel
theorem dX2_rowOf_39 : decode cX2_rowOf 39 = .ok (.iload_n 3, 1) := by decide +kernel
theorem dX2_rowOf_40 : decode cX2_rowOf 40 = .ok (.ireturn, 1) := by decide +kernel
theorem dX2_rowOf_41 : decode cX2_rowOf 41 = .ok (.iinc 3 1, 3) := by decide +kernel
theorem dX2_rowOf_44 : decode cX2_rowOf 44 = .ok (.goto (-42), 3) := by decide +kernel
theorem dX2_rowOf_47 : decode cX2_rowOf 47 = .ok (.iconst (-1), 1) := by decide +kernel
theorem dX2_rowOf_48 : decode cX2_rowOf 48 = .ok (.ireturn, 1) := by decide +kernel
theorem dX2_firstOn_0 : decode cX2_firstOn 0 = .ok (.iconst 0, 1) := by decide +kernel
theorem dX2_firstOn_1 : decode cX2_firstOn 1 = .ok (.istore_n 2, 1) := by decide +kernel
theorem dX2_firstOn_2 : decode cX2_firstOn 2 = .ok (.iload_n 2, 1) := by decide +kernel
theorem dX2_firstOn_3 : decode cX2_firstOn 3 = .ok (.aload_n 0, 1) := by decide +kernel
theorem dX2_firstOn_4 : decode cX2_firstOn 4 = .ok (.getfield 37, 3) := by decide +kernel
theorem dX2_firstOn_7 : decode cX2_firstOn 7 = .ok (.if_icmp .ge 30, 3) := by decide +kernel
theorem dX2_firstOn_10 : decode cX2_firstOn 10 = .ok (.aload_n 0, 1) := by decide +kernel
theorem dX2_firstOn_11 : decode cX2_firstOn 11 = .ok (.getfield 34, 3) := by decide +kernel
theorem dX2_firstOn_14 : decode cX2_firstOn 14 = .ok (.iload_n 2, 1) := by decide +kernel
theorem dX2_firstOn_15 : decode cX2_firstOn 15 = .ok (.baload, 1) := by decide +kernel
theorem dX2_firstOn_16 : decode cX2_firstOn 16 = .ok (.ifCond .eq 15, 3) := by decide +kernel
theorem dX2_firstOn_19 : decode cX2_firstOn 19 = .ok (.aload_n 0, 1) := by decide +kernel
theorem dX2_firstOn_20 : decode cX2_firstOn 20 = .ok (.getfield 11, 3) := by decide +kernel
theorem dX2_firstOn_23 : decode cX2_firstOn 23 = .ok (.iload_n 2, 1) := by decide +kernel
theorem dX2_firstOn_24 : decode cX2_firstOn 24 = .ok (.iaload, 1) := by decide +kernel
theorem dX2_firstOn_25 : decode cX2_firstOn 25 = .ok (.iload_n 1, 1) := by decide +kernel
theorem dX2_firstOn_26 : decode cX2_firstOn 26 = .ok (.if_icmp .ne 5, 3) := by decide +kernel
theorem dX2_firstOn_29 : decode cX2_firstOn 29 = .ok (.iload_n 2, 1) := by decide +kernel
theorem dX2_firstOn_30 : decode cX2_firstOn 30 = .ok (.ireturn, 1) := by decide +kernel
theorem dX2_firstOn_31 : decode cX2_firstOn 31 = .ok (.iinc 2 1, 3) := by decide +kernel
theorem dX2_firstOn_34 : decode cX2_firstOn 34 = .ok (.goto (-32), 3) := by decide +kernel
theorem dX2_firstOn_37 : decode cX2_firstOn 37 = .ok (.iconst (-1), 1) := by decide +kernel
theorem dX2_firstOn_38 : decode cX2_firstOn 38 = .ok (.ireturn, 1) := by decide +kernel
theorem dX2_firstWith_0 : decode cX2_firstWith 0 = .ok (.iconst 0, 1) := by decide +kernel
theorem dX2_firstWith_1 : decode cX2_firstWith 1 = .ok (.istore_n 2, 1) := by decide +kernel
theorem dX2_firstWith_2 : decode cX2_firstWith 2 = .ok (.iload_n 2, 1) := by decide +kernel
theorem dX2_firstWith_3 : decode cX2_firstWith 3 = .ok (.aload_n 0, 1) := by decide +kernel
theorem dX2_firstWith_4 : decode cX2_firstWith 4 = .ok (.getfield 37, 3) := by decide +kernel
theorem dX2_firstWith_7 : decode cX2_firstWith 7 = .ok (.if_icmp .ge 47, 3) := by decide +kernel
theorem dX2_firstWith_10 : decode cX2_firstWith 10 = .ok (.aload_n 0, 1) := by decide +kernel
theorem dX2_firstWith_11 : decode cX2_firstWith 11 = .ok (.getfield 34, 3) := by decide +kernel
theorem dX2_firstWith_14 : decode cX2_firstWith 14 = .ok (.iload_n 2, 1) := by decide +kernel
theorem dX2_firstWith_15 : decode cX2_firstWith 15 = .ok (.baload, 1) := by decide +kernel
theorem dX2_firstWith_16 : decode cX2_firstWith 16 = .ok (.ifCond .eq 32, 3) := by decide +kernel
theorem dX2_firstWith_19 : decode cX2_firstWith 19 = .ok (.aload_n 0, 1) := by decide +kernel
theorem dX2_firstWith_20 : decode cX2_firstWith 20 = .ok (.getfield 18, 3) := by decide +kernel
theorem dX2_firstWith_23 : decode cX2_firstWith 23 = .ok (.iload_n 2, 1) := by decide +kernel
theorem dX2_firstWith_24 : decode cX2_firstWith 24 = .ok (.iaload, 1) := by decide +kernel
theorem dX2_firstWith_25 : decode cX2_firstWith 25 = .ok (.iload_n 1, 1) := by decide +kernel
theorem dX2_firstWith_26 : decode cX2_firstWith 26 = .ok (.if_icmp .gt 22, 3) := by decide +kernel
theorem dX2_firstWith_29 : decode cX2_firstWith 29 = .ok (.iload_n 1, 1) := by decide +kernel
theorem dX2_firstWith_30 : decode cX2_firstWith 30 = .ok (.aload_n 0, 1) := by decide +kernel
theorem dX2_firstWith_31 : decode cX2_firstWith 31 = .ok (.getfield 18, 3) := by decide +kernel
theorem dX2_firstWith_34 : decode cX2_firstWith 34 = .ok (.iload_n 2, 1) := by decide +kernel
theorem dX2_firstWith_35 : decode cX2_firstWith 35 = .ok (.iaload, 1) := by decide +kernel
theorem dX2_firstWith_36 : decode cX2_firstWith 36 = .ok (.aload_n 0, 1) := by decide +kernel
theorem dX2_firstWith_37 : decode cX2_firstWith 37 = .ok (.getfield 21, 3) := by decide +kernel
theorem dX2_firstWith_40 : decode cX2_firstWith 40 = .ok (.iload_n 2, 1) := by decide +kernel
theorem dX2_firstWith_41 : decode cX2_firstWith 41 = .ok (.iaload, 1) := by decide +kernel
theorem dX2_firstWith_42 : decode cX2_firstWith 42 = .ok (.iadd, 1) := by decide +kernel
theorem dX2_firstWith_43 : decode cX2_firstWith 43 = .ok (.if_icmp .ge 5, 3) := by decide +kernel
theorem dX2_firstWith_46 : decode cX2_firstWith 46 = .ok (.iload_n 2, 1) := by decide +kernel
theorem dX2_firstWith_47 : decode cX2_firstWith 47 = .ok (.ireturn, 1) := by decide +kernel
theorem dX2_firstWith_48 : decode cX2_firstWith 48 = .ok (.iinc 2 1, 3) := by decide +kernel
theorem dX2_firstWith_51 : decode cX2_firstWith 51 = .ok (.goto (-49), 3) := by decide +kernel
theorem dX2_firstWith_54 : decode cX2_firstWith 54 = .ok (.iconst (-1), 1) := by decide +kernel
theorem dX2_firstWith_55 : decode cX2_firstWith 55 = .ok (.ireturn, 1) := by decide +kernel
theorem dX2_tidy_0 : decode cX2_tidy 0 = .ok (.iconst 0, 1) := by decide +kernel
theorem dX2_tidy_1 : decode cX2_tidy 1 = .ok (.istore_n 2, 1) := by decide +kernel
theorem dX2_tidy_2 : decode cX2_tidy 2 = .ok (.iconst 0, 1) := by decide +kernel
theorem dX2_tidy_3 : decode cX2_tidy 3 = .ok (.istore_n 3, 1) := by decide +kernel
theorem dX2_tidy_4 : decode cX2_tidy 4 = .ok (.iload_n 3, 1) := by decide +kernel
theorem dX2_tidy_5 : decode cX2_tidy 5 = .ok (.aload_n 0, 1) := by decide +kernel
theorem dX2_tidy_6 : decode cX2_tidy 6 = .ok (.getfield 37, 3) := by decide +kernel
theorem dX2_tidy_9 : decode cX2_tidy 9 = .ok (.if_icmp .ge 42, 3) := by decide +kernel
theorem dX2_tidy_12 : decode cX2_tidy 12 = .ok (.aload_n 0, 1) := by decide +kernel
theorem dX2_tidy_13 : decode cX2_tidy 13 = .ok (.getfield 34, 3) := by decide +kernel
theorem dX2_tidy_16 : decode cX2_tidy 16 = .ok (.iload_n 3, 1) := by decide +kernel
theorem dX2_tidy_17 : decode cX2_tidy 17 = .ok (.baload, 1) := by decide +kernel
theorem dX2_tidy_18 : decode cX2_tidy 18 = .ok (.ifCond .ne 13, 3) := by decide +kernel
theorem dX2_tidy_21 : decode cX2_tidy 21 = .ok (.aload_n 0, 1) := by decide +kernel
theorem dX2_tidy_22 : decode cX2_tidy 22 = .ok (.getfield 27, 3) := by decide +kernel
theorem dX2_tidy_25 : decode cX2_tidy 25 = .ok (.iload_n 3, 1) := by decide +kernel
theorem dX2_tidy_26 : decode cX2_tidy 26 = .ok (.iaload, 1) := by decide +kernel
theorem dX2_tidy_27 : decode cX2_tidy 27 = .ok (.iload_n 1, 1) := by decide +kernel
theorem dX2_tidy_28 : decode cX2_tidy 28 = .ok (.if_icmp .le 17, 3) := by decide +kernel
theorem dX2_tidy_31 : decode cX2_tidy 31 = .ok (.iload_n 2, 1) := by decide +kernel
theorem dX2_tidy_32 : decode cX2_tidy 32 = .ok (.iload_n 3, 1) := by decide +kernel
theorem dX2_tidy_33 : decode cX2_tidy 33 = .ok (.if_icmp .ge 9, 3) := by decide +kernel
theorem dX2_tidy_36 : decode cX2_tidy 36 = .ok (.aload_n 0, 1) := by decide +kernel
theorem dX2_tidy_37 : decode cX2_tidy 37 = .ok (.iload_n 3, 1) := by decide +kernel
theorem dX2_tidy_38 : decode cX2_tidy 38 = .ok (.iload_n 2, 1) := by decide +kernel
theorem dX2_tidy_39 : decode cX2_tidy 39 = .ok (.invokevirtual 47, 3) := by decide +kernel
theorem dX2_tidy_42 : decode cX2_tidy 42 = .ok (.iinc 2 1, 3) := by decide +kernel
theorem dX2_tidy_45 : decode cX2_tidy 45 = .ok (.iinc 3 1, 3) := by decide +kernel
theorem dX2_tidy_48 : decode cX2_tidy 48 = .ok (.goto (-44), 3) := by decide +kernel
theorem dX2_tidy_51 : decode cX2_tidy 51 = .ok (.aload_n 0, 1) := by decide +kernel
theorem dX2_tidy_52 : decode cX2_tidy 52 = .ok (.iload_n 2, 1) := by decide +kernel
theorem dX2_tidy_53 : decode cX2_tidy 53 = .ok (.putfield 37, 3) := by decide +kernel
theorem dX2_tidy_56 : decode cX2_tidy 56 = .ok (.return_, 1) := by decide +kernel
theorem dX2_move_0 : decode cX2_move 0 = .ok (.aload_n 0, 1) := by decide +kernel
theorem dX2_move_1 : decode cX2_move 1 = .ok (.getfield 11, 3) := by decide +kernel
theorem dX2_move_4 : decode cX2_move 4 = .ok (.iload_n 2, 1) := by decide +kernel
theorem dX2_move_5 : decode cX2_move 5 = .ok (.aload_n 0, 1) := by decide +kernel
theorem dX2_move_6 : decode cX2_move 6 = .ok (.getfield 11, 3) := by decide +kernel
theorem dX2_move_9 : decode cX2_move 9 = .ok (.iload_n 1, 1) := by decide +kernel
theorem dX2_move_10 : decode cX2_move 10 = .ok (.iaload, 1) := by decide +kernel
theorem dX2_move_11 : decode cX2_move 11 = .ok (.iastore, 1) := by decide +kernel
theorem dX2_move_12 : decode cX2_move 12 = .ok (.aload_n 0, 1) := by decide +kernel
theorem dX2_move_13 : decode cX2_move 13 = .ok (.getfield 15, 3) := by decide +kernel
theorem dX2_move_16 : decode cX2_move 16 = .ok (.iload_n 2, 1) := by decide +kernel
theorem dX2_move_17 : decode cX2_move 17 = .ok (.aload_n 0, 1) := by decide +kernel
theorem dX2_move_18 : decode cX2_move 18 = .ok (.getfield 15, 3) := by decide +kernel
theorem dX2_move_21 : decode cX2_move 21 = .ok (.iload_n 1, 1) := by decide +kernel
theorem dX2_move_22 : decode cX2_move 22 = .ok (.iaload, 1) := by decide +kernel
theorem dX2_move_23 : decode cX2_move 23 = .ok (.iastore, 1) := by decide +kernel
theorem dX2_move_24 : decode cX2_move 24 = .ok (.aload_n 0, 1) := by decide +kernel
theorem dX2_move_25 : decode cX2_move 25 = .ok (.getfield 18, 3) := by decide +kernel
theorem dX2_move_28 : decode cX2_move 28 = .ok (.iload_n 2, 1) := by decide +kernel
theorem dX2_move_29 : decode cX2_move 29 = .ok (.aload_n 0, 1) := by decide +kernel
theorem dX2_move_30 : decode cX2_move 30 = .ok (.getfield 18, 3) := by decide +kernel
theorem dX2_move_33 : decode cX2_move 33 = .ok (.iload_n 1, 1) := by decide +kernel
theorem dX2_move_34 : decode cX2_move 34 = .ok (.iaload, 1) := by decide +kernel
theorem dX2_move_35 : decode cX2_move 35 = .ok (.iastore, 1) := by decide +kernel
theorem dX2_move_36 : decode cX2_move 36 = .ok (.aload_n 0, 1) := by decide +kernel
theorem dX2_move_37 : decode cX2_move 37 = .ok (.getfield 21, 3) := by decide +kernel
theorem dX2_move_40 : decode cX2_move 40 = .ok (.iload_n 2, 1) := by decide +kernel
theorem dX2_move_41 : decode cX2_move 41 = .ok (.aload_n 0, 1) := by decide +kernel
theorem dX2_move_42 : decode cX2_move 42 = .ok (.getfield 21, 3) := by decide +kernel
theorem dX2_move_45 : decode cX2_move 45 = .ok (.iload_n 1, 1) := by decide +kernel
theorem dX2_move_46 : decode cX2_move 46 = .ok (.iaload, 1) := by decide +kernel
theorem dX2_move_47 : decode cX2_move 47 = .ok (.iastore, 1) := by decide +kernel
theorem dX2_move_48 : decode cX2_move 48 = .ok (.aload_n 0, 1) := by decide +kernel
theorem dX2_move_49 : decode cX2_move 49 = .ok (.getfield 24, 3) := by decide +kernel
theorem dX2_move_52 : decode cX2_move 52 = .ok (.iload_n 2, 1) := by decide +kernel
theorem dX2_move_53 : decode cX2_move 53 = .ok (.aload_n 0, 1) := by decide +kernel
theorem dX2_move_54 : decode cX2_move 54 = .ok (.getfield 24, 3) := by decide +kernel
theorem dX2_move_57 : decode cX2_move 57 = .ok (.iload_n 1, 1) := by decide +kernel
theorem dX2_move_58 : decode cX2_move 58 = .ok (.iaload, 1) := by decide +kernel
theorem dX2_move_59 : decode cX2_move 59 = .ok (.iastore, 1) := by decide +kernel
theorem dX2_move_60 : decode cX2_move 60 = .ok (.aload_n 0, 1) := by decide +kernel
theorem dX2_move_61 : decode cX2_move 61 = .ok (.getfield 27, 3) := by decide +kernel
theorem dX2_move_64 : decode cX2_move 64 = .ok (.iload_n 2, 1) := by decide +kernel
theorem dX2_move_65 : decode cX2_move 65 = .ok (.aload_n 0, 1) := by decide +kernel
theorem dX2_move_66 : decode cX2_move 66 = .ok (.getfield 27, 3) := by decide +kernel
theorem dX2_move_69 : decode cX2_move 69 = .ok (.iload_n 1, 1) := by decide +kernel
theorem dX2_move_70 : decode cX2_move 70 = .ok (.iaload, 1) := by decide +kernel
theorem dX2_move_71 : decode cX2_move 71 = .ok (.iastore, 1) := by decide +kernel
theorem dX2_move_72 : decode cX2_move 72 = .ok (.aload_n 0, 1) := by decide +kernel
theorem dX2_move_73 : decode cX2_move 73 = .ok (.getfield 30, 3) := by decide +kernel
theorem dX2_move_76 : decode cX2_move 76 = .ok (.iload_n 2, 1) := by decide +kernel
theorem dX2_move_77 : decode cX2_move 77 = .ok (.aload_n 0, 1) := by decide +kernel
theorem dX2_move_78 : decode cX2_move 78 = .ok (.getfield 30, 3) := by decide +kernel
theorem dX2_move_81 : decode cX2_move 81 = .ok (.iload_n 1, 1) := by decide +kernel
theorem dX2_move_82 : decode cX2_move 82 = .ok (.baload, 1) := by decide +kernel
theorem dX2_move_83 : decode cX2_move 83 = .ok (.bastore, 1) := by decide +kernel
theorem dX2_move_84 : decode cX2_move 84 = .ok (.aload_n 0, 1) := by decide +kernel
theorem dX2_move_85 : decode cX2_move 85 = .ok (.getfield 34, 3) := by decide +kernel
theorem dX2_move_88 : decode cX2_move 88 = .ok (.iload_n 2, 1) := by decide +kernel
theorem dX2_move_89 : decode cX2_move 89 = .ok (.aload_n 0, 1) := by decide +kernel
theorem dX2_move_90 : decode cX2_move 90 = .ok (.getfield 34, 3) := by decide +kernel
theorem dX2_move_93 : decode cX2_move 93 = .ok (.iload_n 1, 1) := by decide +kernel
theorem dX2_move_94 : decode cX2_move 94 = .ok (.baload, 1) := by decide +kernel
theorem dX2_move_95 : decode cX2_move 95 = .ok (.bastore, 1) := by decide +kernel
theorem dX2_move_96 : decode cX2_move 96 = .ok (.return_, 1) := by decide +kernel
theorem dX3_init_0 : decode cX3_init 0 = .ok (.aload_n 0, 1) := by decide +kernel
theorem dX3_init_1 : decode cX3_init 1 = .ok (.invokespecial 3, 3) := by decide +kernel
theorem dX3_init_4 : decode cX3_init 4 = .ok (.aload_n 0, 1) := by decide +kernel
theorem dX3_init_5 : decode cX3_init 5 = .ok (.sipush 1600, 3) := by decide +kernel
theorem dX3_init_8 : decode cX3_init 8 = .ok (.newarray .int, 2) := by decide +kernel
theorem dX3_init_10 : decode cX3_init 10 = .ok (.putfield 9, 3) := by decide +kernel
theorem dX3_init_13 : decode cX3_init 13 = .ok (.aload_n 0, 1) := by decide +kernel
theorem dX3_init_14 : decode cX3_init 14 = .ok (.bipush 96, 2) := by decide +kernel
theorem dX3_init_16 : decode cX3_init 16 = .ok (.newarray .int, 2) := by decide +kernel
theorem dX3_init_18 : decode cX3_init 18 = .ok (.putfield 15, 3) := by decide +kernel
theorem dX3_init_21 : decode cX3_init 21 = .ok (.return_, 1) := by decide +kernel
theorem dX3_isTold_0 : decode cX3_isTold 0 = .ok (.aload_n 0, 1) := by decide +kernel
theorem dX3_isTold_1 : decode cX3_isTold 1 = .ok (.getfield 18, 3) := by decide +kernel
theorem dX3_isTold_4 : decode cX3_isTold 4 = .ok (.ifCond .le 7, 3) := by decide +kernel
theorem dX3_isTold_7 : decode cX3_isTold 7 = .ok (.iconst 1, 1) := by decide +kernel
theorem dX3_isTold_8 : decode cX3_isTold 8 = .ok (.goto 4, 3) := by decide +kernel
theorem dX3_isTold_11 : decode cX3_isTold 11 = .ok (.iconst 0, 1) := by decide +kernel
theorem dX3_isTold_12 : decode cX3_isTold 12 = .ok (.ireturn, 1) := by decide +kernel
theorem dX3_put_0 : decode cX3_put 0 = .ok (.aload_n 0, 1) := by decide +kernel
theorem dX3_put_1 : decode cX3_put 1 = .ok (.getfield 18, 3) := by decide +kernel
theorem dX3_put_4 : decode cX3_put 4 = .ok (.sipush 1600, 3) := by decide +kernel
theorem dX3_put_7 : decode cX3_put 7 = .ok (.if_icmp .ge 28, 3) := by decide +kernel
theorem dX3_put_10 : decode cX3_put 10 = .ok (.aload_n 0, 1) := by decide +kernel
theorem dX3_put_11 : decode cX3_put 11 = .ok (.getfield 9, 3) := by decide +kernel
theorem dX3_put_14 : decode cX3_put 14 = .ok (.aload_n 0, 1) := by decide +kernel
theorem dX3_put_15 : decode cX3_put 15 = .ok (.getfield 18, 3) := by decide +kernel
theorem dX3_put_18 : decode cX3_put 18 = .ok (.iload_n 1, 1) := by decide +kernel
theorem dX3_put_19 : decode cX3_put 19 = .ok (.bipush 16, 2) := by decide +kernel
theorem dX3_put_21 : decode cX3_put 21 = .ok (.ishl, 1) := by decide +kernel
theorem dX3_put_22 : decode cX3_put 22 = .ok (.iload_n 2, 1) := by decide +kernel
theorem dX3_put_23 : decode cX3_put 23 = .ok (.ior, 1) := by decide +kernel
theorem dX3_put_24 : decode cX3_put 24 = .ok (.iastore, 1) := by decide +kernel
theorem dX3_put_25 : decode cX3_put 25 = .ok (.aload_n 0, 1) := by decide +kernel
theorem dX3_put_26 : decode cX3_put 26 = .ok (.dup, 1) := by decide +kernel
theorem dX3_put_27 : decode cX3_put 27 = .ok (.getfield 18, 3) := by decide +kernel
theorem dX3_put_30 : decode cX3_put 30 = .ok (.iconst 1, 1) := by decide +kernel
theorem dX3_put_31 : decode cX3_put 31 = .ok (.iadd, 1) := by decide +kernel
theorem dX3_put_32 : decode cX3_put 32 = .ok (.putfield 18, 3) := by decide +kernel
theorem dX3_put_35 : decode cX3_put 35 = .ok (.return_, 1) := by decide +kernel
theorem dX3_valueBy_0 : decode cX3_valueBy 0 = .ok (.iconst 0, 1) := by decide +kernel
theorem dX3_valueBy_1 : decode cX3_valueBy 1 = .ok (.istore_n 2, 1) := by decide +kernel
theorem dX3_valueBy_2 : decode cX3_valueBy 2 = .ok (.iconst 0, 1) := by decide +kernel
theorem dX3_valueBy_3 : decode cX3_valueBy 3 = .ok (.istore_n 3, 1) := by decide +kernel
theorem dX3_valueBy_4 : decode cX3_valueBy 4 = .ok (.iload_n 3, 1) := by decide +kernel
theorem dX3_valueBy_5 : decode cX3_valueBy 5 = .ok (.aload_n 0, 1) := by decide +kernel
theorem dX3_valueBy_6 : decode cX3_valueBy 6 = .ok (.getfield 18, 3) := by decide +kernel
theorem dX3_valueBy_9 : decode cX3_valueBy 9 = .ok (.if_icmp .ge 202, 3) := by decide +kernel
theorem dX3_valueBy_12 : decode cX3_valueBy 12 = .ok (.aload_n 0, 1) := by decide +kernel
theorem dX3_valueBy_13 : decode cX3_valueBy 13 = .ok (.getfield 9, 3) := by decide +kernel
theorem dX3_valueBy_16 : decode cX3_valueBy 16 = .ok (.iload_n 3, 1) := by decide +kernel
theorem dX3_valueBy_17 : decode cX3_valueBy 17 = .ok (.iaload, 1) := by decide +kernel
theorem dX3_valueBy_18 : decode cX3_valueBy 18 = .ok (.bipush 16, 2) := by decide +kernel
theorem dX3_valueBy_20 : decode cX3_valueBy 20 = .ok (.ishr, 1) := by decide +kernel
theorem dX3_valueBy_21 : decode cX3_valueBy 21 = .ok (.istore 4, 2) := by decide +kernel
theorem dX3_valueBy_23 : decode cX3_valueBy 23 = .ok (.aload_n 0, 1) := by decide +kernel
theorem dX3_valueBy_24 : decode cX3_valueBy 24 = .ok (.getfield 9, 3) := by decide +kernel
theorem dX3_valueBy_27 : decode cX3_valueBy 27 = .ok (.iload_n 3, 1) := by decide +kernel
theorem dX3_valueBy_28 : decode cX3_valueBy 28 = .ok (.iaload, 1) := by decide +kernel
theorem dX3_valueBy_29 : decode cX3_valueBy 29 = .ok (.ldc 22, 2) := by decide +kernel
theorem dX3_valueBy_31 : decode cX3_valueBy 31 = .ok (.iand, 1) := by decide +kernel
theorem dX3_valueBy_32 : decode cX3_valueBy 32 = .ok (.istore 5, 2) := by decide +kernel
theorem dX3_valueBy_34 : decode cX3_valueBy 34 = .ok (.iload 4, 2) := by decide +kernel
theorem dX3_valueBy_36 : decode cX3_valueBy 36 = .ok (.ifCond .eq 9, 3) := by decide +kernel
theorem dX3_valueBy_39 : decode cX3_valueBy 39 = .ok (.iload 4, 2) := by decide +kernel
theorem dX3_valueBy_41 : decode cX3_valueBy 41 = .ok (.iconst 1, 1) := by decide +kernel
theorem dX3_valueBy_42 : decode cX3_valueBy 42 = .ok (.if_icmp .ne 37, 3) := by decide +kernel
theorem dX3_valueBy_45 : decode cX3_valueBy 45 = .ok (.iload_n 2, 1) := by decide +kernel
theorem dX3_valueBy_46 : decode cX3_valueBy 46 = .ok (.bipush 96, 2) := by decide +kernel
theorem dX3_valueBy_48 : decode cX3_valueBy 48 = .ok (.if_icmp .lt 5, 3) := by decide +kernel
theorem dX3_valueBy_51 : decode cX3_valueBy 51 = .ok (.iconst 0, 1) := by decide +kernel
theorem dX3_valueBy_52 : decode cX3_valueBy 52 = .ok (.ireturn, 1) := by decide +kernel
theorem dX3_valueBy_53 : decode cX3_valueBy 53 = .ok (.aload_n 0, 1) := by decide +kernel
theorem dX3_valueBy_54 : decode cX3_valueBy 54 = .ok (.getfield 15, 3) := by decide +kernel
theorem dX3_valueBy_57 : decode cX3_valueBy 57 = .ok (.iload_n 2, 1) := by decide +kernel
theorem dX3_valueBy_58 : decode cX3_valueBy 58 = .ok (.iload 4, 2) := by decide +kernel
theorem dX3_valueBy_60 : decode cX3_valueBy 60 = .ok (.ifCond .ne 8, 3) := by decide +kernel
theorem dX3_valueBy_63 : decode cX3_valueBy 63 = .ok (.iload 5, 2) := by decide +kernel
theorem dX3_valueBy_65 : decode cX3_valueBy 65 = .ok (.goto 7, 3) := by decide +kernel
theorem dX3_valueBy_68 : decode cX3_valueBy 68 = .ok (.aload_n 1, 1) := by decide +kernel
theorem dX3_valueBy_69 : decode cX3_valueBy 69 = .ok (.iload 5, 2) := by decide +kernel
theorem dX3_valueBy_71 : decode cX3_valueBy 71 = .ok (.iaload, 1) := by decide +kernel
theorem dX3_valueBy_72 : decode cX3_valueBy 72 = .ok (.iastore, 1) := by decide +kernel
theorem dX3_valueBy_73 : decode cX3_valueBy 73 = .ok (.iinc 2 1, 3) := by decide +kernel
theorem dX3_valueBy_76 : decode cX3_valueBy 76 = .ok (.goto 129, 3) := by decide +kernel
theorem dX3_valueBy_79 : decode cX3_valueBy 79 = .ok (.iload 4, 2) := by decide +kernel
theorem dX3_valueBy_81 : decode cX3_valueBy 81 = .ok (.iconst 2, 1) := by decide +kernel
theorem dX3_valueBy_82 : decode cX3_valueBy 82 = .ok (.if_icmp .ne 31, 3) := by decide +kernel
theorem dX3_valueBy_85 : decode cX3_valueBy 85 = .ok (.iload_n 2, 1) := by decide +kernel
theorem dX3_valueBy_86 : decode cX3_valueBy 86 = .ok (.iconst 1, 1) := by decide +kernel
theorem dX3_valueBy_87 : decode cX3_valueBy 87 = .ok (.if_icmp .ge 5, 3) := by decide +kernel
theorem dX3_valueBy_90 : decode cX3_valueBy 90 = .ok (.iconst 0, 1) := by decide +kernel
theorem dX3_valueBy_91 : decode cX3_valueBy 91 = .ok (.ireturn, 1) := by decide +kernel
theorem dX3_valueBy_92 : decode cX3_valueBy 92 = .ok (.aload_n 0, 1) := by decide +kernel
theorem dX3_valueBy_93 : decode cX3_valueBy 93 = .ok (.getfield 15, 3) := by decide +kernel
theorem dX3_valueBy_96 : decode cX3_valueBy 96 = .ok (.iload_n 2, 1) := by decide +kernel
theorem dX3_valueBy_97 : decode cX3_valueBy 97 = .ok (.iconst 1, 1) := by decide +kernel
theorem dX3_valueBy_98 : decode cX3_valueBy 98 = .ok (.isub, 1) := by decide +kernel
theorem dX3_valueBy_99 : decode cX3_valueBy 99 = .ok (.iconst 1, 1) := by decide +kernel
theorem dX3_valueBy_100 : decode cX3_valueBy 100 = .ok (.aload_n 0, 1) := by decide +kernel
theorem dX3_valueBy_101 : decode cX3_valueBy 101 = .ok (.getfield 15, 3) := by decide +kernel
theorem dX3_valueBy_104 : decode cX3_valueBy 104 = .ok (.iload_n 2, 1) := by decide +kernel
theorem dX3_valueBy_105 : decode cX3_valueBy 105 = .ok (.iconst 1, 1) := by decide +kernel
theorem dX3_valueBy_106 : decode cX3_valueBy 106 = .ok (.isub, 1) := by decide +kernel
theorem dX3_valueBy_107 : decode cX3_valueBy 107 = .ok (.iaload, 1) := by decide +kernel
theorem dX3_valueBy_108 : decode cX3_valueBy 108 = .ok (.isub, 1) := by decide +kernel
theorem dX3_valueBy_109 : decode cX3_valueBy 109 = .ok (.iastore, 1) := by decide +kernel
theorem dX3_valueBy_110 : decode cX3_valueBy 110 = .ok (.goto 95, 3) := by decide +kernel
theorem dX3_valueBy_113 : decode cX3_valueBy 113 = .ok (.iload 4, 2) := by decide +kernel
theorem dX3_valueBy_115 : decode cX3_valueBy 115 = .ok (.iconst 3, 1) := by decide +kernel
theorem dX3_valueBy_116 : decode cX3_valueBy 116 = .ok (.if_icmp .ne 52, 3) := by decide +kernel
theorem dX3_valueBy_119 : decode cX3_valueBy 119 = .ok (.iload_n 2, 1) := by decide +kernel
theorem dX3_valueBy_120 : decode cX3_valueBy 120 = .ok (.iconst 3, 1) := by decide +kernel
theorem dX3_valueBy_121 : decode cX3_valueBy 121 = .ok (.if_icmp .ge 5, 3) := by decide +kernel
theorem dX3_valueBy_124 : decode cX3_valueBy 124 = .ok (.iconst 0, 1) := by decide +kernel
theorem dX3_valueBy_125 : decode cX3_valueBy 125 = .ok (.ireturn, 1) := by decide +kernel
theorem dX3_valueBy_126 : decode cX3_valueBy 126 = .ok (.iinc 2 (-2), 3) := by decide +kernel
theorem dX3_valueBy_129 : decode cX3_valueBy 129 = .ok (.aload_n 0, 1) := by decide +kernel
theorem dX3_valueBy_130 : decode cX3_valueBy 130 = .ok (.getfield 15, 3) := by decide +kernel
theorem dX3_valueBy_133 : decode cX3_valueBy 133 = .ok (.iload_n 2, 1) := by decide +kernel
theorem dX3_valueBy_134 : decode cX3_valueBy 134 = .ok (.iconst 1, 1) := by decide +kernel
theorem dX3_valueBy_135 : decode cX3_valueBy 135 = .ok (.isub, 1) := by decide +kernel
theorem dX3_valueBy_136 : decode cX3_valueBy 136 = .ok (.aload_n 0, 1) := by decide +kernel
theorem dX3_valueBy_137 : decode cX3_valueBy 137 = .ok (.getfield 15, 3) := by decide +kernel
theorem dX3_valueBy_140 : decode cX3_valueBy 140 = .ok (.iload_n 2, 1) := by decide +kernel
theorem dX3_valueBy_141 : decode cX3_valueBy 141 = .ok (.iconst 1, 1) := by decide +kernel
theorem dX3_valueBy_142 : decode cX3_valueBy 142 = .ok (.isub, 1) := by decide +kernel
theorem dX3_valueBy_143 : decode cX3_valueBy 143 = .ok (.iaload, 1) := by decide +kernel
theorem dX3_valueBy_144 : decode cX3_valueBy 144 = .ok (.ifCond .eq 12, 3) := by decide +kernel
theorem dX3_valueBy_147 : decode cX3_valueBy 147 = .ok (.aload_n 0, 1) := by decide +kernel
theorem dX3_valueBy_148 : decode cX3_valueBy 148 = .ok (.getfield 15, 3) := by decide +kernel
theorem dX3_valueBy_151 : decode cX3_valueBy 151 = .ok (.iload_n 2, 1) := by decide +kernel
theorem dX3_valueBy_152 : decode cX3_valueBy 152 = .ok (.iaload, 1) := by decide +kernel
theorem dX3_valueBy_153 : decode cX3_valueBy 153 = .ok (.goto 11, 3) := by decide +kernel
theorem dX3_valueBy_156 : decode cX3_valueBy 156 = .ok (.aload_n 0, 1) := by decide +kernel
theorem dX3_valueBy_157 : decode cX3_valueBy 157 = .ok (.getfield 15, 3) := by decide +kernel
theorem dX3_valueBy_160 : decode cX3_valueBy 160 = .ok (.iload_n 2, 1) := by decide +kernel
theorem dX3_valueBy_161 : decode cX3_valueBy 161 = .ok (.iconst 1, 1) := by decide +kernel
theorem dX3_valueBy_162 : decode cX3_valueBy 162 = .ok (.iadd, 1) := by decide +kernel
theorem dX3_valueBy_163 : decode cX3_valueBy 163 = .ok (.iaload, 1) := by decide +kernel
theorem dX3_valueBy_164 : decode cX3_valueBy 164 = .ok (.iastore, 1) := by decide +kernel
theorem dX3_valueBy_165 : decode cX3_valueBy 165 = .ok (.goto 40, 3) := by decide +kernel
theorem dX3_valueBy_168 : decode cX3_valueBy 168 = .ok (.iload_n 2, 1) := by decide +kernel
theorem dX3_valueBy_169 : decode cX3_valueBy 169 = .ok (.iconst 2, 1) := by decide +kernel
theorem dX3_valueBy_170 : decode cX3_valueBy 170 = .ok (.if_icmp .ge 5, 3) := by decide +kernel
theorem dX3_valueBy_173 : decode cX3_valueBy 173 = .ok (.iconst 0, 1) := by decide +kernel
theorem dX3_valueBy_174 : decode cX3_valueBy 174 = .ok (.ireturn, 1) := by decide +kernel
theorem dX3_valueBy_175 : decode cX3_valueBy 175 = .ok (.iinc 2 (-1), 3) := by decide +kernel
theorem dX3_valueBy_178 : decode cX3_valueBy 178 = .ok (.aload_n 0, 1) := by decide +kernel
theorem dX3_valueBy_179 : decode cX3_valueBy 179 = .ok (.getfield 15, 3) := by decide +kernel
theorem dX3_valueBy_182 : decode cX3_valueBy 182 = .ok (.iload_n 2, 1) := by decide +kernel
theorem dX3_valueBy_183 : decode cX3_valueBy 183 = .ok (.iconst 1, 1) := by decide +kernel
theorem dX3_valueBy_184 : decode cX3_valueBy 184 = .ok (.isub, 1) := by decide +kernel
theorem dX3_valueBy_185 : decode cX3_valueBy 185 = .ok (.iload 4, 2) := by decide +kernel
theorem dX3_valueBy_187 : decode cX3_valueBy 187 = .ok (.aload_n 0, 1) := by decide +kernel
theorem dX3_valueBy_188 : decode cX3_valueBy 188 = .ok (.getfield 15, 3) := by decide +kernel
theorem dX3_valueBy_191 : decode cX3_valueBy 191 = .ok (.iload_n 2, 1) := by decide +kernel
theorem dX3_valueBy_192 : decode cX3_valueBy 192 = .ok (.iconst 1, 1) := by decide +kernel
theorem dX3_valueBy_193 : decode cX3_valueBy 193 = .ok (.isub, 1) := by decide +kernel
theorem dX3_valueBy_194 : decode cX3_valueBy 194 = .ok (.iaload, 1) := by decide +kernel
theorem dX3_valueBy_195 : decode cX3_valueBy 195 = .ok (.aload_n 0, 1) := by decide +kernel
theorem dX3_valueBy_196 : decode cX3_valueBy 196 = .ok (.getfield 15, 3) := by decide +kernel
theorem dX3_valueBy_199 : decode cX3_valueBy 199 = .ok (.iload_n 2, 1) := by decide +kernel
theorem dX3_valueBy_200 : decode cX3_valueBy 200 = .ok (.iaload, 1) := by decide +kernel
theorem dX3_valueBy_201 : decode cX3_valueBy 201 = .ok (.invokestatic 23, 3) := by decide +kernel
theorem dX3_valueBy_204 : decode cX3_valueBy 204 = .ok (.iastore, 1) := by decide +kernel
theorem dX3_valueBy_205 : decode cX3_valueBy 205 = .ok (.iinc 3 1, 3) := by decide +kernel
theorem dX3_valueBy_208 : decode cX3_valueBy 208 = .ok (.goto (-204), 3) := by decide +kernel
theorem dX3_valueBy_211 : decode cX3_valueBy 211 = .ok (.iload_n 2, 1) := by decide +kernel
theorem dX3_valueBy_212 : decode cX3_valueBy 212 = .ok (.ifCond .le 14, 3) := by decide +kernel
theorem dX3_valueBy_215 : decode cX3_valueBy 215 = .ok (.aload_n 0, 1) := by decide +kernel
theorem dX3_valueBy_216 : decode cX3_valueBy 216 = .ok (.getfield 15, 3) := by decide +kernel
theorem dX3_valueBy_219 : decode cX3_valueBy 219 = .ok (.iload_n 2, 1) := by decide +kernel
theorem dX3_valueBy_220 : decode cX3_valueBy 220 = .ok (.iconst 1, 1) := by decide +kernel
theorem dX3_valueBy_221 : decode cX3_valueBy 221 = .ok (.isub, 1) := by decide +kernel
theorem dX3_valueBy_222 : decode cX3_valueBy 222 = .ok (.iaload, 1) := by decide +kernel
theorem dX3_valueBy_223 : decode cX3_valueBy 223 = .ok (.goto 4, 3) := by decide +kernel
theorem dX3_valueBy_226 : decode cX3_valueBy 226 = .ok (.iconst 0, 1) := by decide +kernel
theorem dX3_valueBy_227 : decode cX3_valueBy 227 = .ok (.ireturn, 1) := by decide +kernel
theorem dX3_joinedBy_0 : decode cX3_joinedBy 0 = .ok (.lconst 0, 1) := by decide +kernel
theorem dX3_joinedBy_1 : decode cX3_joinedBy 1 = .ok (.lstore_n 3, 1) := by decide +kernel
theorem dX3_joinedBy_2 : decode cX3_joinedBy 2 = .ok (.iload_n 0, 1) := by decide +kernel
theorem dX3_joinedBy_3 : decode cX3_joinedBy 3 = .ok (.tableswitch 202 4 14 #[57, 66, 75, 84, 102, 120, 136, 152, 166, 180, 194], 57) := by decide +kernel
theorem dX3_joinedBy_60 : decode cX3_joinedBy 60 = .ok (.iload_n 1, 1) := by decide +kernel
theorem dX3_joinedBy_61 : decode cX3_joinedBy 61 = .ok (.i2l, 1) := by decide +kernel
theorem dX3_joinedBy_62 : decode cX3_joinedBy 62 = .ok (.iload_n 2, 1) := by decide +kernel
theorem dX3_joinedBy_63 : decode cX3_joinedBy 63 = .ok (.i2l, 1) := by decide +kernel
theorem dX3_joinedBy_64 : decode cX3_joinedBy 64 = .ok (.ladd, 1) := by decide +kernel
theorem dX3_joinedBy_65 : decode cX3_joinedBy 65 = .ok (.lstore_n 3, 1) := by decide +kernel
theorem dX3_joinedBy_66 : decode cX3_joinedBy 66 = .ok (.goto 144, 3) := by decide +kernel
theorem dX3_joinedBy_69 : decode cX3_joinedBy 69 = .ok (.iload_n 1, 1) := by decide +kernel
theorem dX3_joinedBy_70 : decode cX3_joinedBy 70 = .ok (.i2l, 1) := by decide +kernel
theorem dX3_joinedBy_71 : decode cX3_joinedBy 71 = .ok (.iload_n 2, 1) := by decide +kernel
theorem dX3_joinedBy_72 : decode cX3_joinedBy 72 = .ok (.i2l, 1) := by decide +kernel
theorem dX3_joinedBy_73 : decode cX3_joinedBy 73 = .ok (.lsub, 1) := by decide +kernel
theorem dX3_joinedBy_74 : decode cX3_joinedBy 74 = .ok (.lstore_n 3, 1) := by decide +kernel
theorem dX3_joinedBy_75 : decode cX3_joinedBy 75 = .ok (.goto 135, 3) := by decide +kernel
theorem dX3_joinedBy_78 : decode cX3_joinedBy 78 = .ok (.iload_n 1, 1) := by decide +kernel
theorem dX3_joinedBy_79 : decode cX3_joinedBy 79 = .ok (.i2l, 1) := by decide +kernel
theorem dX3_joinedBy_80 : decode cX3_joinedBy 80 = .ok (.iload_n 2, 1) := by decide +kernel
theorem dX3_joinedBy_81 : decode cX3_joinedBy 81 = .ok (.i2l, 1) := by decide +kernel
theorem dX3_joinedBy_82 : decode cX3_joinedBy 82 = .ok (.lmul, 1) := by decide +kernel
theorem dX3_joinedBy_83 : decode cX3_joinedBy 83 = .ok (.lstore_n 3, 1) := by decide +kernel
theorem dX3_joinedBy_84 : decode cX3_joinedBy 84 = .ok (.goto 126, 3) := by decide +kernel
theorem dX3_joinedBy_87 : decode cX3_joinedBy 87 = .ok (.iload_n 2, 1) := by decide +kernel
theorem dX3_joinedBy_88 : decode cX3_joinedBy 88 = .ok (.ifCond .ne 7, 3) := by decide +kernel
theorem dX3_joinedBy_91 : decode cX3_joinedBy 91 = .ok (.lconst 0, 1) := by decide +kernel
theorem dX3_joinedBy_92 : decode cX3_joinedBy 92 = .ok (.goto 9, 3) := by decide +kernel
theorem dX3_joinedBy_95 : decode cX3_joinedBy 95 = .ok (.iload_n 1, 1) := by decide +kernel
theorem dX3_joinedBy_96 : decode cX3_joinedBy 96 = .ok (.iload_n 2, 1) := by decide +kernel
theorem dX3_joinedBy_97 : decode cX3_joinedBy 97 = .ok (.invokestatic 27, 3) := by decide +kernel
theorem dX3_joinedBy_100 : decode cX3_joinedBy 100 = .ok (.i2l, 1) := by decide +kernel
theorem dX3_joinedBy_101 : decode cX3_joinedBy 101 = .ok (.lstore_n 3, 1) := by decide +kernel
theorem dX3_joinedBy_102 : decode cX3_joinedBy 102 = .ok (.goto 108, 3) := by decide +kernel
theorem dX3_joinedBy_105 : decode cX3_joinedBy 105 = .ok (.iload_n 2, 1) := by decide +kernel
theorem dX3_joinedBy_106 : decode cX3_joinedBy 106 = .ok (.ifCond .ne 7, 3) := by decide +kernel
theorem dX3_joinedBy_109 : decode cX3_joinedBy 109 = .ok (.lconst 0, 1) := by decide +kernel
theorem dX3_joinedBy_110 : decode cX3_joinedBy 110 = .ok (.goto 9, 3) := by decide +kernel
theorem dX3_joinedBy_113 : decode cX3_joinedBy 113 = .ok (.iload_n 1, 1) := by decide +kernel
theorem dX3_joinedBy_114 : decode cX3_joinedBy 114 = .ok (.iload_n 2, 1) := by decide +kernel
theorem dX3_joinedBy_115 : decode cX3_joinedBy 115 = .ok (.invokestatic 33, 3) := by decide +kernel
theorem dX3_joinedBy_118 : decode cX3_joinedBy 118 = .ok (.i2l, 1) := by decide +kernel
theorem dX3_joinedBy_119 : decode cX3_joinedBy 119 = .ok (.lstore_n 3, 1) := by decide +kernel
theorem dX3_joinedBy_120 : decode cX3_joinedBy 120 = .ok (.goto 90, 3) := by decide +kernel
theorem dX3_joinedBy_123 : decode cX3_joinedBy 123 = .ok (.iload_n 1, 1) := by decide +kernel
theorem dX3_joinedBy_124 : decode cX3_joinedBy 124 = .ok (.iload_n 2, 1) := by decide +kernel
theorem dX3_joinedBy_125 : decode cX3_joinedBy 125 = .ok (.if_icmp .ge 8, 3) := by decide +kernel
theorem dX3_joinedBy_128 : decode cX3_joinedBy 128 = .ok (.iload_n 1, 1) := by decide +kernel
theorem dX3_joinedBy_129 : decode cX3_joinedBy 129 = .ok (.i2l, 1) := by decide +kernel
theorem dX3_joinedBy_130 : decode cX3_joinedBy 130 = .ok (.goto 5, 3) := by decide +kernel
theorem dX3_joinedBy_133 : decode cX3_joinedBy 133 = .ok (.iload_n 2, 1) := by decide +kernel
theorem dX3_joinedBy_134 : decode cX3_joinedBy 134 = .ok (.i2l, 1) := by decide +kernel
theorem dX3_joinedBy_135 : decode cX3_joinedBy 135 = .ok (.lstore_n 3, 1) := by decide +kernel
theorem dX3_joinedBy_136 : decode cX3_joinedBy 136 = .ok (.goto 74, 3) := by decide +kernel
theorem dX3_joinedBy_139 : decode cX3_joinedBy 139 = .ok (.iload_n 1, 1) := by decide +kernel
theorem dX3_joinedBy_140 : decode cX3_joinedBy 140 = .ok (.iload_n 2, 1) := by decide +kernel
theorem dX3_joinedBy_141 : decode cX3_joinedBy 141 = .ok (.if_icmp .le 8, 3) := by decide +kernel
theorem dX3_joinedBy_144 : decode cX3_joinedBy 144 = .ok (.iload_n 1, 1) := by decide +kernel
theorem dX3_joinedBy_145 : decode cX3_joinedBy 145 = .ok (.i2l, 1) := by decide +kernel
theorem dX3_joinedBy_146 : decode cX3_joinedBy 146 = .ok (.goto 5, 3) := by decide +kernel
theorem dX3_joinedBy_149 : decode cX3_joinedBy 149 = .ok (.iload_n 2, 1) := by decide +kernel
theorem dX3_joinedBy_150 : decode cX3_joinedBy 150 = .ok (.i2l, 1) := by decide +kernel
theorem dX3_joinedBy_151 : decode cX3_joinedBy 151 = .ok (.lstore_n 3, 1) := by decide +kernel
theorem dX3_joinedBy_152 : decode cX3_joinedBy 152 = .ok (.goto 58, 3) := by decide +kernel
theorem dX3_joinedBy_155 : decode cX3_joinedBy 155 = .ok (.iload_n 1, 1) := by decide +kernel
theorem dX3_joinedBy_156 : decode cX3_joinedBy 156 = .ok (.iload_n 2, 1) := by decide +kernel
theorem dX3_joinedBy_157 : decode cX3_joinedBy 157 = .ok (.if_icmp .ge 7, 3) := by decide +kernel
theorem dX3_joinedBy_160 : decode cX3_joinedBy 160 = .ok (.lconst 1, 1) := by decide +kernel
theorem dX3_joinedBy_161 : decode cX3_joinedBy 161 = .ok (.goto 4, 3) := by decide +kernel
theorem dX3_joinedBy_164 : decode cX3_joinedBy 164 = .ok (.lconst 0, 1) := by decide +kernel
theorem dX3_joinedBy_165 : decode cX3_joinedBy 165 = .ok (.lstore_n 3, 1) := by decide +kernel
theorem dX3_joinedBy_166 : decode cX3_joinedBy 166 = .ok (.goto 44, 3) := by decide +kernel
theorem dX3_joinedBy_169 : decode cX3_joinedBy 169 = .ok (.iload_n 1, 1) := by decide +kernel
theorem dX3_joinedBy_170 : decode cX3_joinedBy 170 = .ok (.iload_n 2, 1) := by decide +kernel
theorem dX3_joinedBy_171 : decode cX3_joinedBy 171 = .ok (.if_icmp .le 7, 3) := by decide +kernel
theorem dX3_joinedBy_174 : decode cX3_joinedBy 174 = .ok (.lconst 1, 1) := by decide +kernel
theorem dX3_joinedBy_175 : decode cX3_joinedBy 175 = .ok (.goto 4, 3) := by decide +kernel
theorem dX3_joinedBy_178 : decode cX3_joinedBy 178 = .ok (.lconst 0, 1) := by decide +kernel
theorem dX3_joinedBy_179 : decode cX3_joinedBy 179 = .ok (.lstore_n 3, 1) := by decide +kernel
theorem dX3_joinedBy_180 : decode cX3_joinedBy 180 = .ok (.goto 30, 3) := by decide +kernel
theorem dX3_joinedBy_183 : decode cX3_joinedBy 183 = .ok (.iload_n 1, 1) := by decide +kernel
theorem dX3_joinedBy_184 : decode cX3_joinedBy 184 = .ok (.iload_n 2, 1) := by decide +kernel
theorem dX3_joinedBy_185 : decode cX3_joinedBy 185 = .ok (.if_icmp .ne 7, 3) := by decide +kernel
theorem dX3_joinedBy_188 : decode cX3_joinedBy 188 = .ok (.lconst 1, 1) := by decide +kernel
theorem dX3_joinedBy_189 : decode cX3_joinedBy 189 = .ok (.goto 4, 3) := by decide +kernel
theorem dX3_joinedBy_192 : decode cX3_joinedBy 192 = .ok (.lconst 0, 1) := by decide +kernel
theorem dX3_joinedBy_193 : decode cX3_joinedBy 193 = .ok (.lstore_n 3, 1) := by decide +kernel
theorem dX3_joinedBy_194 : decode cX3_joinedBy 194 = .ok (.goto 16, 3) := by decide +kernel
theorem dX3_joinedBy_197 : decode cX3_joinedBy 197 = .ok (.iload_n 1, 1) := by decide +kernel
theorem dX3_joinedBy_198 : decode cX3_joinedBy 198 = .ok (.iload_n 2, 1) := by decide +kernel
theorem dX3_joinedBy_199 : decode cX3_joinedBy 199 = .ok (.iand, 1) := by decide +kernel
theorem dX3_joinedBy_200 : decode cX3_joinedBy 200 = .ok (.i2l, 1) := by decide +kernel
theorem dX3_joinedBy_201 : decode cX3_joinedBy 201 = .ok (.lstore_n 3, 1) := by decide +kernel
theorem dX3_joinedBy_202 : decode cX3_joinedBy 202 = .ok (.goto 8, 3) := by decide +kernel
theorem dX3_joinedBy_205 : decode cX3_joinedBy 205 = .ok (.iload_n 1, 1) := by decide +kernel
theorem dX3_joinedBy_206 : decode cX3_joinedBy 206 = .ok (.iload_n 2, 1) := by decide +kernel
theorem dX3_joinedBy_207 : decode cX3_joinedBy 207 = .ok (.ior, 1) := by decide +kernel
theorem dX3_joinedBy_208 : decode cX3_joinedBy 208 = .ok (.i2l, 1) := by decide +kernel
theorem dX3_joinedBy_209 : decode cX3_joinedBy 209 = .ok (.lstore_n 3, 1) := by decide +kernel
theorem dX3_joinedBy_210 : decode cX3_joinedBy 210 = .ok (.lload_n 3, 1) := by decide +kernel
theorem dX3_joinedBy_211 : decode cX3_joinedBy 211 = .ok (.ldc2_w 36, 3) := by decide +kernel
theorem dX3_joinedBy_214 : decode cX3_joinedBy 214 = .ok (.lcmp, 1) := by decide +kernel
theorem dX3_joinedBy_215 : decode cX3_joinedBy 215 = .ok (.ifCond .le 9, 3) := by decide +kernel
theorem dX3_joinedBy_218 : decode cX3_joinedBy 218 = .ok (.ldc2_w 36, 3) := by decide +kernel
theorem dX3_joinedBy_221 : decode cX3_joinedBy 221 = .ok (.goto 18, 3) := by decide +kernel
theorem dX3_joinedBy_224 : decode cX3_joinedBy 224 = .ok (.lload_n 3, 1) := by decide +kernel
theorem dX3_joinedBy_225 : decode cX3_joinedBy 225 = .ok (.ldc2_w 38, 3) := by decide +kernel
theorem dX3_joinedBy_228 : decode cX3_joinedBy 228 = .ok (.lcmp, 1) := by decide +kernel
theorem dX3_joinedBy_229 : decode cX3_joinedBy 229 = .ok (.ifCond .ge 9, 3) := by decide +kernel
theorem dX3_joinedBy_232 : decode cX3_joinedBy 232 = .ok (.ldc2_w 38, 3) := by decide +kernel
theorem dX3_joinedBy_235 : decode cX3_joinedBy 235 = .ok (.goto 4, 3) := by decide +kernel
theorem dX3_joinedBy_238 : decode cX3_joinedBy 238 = .ok (.lload_n 3, 1) := by decide +kernel
theorem dX3_joinedBy_239 : decode cX3_joinedBy 239 = .ok (.l2i, 1) := by decide +kernel
theorem dX3_joinedBy_240 : decode cX3_joinedBy 240 = .ok (.ireturn, 1) := by decide +kernel
theorem dX4_init_0 : decode cX4_init 0 = .ok (.aload_n 0, 1) := by decide +kernel
theorem dX4_init_1 : decode cX4_init 1 = .ok (.invokespecial 1, 3) := by decide +kernel
theorem dX4_init_4 : decode cX4_init 4 = .ok (.aload_n 0, 1) := by decide +kernel
theorem dX4_init_5 : decode cX4_init 5 = .ok (.bipush 40, 2) := by decide +kernel
theorem dX4_init_7 : decode cX4_init 7 = .ok (.newarray .int, 2) := by decide +kernel
theorem dX4_init_9 : decode cX4_init 9 = .ok (.putfield 9, 3) := by decide +kernel
theorem dX4_init_12 : decode cX4_init 12 = .ok (.aload_n 0, 1) := by decide +kernel
theorem dX4_init_13 : decode cX4_init 13 = .ok (.bipush 40, 2) := by decide +kernel
theorem dX4_init_15 : decode cX4_init 15 = .ok (.newarray .int, 2) := by decide +kernel
theorem dX4_init_17 : decode cX4_init 17 = .ok (.putfield 13, 3) := by decide +kernel
theorem dX4_init_20 : decode cX4_init 20 = .ok (.aload_n 0, 1) := by decide +kernel
theorem dX4_init_21 : decode cX4_init 21 = .ok (.bipush 40, 2) := by decide +kernel
theorem dX4_init_23 : decode cX4_init 23 = .ok (.newarray .int, 2) := by decide +kernel
theorem dX4_init_25 : decode cX4_init 25 = .ok (.putfield 16, 3) := by decide +kernel
theorem dX4_init_28 : decode cX4_init 28 = .ok (.return_, 1) := by decide +kernel
theorem dX4_clear_0 : decode cX4_clear 0 = .ok (.aload_n 0, 1) := by decide +kernel
theorem dX4_clear_1 : decode cX4_clear 1 = .ok (.iconst 0, 1) := by decide +kernel
theorem dX4_clear_2 : decode cX4_clear 2 = .ok (.putfield 19, 3) := by decide +kernel
theorem dX4_clear_5 : decode cX4_clear 5 = .ok (.aload_n 0, 1) := by decide +kernel
theorem dX4_clear_6 : decode cX4_clear 6 = .ok (.iconst 0, 1) := by decide +kernel
theorem dX4_clear_7 : decode cX4_clear 7 = .ok (.putfield 23, 3) := by decide +kernel
theorem dX4_clear_10 : decode cX4_clear 10 = .ok (.return_, 1) := by decide +kernel
theorem dX4_copyFrom_0 : decode cX4_copyFrom 0 = .ok (.aload_n 1, 1) := by decide +kernel
theorem dX4_copyFrom_1 : decode cX4_copyFrom 1 = .ok (.getfield 9, 3) := by decide +kernel
theorem dX4_copyFrom_4 : decode cX4_copyFrom 4 = .ok (.iconst 0, 1) := by decide +kernel
theorem dX4_copyFrom_5 : decode cX4_copyFrom 5 = .ok (.aload_n 0, 1) := by decide +kernel
theorem dX4_copyFrom_6 : decode cX4_copyFrom 6 = .ok (.getfield 9, 3) := by decide +kernel
theorem dX4_copyFrom_9 : decode cX4_copyFrom 9 = .ok (.iconst 0, 1) := by decide +kernel
theorem dX4_copyFrom_10 : decode cX4_copyFrom 10 = .ok (.bipush 40, 2) := by decide +kernel
theorem dX4_copyFrom_12 : decode cX4_copyFrom 12 = .ok (.invokestatic 26, 3) := by decide +kernel
theorem dX4_copyFrom_15 : decode cX4_copyFrom 15 = .ok (.aload_n 1, 1) := by decide +kernel
theorem dX4_copyFrom_16 : decode cX4_copyFrom 16 = .ok (.getfield 13, 3) := by decide +kernel
theorem dX4_copyFrom_19 : decode cX4_copyFrom 19 = .ok (.iconst 0, 1) := by decide +kernel
theorem dX4_copyFrom_20 : decode cX4_copyFrom 20 = .ok (.aload_n 0, 1) := by decide +kernel
theorem dX4_copyFrom_21 : decode cX4_copyFrom 21 = .ok (.getfield 13, 3) := by decide +kernel
theorem dX4_copyFrom_24 : decode cX4_copyFrom 24 = .ok (.iconst 0, 1) := by decide +kernel
theorem dX4_copyFrom_25 : decode cX4_copyFrom 25 = .ok (.bipush 40, 2) := by decide +kernel
theorem dX4_copyFrom_27 : decode cX4_copyFrom 27 = .ok (.invokestatic 26, 3) := by decide +kernel
theorem dX4_copyFrom_30 : decode cX4_copyFrom 30 = .ok (.aload_n 1, 1) := by decide +kernel
theorem dX4_copyFrom_31 : decode cX4_copyFrom 31 = .ok (.getfield 16, 3) := by decide +kernel
theorem dX4_copyFrom_34 : decode cX4_copyFrom 34 = .ok (.iconst 0, 1) := by decide +kernel
theorem dX4_copyFrom_35 : decode cX4_copyFrom 35 = .ok (.aload_n 0, 1) := by decide +kernel
theorem dX4_copyFrom_36 : decode cX4_copyFrom 36 = .ok (.getfield 16, 3) := by decide +kernel
theorem dX4_copyFrom_39 : decode cX4_copyFrom 39 = .ok (.iconst 0, 1) := by decide +kernel
theorem dX4_copyFrom_40 : decode cX4_copyFrom 40 = .ok (.bipush 40, 2) := by decide +kernel
theorem dX4_copyFrom_42 : decode cX4_copyFrom 42 = .ok (.invokestatic 26, 3) := by decide +kernel
theorem dX4_copyFrom_45 : decode cX4_copyFrom 45 = .ok (.aload_n 0, 1) := by decide +kernel
theorem dX4_copyFrom_46 : decode cX4_copyFrom 46 = .ok (.aload_n 1, 1) := by decide +kernel
theorem dX4_copyFrom_47 : decode cX4_copyFrom 47 = .ok (.getfield 19, 3) := by decide +kernel
theorem dX4_copyFrom_50 : decode cX4_copyFrom 50 = .ok (.putfield 19, 3) := by decide +kernel
theorem dX4_copyFrom_53 : decode cX4_copyFrom 53 = .ok (.aload_n 0, 1) := by decide +kernel
theorem dX4_copyFrom_54 : decode cX4_copyFrom 54 = .ok (.aload_n 1, 1) := by decide +kernel
theorem dX4_copyFrom_55 : decode cX4_copyFrom 55 = .ok (.getfield 23, 3) := by decide +kernel
theorem dX4_copyFrom_58 : decode cX4_copyFrom 58 = .ok (.putfield 23, 3) := by decide +kernel
theorem dX4_copyFrom_61 : decode cX4_copyFrom 61 = .ok (.return_, 1) := by decide +kernel
theorem dX4_add_0 : decode cX4_add 0 = .ok (.aload_n 0, 1) := by decide +kernel
theorem dX4_add_1 : decode cX4_add 1 = .ok (.getfield 9, 3) := by decide +kernel
theorem dX4_add_4 : decode cX4_add 4 = .ok (.aload_n 0, 1) := by decide +kernel
theorem dX4_add_5 : decode cX4_add 5 = .ok (.getfield 23, 3) := by decide +kernel
theorem dX4_add_8 : decode cX4_add 8 = .ok (.iload_n 1, 1) := by decide +kernel
theorem dX4_add_9 : decode cX4_add 9 = .ok (.iastore, 1) := by decide +kernel
theorem dX4_add_10 : decode cX4_add 10 = .ok (.aload_n 0, 1) := by decide +kernel
theorem dX4_add_11 : decode cX4_add 11 = .ok (.getfield 13, 3) := by decide +kernel
theorem dX4_add_14 : decode cX4_add 14 = .ok (.aload_n 0, 1) := by decide +kernel
theorem dX4_add_15 : decode cX4_add 15 = .ok (.getfield 23, 3) := by decide +kernel
theorem dX4_add_18 : decode cX4_add 18 = .ok (.iload_n 2, 1) := by decide +kernel
theorem dX4_add_19 : decode cX4_add 19 = .ok (.iastore, 1) := by decide +kernel
theorem dX4_add_20 : decode cX4_add 20 = .ok (.aload_n 0, 1) := by decide +kernel
theorem dX4_add_21 : decode cX4_add 21 = .ok (.getfield 16, 3) := by decide +kernel
theorem dX4_add_24 : decode cX4_add 24 = .ok (.aload_n 0, 1) := by decide +kernel
theorem dX4_add_25 : decode cX4_add 25 = .ok (.getfield 23, 3) := by decide +kernel
theorem dX4_add_28 : decode cX4_add 28 = .ok (.iload_n 3, 1) := by decide +kernel
theorem dX4_add_29 : decode cX4_add 29 = .ok (.iastore, 1) := by decide +kernel
theorem dX4_add_30 : decode cX4_add 30 = .ok (.aload_n 0, 1) := by decide +kernel
theorem dX4_add_31 : decode cX4_add 31 = .ok (.aload_n 0, 1) := by decide +kernel
theorem dX4_add_32 : decode cX4_add 32 = .ok (.getfield 23, 3) := by decide +kernel
theorem dX4_add_35 : decode cX4_add 35 = .ok (.iconst 1, 1) := by decide +kernel
theorem dX4_add_36 : decode cX4_add 36 = .ok (.iadd, 1) := by decide +kernel
theorem dX4_add_37 : decode cX4_add 37 = .ok (.bipush 40, 2) := by decide +kernel
theorem dX4_add_39 : decode cX4_add 39 = .ok (.irem, 1) := by decide +kernel
theorem dX4_add_40 : decode cX4_add 40 = .ok (.putfield 23, 3) := by decide +kernel
theorem dX4_add_43 : decode cX4_add 43 = .ok (.aload_n 0, 1) := by decide +kernel
theorem dX4_add_44 : decode cX4_add 44 = .ok (.aload_n 0, 1) := by decide +kernel
theorem dX4_add_45 : decode cX4_add 45 = .ok (.getfield 19, 3) := by decide +kernel
theorem dX4_add_48 : decode cX4_add 48 = .ok (.iconst 1, 1) := by decide +kernel
theorem dX4_add_49 : decode cX4_add 49 = .ok (.iadd, 1) := by decide +kernel
theorem dX4_add_50 : decode cX4_add 50 = .ok (.bipush 40, 2) := by decide +kernel
theorem dX4_add_52 : decode cX4_add 52 = .ok (.invokestatic 32, 3) := by decide +kernel
theorem dX4_add_55 : decode cX4_add 55 = .ok (.putfield 19, 3) := by decide +kernel
theorem dX4_add_58 : decode cX4_add 58 = .ok (.return_, 1) := by decide +kernel
theorem dX4_rowOf_0 : decode cX4_rowOf 0 = .ok (.aload_n 0, 1) := by decide +kernel
theorem dX4_rowOf_1 : decode cX4_rowOf 1 = .ok (.getfield 23, 3) := by decide +kernel
theorem dX4_rowOf_4 : decode cX4_rowOf 4 = .ok (.bipush 40, 2) := by decide +kernel
theorem dX4_rowOf_6 : decode cX4_rowOf 6 = .ok (.iadd, 1) := by decide +kernel
theorem dX4_rowOf_7 : decode cX4_rowOf 7 = .ok (.aload_n 0, 1) := by decide +kernel
theorem dX4_rowOf_8 : decode cX4_rowOf 8 = .ok (.getfield 19, 3) := by decide +kernel
theorem dX4_rowOf_11 : decode cX4_rowOf 11 = .ok (.isub, 1) := by decide +kernel
theorem dX4_rowOf_12 : decode cX4_rowOf 12 = .ok (.iload_n 1, 1) := by decide +kernel
theorem dX4_rowOf_13 : decode cX4_rowOf 13 = .ok (.iadd, 1) := by decide +kernel
theorem dX4_rowOf_14 : decode cX4_rowOf 14 = .ok (.bipush 40, 2) := by decide +kernel
theorem dX4_rowOf_16 : decode cX4_rowOf 16 = .ok (.irem, 1) := by decide +kernel
theorem dX4_rowOf_17 : decode cX4_rowOf 17 = .ok (.ireturn, 1) := by decide +kernel
theorem dX5_init_0 : decode cX5_init 0 = .ok (.aload_n 0, 1) := by decide +kernel
theorem dX5_init_1 : decode cX5_init 1 = .ok (.invokespecial 1, 3) := by decide +kernel
theorem dX5_init_4 : decode cX5_init 4 = .ok (.aload_n 0, 1) := by decide +kernel
theorem dX5_init_5 : decode cX5_init 5 = .ok (.sipush 512, 3) := by decide +kernel
theorem dX5_init_8 : decode cX5_init 8 = .ok (.newarray .int, 2) := by decide +kernel
theorem dX5_init_10 : decode cX5_init 10 = .ok (.putfield 9, 3) := by decide +kernel
theorem dX5_init_13 : decode cX5_init 13 = .ok (.aload_n 0, 1) := by decide +kernel
theorem dX5_init_14 : decode cX5_init 14 = .ok (.sipush 512, 3) := by decide +kernel
theorem dX5_init_17 : decode cX5_init 17 = .ok (.newarray .int, 2) := by decide +kernel
theorem dX5_init_19 : decode cX5_init 19 = .ok (.putfield 13, 3) := by decide +kernel
theorem dX5_init_22 : decode cX5_init 22 = .ok (.return_, 1) := by decide +kernel
theorem dX5_copyFrom_0 : decode cX5_copyFrom 0 = .ok (.aload_n 0, 1) := by decide +kernel
theorem dX5_copyFrom_1 : decode cX5_copyFrom 1 = .ok (.aload_n 1, 1) := by decide +kernel
theorem dX5_copyFrom_2 : decode cX5_copyFrom 2 = .ok (.getfield 16, 3) := by decide +kernel
theorem dX5_copyFrom_5 : decode cX5_copyFrom 5 = .ok (.putfield 16, 3) := by decide +kernel
theorem dX5_copyFrom_8 : decode cX5_copyFrom 8 = .ok (.aload_n 1, 1) := by decide +kernel
theorem dX5_copyFrom_9 : decode cX5_copyFrom 9 = .ok (.getfield 9, 3) := by decide +kernel
theorem dX5_copyFrom_12 : decode cX5_copyFrom 12 = .ok (.iconst 0, 1) := by decide +kernel
theorem dX5_copyFrom_13 : decode cX5_copyFrom 13 = .ok (.aload_n 0, 1) := by decide +kernel
theorem dX5_copyFrom_14 : decode cX5_copyFrom 14 = .ok (.getfield 9, 3) := by decide +kernel
theorem dX5_copyFrom_17 : decode cX5_copyFrom 17 = .ok (.iconst 0, 1) := by decide +kernel
theorem dX5_copyFrom_18 : decode cX5_copyFrom 18 = .ok (.aload_n 0, 1) := by decide +kernel
theorem dX5_copyFrom_19 : decode cX5_copyFrom 19 = .ok (.getfield 16, 3) := by decide +kernel
theorem dX5_copyFrom_22 : decode cX5_copyFrom 22 = .ok (.invokestatic 20, 3) := by decide +kernel
theorem dX5_copyFrom_25 : decode cX5_copyFrom 25 = .ok (.aload_n 1, 1) := by decide +kernel
theorem dX5_copyFrom_26 : decode cX5_copyFrom 26 = .ok (.getfield 13, 3) := by decide +kernel
theorem dX5_copyFrom_29 : decode cX5_copyFrom 29 = .ok (.iconst 0, 1) := by decide +kernel
theorem dX5_copyFrom_30 : decode cX5_copyFrom 30 = .ok (.aload_n 0, 1) := by decide +kernel
theorem dX5_copyFrom_31 : decode cX5_copyFrom 31 = .ok (.getfield 13, 3) := by decide +kernel
theorem dX5_copyFrom_34 : decode cX5_copyFrom 34 = .ok (.iconst 0, 1) := by decide +kernel
theorem dX5_copyFrom_35 : decode cX5_copyFrom 35 = .ok (.aload_n 0, 1) := by decide +kernel
theorem dX5_copyFrom_36 : decode cX5_copyFrom 36 = .ok (.getfield 16, 3) := by decide +kernel
theorem dX5_copyFrom_39 : decode cX5_copyFrom 39 = .ok (.invokestatic 20, 3) := by decide +kernel
theorem dX5_copyFrom_42 : decode cX5_copyFrom 42 = .ok (.return_, 1) := by decide +kernel
theorem dX5_add_0 : decode cX5_add 0 = .ok (.aload_n 0, 1) := by decide +kernel
theorem dX5_add_1 : decode cX5_add 1 = .ok (.getfield 16, 3) := by decide +kernel
theorem dX5_add_4 : decode cX5_add 4 = .ok (.sipush 512, 3) := by decide +kernel
theorem dX5_add_7 : decode cX5_add 7 = .ok (.if_icmp .ge 33, 3) := by decide +kernel
theorem dX5_add_10 : decode cX5_add 10 = .ok (.aload_n 0, 1) := by decide +kernel
theorem dX5_add_11 : decode cX5_add 11 = .ok (.getfield 9, 3) := by decide +kernel
theorem dX5_add_14 : decode cX5_add 14 = .ok (.aload_n 0, 1) := by decide +kernel
theorem dX5_add_15 : decode cX5_add 15 = .ok (.getfield 16, 3) := by decide +kernel
theorem dX5_add_18 : decode cX5_add 18 = .ok (.iload_n 1, 1) := by decide +kernel
theorem dX5_add_19 : decode cX5_add 19 = .ok (.iastore, 1) := by decide +kernel
theorem dX5_add_20 : decode cX5_add 20 = .ok (.aload_n 0, 1) := by decide +kernel
theorem dX5_add_21 : decode cX5_add 21 = .ok (.getfield 13, 3) := by decide +kernel
theorem dX5_add_24 : decode cX5_add 24 = .ok (.aload_n 0, 1) := by decide +kernel
theorem dX5_add_25 : decode cX5_add 25 = .ok (.getfield 16, 3) := by decide +kernel
theorem dX5_add_28 : decode cX5_add 28 = .ok (.iload_n 2, 1) := by decide +kernel
theorem dX5_add_29 : decode cX5_add 29 = .ok (.iastore, 1) := by decide +kernel
theorem dX5_add_30 : decode cX5_add 30 = .ok (.aload_n 0, 1) := by decide +kernel
theorem dX5_add_31 : decode cX5_add 31 = .ok (.dup, 1) := by decide +kernel
theorem dX5_add_32 : decode cX5_add 32 = .ok (.getfield 16, 3) := by decide +kernel
theorem dX5_add_35 : decode cX5_add 35 = .ok (.iconst 1, 1) := by decide +kernel
theorem dX5_add_36 : decode cX5_add 36 = .ok (.iadd, 1) := by decide +kernel
theorem dX5_add_37 : decode cX5_add 37 = .ok (.putfield 16, 3) := by decide +kernel
theorem dX5_add_40 : decode cX5_add 40 = .ok (.return_, 1) := by decide +kernel
theorem dX5_countFrom_0 : decode cX5_countFrom 0 = .ok (.iconst 0, 1) := by decide +kernel
theorem dX5_countFrom_1 : decode cX5_countFrom 1 = .ok (.istore_n 2, 1) := by decide +kernel
theorem dX5_countFrom_2 : decode cX5_countFrom 2 = .ok (.iconst 0, 1) := by decide +kernel
theorem dX5_countFrom_3 : decode cX5_countFrom 3 = .ok (.istore_n 3, 1) := by decide +kernel
theorem dX5_countFrom_4 : decode cX5_countFrom 4 = .ok (.iload_n 3, 1) := by decide +kernel
theorem dX5_countFrom_5 : decode cX5_countFrom 5 = .ok (.aload_n 0, 1) := by decide +kernel
theorem dX5_countFrom_6 : decode cX5_countFrom 6 = .ok (.getfield 16, 3) := by decide +kernel
theorem dX5_countFrom_9 : decode cX5_countFrom 9 = .ok (.if_icmp .ge 29, 3) := by decide +kernel
theorem dX5_countFrom_12 : decode cX5_countFrom 12 = .ok (.aload_n 0, 1) := by decide +kernel
theorem dX5_countFrom_13 : decode cX5_countFrom 13 = .ok (.getfield 9, 3) := by decide +kernel
theorem dX5_countFrom_16 : decode cX5_countFrom 16 = .ok (.iload_n 3, 1) := by decide +kernel
theorem dX5_countFrom_17 : decode cX5_countFrom 17 = .ok (.iaload, 1) := by decide +kernel
theorem dX5_countFrom_18 : decode cX5_countFrom 18 = .ok (.aload_n 0, 1) := by decide +kernel
theorem dX5_countFrom_19 : decode cX5_countFrom 19 = .ok (.getfield 13, 3) := by decide +kernel
theorem dX5_countFrom_22 : decode cX5_countFrom 22 = .ok (.iload_n 3, 1) := by decide +kernel
theorem dX5_countFrom_23 : decode cX5_countFrom 23 = .ok (.iaload, 1) := by decide +kernel
theorem dX5_countFrom_24 : decode cX5_countFrom 24 = .ok (.iadd, 1) := by decide +kernel
theorem dX5_countFrom_25 : decode cX5_countFrom 25 = .ok (.iload_n 1, 1) := by decide +kernel
theorem dX5_countFrom_26 : decode cX5_countFrom 26 = .ok (.if_icmp .le 6, 3) := by decide +kernel
theorem dX5_countFrom_29 : decode cX5_countFrom 29 = .ok (.iinc 2 1, 3) := by decide +kernel
theorem dX5_countFrom_32 : decode cX5_countFrom 32 = .ok (.iinc 3 1, 3) := by decide +kernel
theorem dX5_countFrom_35 : decode cX5_countFrom 35 = .ok (.goto (-31), 3) := by decide +kernel
theorem dX5_countFrom_38 : decode cX5_countFrom 38 = .ok (.iload_n 2, 1) := by decide +kernel
theorem dX5_countFrom_39 : decode cX5_countFrom 39 = .ok (.ireturn, 1) := by decide +kernel
theorem dX5_tidy_0 : decode cX5_tidy 0 = .ok (.iconst 0, 1) := by decide +kernel
theorem dX5_tidy_1 : decode cX5_tidy 1 = .ok (.istore_n 2, 1) := by decide +kernel
theorem dX5_tidy_2 : decode cX5_tidy 2 = .ok (.iconst 0, 1) := by decide +kernel
theorem dX5_tidy_3 : decode cX5_tidy 3 = .ok (.istore_n 3, 1) := by decide +kernel
theorem dX5_tidy_4 : decode cX5_tidy 4 = .ok (.iload_n 3, 1) := by decide +kernel
theorem dX5_tidy_5 : decode cX5_tidy 5 = .ok (.aload_n 0, 1) := by decide +kernel
theorem dX5_tidy_6 : decode cX5_tidy 6 = .ok (.getfield 16, 3) := by decide +kernel
theorem dX5_tidy_9 : decode cX5_tidy 9 = .ok (.if_icmp .ge 53, 3) := by decide +kernel
theorem dX5_tidy_12 : decode cX5_tidy 12 = .ok (.aload_n 0, 1) := by decide +kernel
theorem dX5_tidy_13 : decode cX5_tidy 13 = .ok (.getfield 9, 3) := by decide +kernel
theorem dX5_tidy_16 : decode cX5_tidy 16 = .ok (.iload_n 3, 1) := by decide +kernel
theorem dX5_tidy_17 : decode cX5_tidy 17 = .ok (.iaload, 1) := by decide +kernel
theorem dX5_tidy_18 : decode cX5_tidy 18 = .ok (.aload_n 0, 1) := by decide +kernel
theorem dX5_tidy_19 : decode cX5_tidy 19 = .ok (.getfield 13, 3) := by decide +kernel
theorem dX5_tidy_22 : decode cX5_tidy 22 = .ok (.iload_n 3, 1) := by decide +kernel
theorem dX5_tidy_23 : decode cX5_tidy 23 = .ok (.iaload, 1) := by decide +kernel
theorem dX5_tidy_24 : decode cX5_tidy 24 = .ok (.iadd, 1) := by decide +kernel
theorem dX5_tidy_25 : decode cX5_tidy 25 = .ok (.iload_n 1, 1) := by decide +kernel
theorem dX5_tidy_26 : decode cX5_tidy 26 = .ok (.if_icmp .le 30, 3) := by decide +kernel
theorem dX5_tidy_29 : decode cX5_tidy 29 = .ok (.aload_n 0, 1) := by decide +kernel
theorem dX5_tidy_30 : decode cX5_tidy 30 = .ok (.getfield 9, 3) := by decide +kernel
theorem dX5_tidy_33 : decode cX5_tidy 33 = .ok (.iload_n 2, 1) := by decide +kernel
theorem dX5_tidy_34 : decode cX5_tidy 34 = .ok (.aload_n 0, 1) := by decide +kernel
theorem dX5_tidy_35 : decode cX5_tidy 35 = .ok (.getfield 9, 3) := by decide +kernel
theorem dX5_tidy_38 : decode cX5_tidy 38 = .ok (.iload_n 3, 1) := by decide +kernel
theorem dX5_tidy_39 : decode cX5_tidy 39 = .ok (.iaload, 1) := by decide +kernel
theorem dX5_tidy_40 : decode cX5_tidy 40 = .ok (.iastore, 1) := by decide +kernel
theorem dX5_tidy_41 : decode cX5_tidy 41 = .ok (.aload_n 0, 1) := by decide +kernel
theorem dX5_tidy_42 : decode cX5_tidy 42 = .ok (.getfield 13, 3) := by decide +kernel
theorem dX5_tidy_45 : decode cX5_tidy 45 = .ok (.iload_n 2, 1) := by decide +kernel
theorem dX5_tidy_46 : decode cX5_tidy 46 = .ok (.aload_n 0, 1) := by decide +kernel
theorem dX5_tidy_47 : decode cX5_tidy 47 = .ok (.getfield 13, 3) := by decide +kernel
theorem dX5_tidy_50 : decode cX5_tidy 50 = .ok (.iload_n 3, 1) := by decide +kernel
theorem dX5_tidy_51 : decode cX5_tidy 51 = .ok (.iaload, 1) := by decide +kernel
theorem dX5_tidy_52 : decode cX5_tidy 52 = .ok (.iastore, 1) := by decide +kernel
theorem dX5_tidy_53 : decode cX5_tidy 53 = .ok (.iinc 2 1, 3) := by decide +kernel
theorem dX5_tidy_56 : decode cX5_tidy 56 = .ok (.iinc 3 1, 3) := by decide +kernel
theorem dX5_tidy_59 : decode cX5_tidy 59 = .ok (.goto (-55), 3) := by decide +kernel
theorem dX5_tidy_62 : decode cX5_tidy 62 = .ok (.aload_n 0, 1) := by decide +kernel
theorem dX5_tidy_63 : decode cX5_tidy 63 = .ok (.iload_n 2, 1) := by decide +kernel
theorem dX5_tidy_64 : decode cX5_tidy 64 = .ok (.putfield 16, 3) := by decide +kernel
theorem dX5_tidy_67 : decode cX5_tidy 67 = .ok (.return_, 1) := by decide +kernel
theorem dX5_removeFirst_0 : decode cX5_removeFirst 0 = .ok (.aload_n 0, 1) := by decide +kernel
theorem dX5_removeFirst_1 : decode cX5_removeFirst 1 = .ok (.getfield 16, 3) := by decide +kernel
theorem dX5_removeFirst_4 : decode cX5_removeFirst 4 = .ok (.ifCond .le 47, 3) := by decide +kernel
theorem dX5_removeFirst_7 : decode cX5_removeFirst 7 = .ok (.aload_n 0, 1) := by decide +kernel
theorem dX5_removeFirst_8 : decode cX5_removeFirst 8 = .ok (.dup, 1) := by decide +kernel
theorem dX5_removeFirst_9 : decode cX5_removeFirst 9 = .ok (.getfield 16, 3) := by decide +kernel
theorem dX5_removeFirst_12 : decode cX5_removeFirst 12 = .ok (.iconst 1, 1) := by decide +kernel
theorem dX5_removeFirst_13 : decode cX5_removeFirst 13 = .ok (.isub, 1) := by decide +kernel
theorem dX5_removeFirst_14 : decode cX5_removeFirst 14 = .ok (.putfield 16, 3) := by decide +kernel
theorem dX5_removeFirst_17 : decode cX5_removeFirst 17 = .ok (.aload_n 0, 1) := by decide +kernel
theorem dX5_removeFirst_18 : decode cX5_removeFirst 18 = .ok (.getfield 9, 3) := by decide +kernel
theorem dX5_removeFirst_21 : decode cX5_removeFirst 21 = .ok (.iconst 1, 1) := by decide +kernel
theorem dX5_removeFirst_22 : decode cX5_removeFirst 22 = .ok (.aload_n 0, 1) := by decide +kernel
theorem dX5_removeFirst_23 : decode cX5_removeFirst 23 = .ok (.getfield 9, 3) := by decide +kernel
theorem dX5_removeFirst_26 : decode cX5_removeFirst 26 = .ok (.iconst 0, 1) := by decide +kernel
theorem dX5_removeFirst_27 : decode cX5_removeFirst 27 = .ok (.aload_n 0, 1) := by decide +kernel
theorem dX5_removeFirst_28 : decode cX5_removeFirst 28 = .ok (.getfield 16, 3) := by decide +kernel
theorem dX5_removeFirst_31 : decode cX5_removeFirst 31 = .ok (.invokestatic 20, 3) := by decide +kernel
theorem dX5_removeFirst_34 : decode cX5_removeFirst 34 = .ok (.aload_n 0, 1) := by decide +kernel
theorem dX5_removeFirst_35 : decode cX5_removeFirst 35 = .ok (.getfield 13, 3) := by decide +kernel
theorem dX5_removeFirst_38 : decode cX5_removeFirst 38 = .ok (.iconst 1, 1) := by decide +kernel
theorem dX5_removeFirst_39 : decode cX5_removeFirst 39 = .ok (.aload_n 0, 1) := by decide +kernel
theorem dX5_removeFirst_40 : decode cX5_removeFirst 40 = .ok (.getfield 13, 3) := by decide +kernel
theorem dX5_removeFirst_43 : decode cX5_removeFirst 43 = .ok (.iconst 0, 1) := by decide +kernel
theorem dX5_removeFirst_44 : decode cX5_removeFirst 44 = .ok (.aload_n 0, 1) := by decide +kernel
theorem dX5_removeFirst_45 : decode cX5_removeFirst 45 = .ok (.getfield 16, 3) := by decide +kernel
theorem dX5_removeFirst_48 : decode cX5_removeFirst 48 = .ok (.invokestatic 20, 3) := by decide +kernel
theorem dX5_removeFirst_51 : decode cX5_removeFirst 51 = .ok (.return_, 1) := by decide +kernel
theorem dX6_init_0 : decode cX6_init 0 = .ok (.aload_n 0, 1) := by decide +kernel
theorem dX6_init_1 : decode cX6_init 1 = .ok (.invokespecial 3, 3) := by decide +kernel
theorem dX6_init_4 : decode cX6_init 4 = .ok (.aload_n 0, 1) := by decide +kernel
theorem dX6_init_5 : decode cX6_init 5 = .ok (.iconst 4, 1) := by decide +kernel
theorem dX6_init_6 : decode cX6_init 6 = .ok (.newarray .int, 2) := by decide +kernel
theorem dX6_init_8 : decode cX6_init 8 = .ok (.putfield 9, 3) := by decide +kernel
theorem dX6_init_11 : decode cX6_init 11 = .ok (.aload_n 0, 1) := by decide +kernel
theorem dX6_init_12 : decode cX6_init 12 = .ok (.iconst 4, 1) := by decide +kernel
theorem dX6_init_13 : decode cX6_init 13 = .ok (.newarray .int, 2) := by decide +kernel
theorem dX6_init_15 : decode cX6_init 15 = .ok (.putfield 15, 3) := by decide +kernel
theorem dX6_init_18 : decode cX6_init 18 = .ok (.aload_n 0, 1) := by decide +kernel
theorem dX6_init_19 : decode cX6_init 19 = .ok (.iconst 4, 1) := by decide +kernel
theorem dX6_init_20 : decode cX6_init 20 = .ok (.newarray .int, 2) := by decide +kernel
theorem dX6_init_22 : decode cX6_init 22 = .ok (.putfield 18, 3) := by decide +kernel
theorem dX6_init_25 : decode cX6_init 25 = .ok (.aload_n 0, 1) := by decide +kernel
theorem dX6_init_26 : decode cX6_init 26 = .ok (.iconst 4, 1) := by decide +kernel
theorem dX6_init_27 : decode cX6_init 27 = .ok (.newarray .int, 2) := by decide +kernel
theorem dX6_init_29 : decode cX6_init 29 = .ok (.putfield 21, 3) := by decide +kernel
theorem dX6_init_32 : decode cX6_init 32 = .ok (.aload_n 0, 1) := by decide +kernel
theorem dX6_init_33 : decode cX6_init 33 = .ok (.new 24, 3) := by decide +kernel
theorem dX6_init_36 : decode cX6_init 36 = .ok (.dup, 1) := by decide +kernel
theorem dX6_init_37 : decode cX6_init 37 = .ok (.invokespecial 26, 3) := by decide +kernel
theorem dX6_init_40 : decode cX6_init 40 = .ok (.putfield 27, 3) := by decide +kernel
theorem dX6_init_43 : decode cX6_init 43 = .ok (.aload_n 0, 1) := by decide +kernel
theorem dX6_init_44 : decode cX6_init 44 = .ok (.new 24, 3) := by decide +kernel
theorem dX6_init_47 : decode cX6_init 47 = .ok (.dup, 1) := by decide +kernel
theorem dX6_init_48 : decode cX6_init 48 = .ok (.invokespecial 26, 3) := by decide +kernel
theorem dX6_init_51 : decode cX6_init 51 = .ok (.putfield 31, 3) := by decide +kernel
theorem dX6_init_54 : decode cX6_init 54 = .ok (.aload_n 0, 1) := by decide +kernel
theorem dX6_init_55 : decode cX6_init 55 = .ok (.new 24, 3) := by decide +kernel
theorem dX6_init_58 : decode cX6_init 58 = .ok (.dup, 1) := by decide +kernel
theorem dX6_init_59 : decode cX6_init 59 = .ok (.invokespecial 26, 3) := by decide +kernel
theorem dX6_init_62 : decode cX6_init 62 = .ok (.putfield 34, 3) := by decide +kernel
theorem dX6_init_65 : decode cX6_init 65 = .ok (.aload_n 0, 1) := by decide +kernel
theorem dX6_init_66 : decode cX6_init 66 = .ok (.new 24, 3) := by decide +kernel
theorem dX6_init_69 : decode cX6_init 69 = .ok (.dup, 1) := by decide +kernel
theorem dX6_init_70 : decode cX6_init 70 = .ok (.invokespecial 26, 3) := by decide +kernel
theorem dX6_init_73 : decode cX6_init 73 = .ok (.putfield 37, 3) := by decide +kernel
theorem dX6_init_76 : decode cX6_init 76 = .ok (.return_, 1) := by decide +kernel
theorem dX6_clear_0 : decode cX6_clear 0 = .ok (.aload_n 0, 1) := by decide +kernel
theorem dX6_clear_1 : decode cX6_clear 1 = .ok (.iconst 0, 1) := by decide +kernel
theorem dX6_clear_2 : decode cX6_clear 2 = .ok (.putfield 40, 3) := by decide +kernel
theorem dX6_clear_5 : decode cX6_clear 5 = .ok (.aload_n 0, 1) := by decide +kernel
theorem dX6_clear_6 : decode cX6_clear 6 = .ok (.iconst 0, 1) := by decide +kernel
theorem dX6_clear_7 : decode cX6_clear 7 = .ok (.putfield 44, 3) := by decide +kernel
theorem dX6_clear_10 : decode cX6_clear 10 = .ok (.aload_n 0, 1) := by decide +kernel
theorem dX6_clear_11 : decode cX6_clear 11 = .ok (.iconst 0, 1) := by decide +kernel
theorem dX6_clear_12 : decode cX6_clear 12 = .ok (.putfield 47, 3) := by decide +kernel
theorem dX6_clear_15 : decode cX6_clear 15 = .ok (.aload_n 0, 1) := by decide +kernel
theorem dX6_clear_16 : decode cX6_clear 16 = .ok (.iconst 0, 1) := by decide +kernel
theorem dX6_clear_17 : decode cX6_clear 17 = .ok (.putfield 50, 3) := by decide +kernel
theorem dX6_clear_20 : decode cX6_clear 20 = .ok (.iconst 0, 1) := by decide +kernel
theorem dX6_clear_21 : decode cX6_clear 21 = .ok (.istore_n 1, 1) := by decide +kernel
theorem dX6_clear_22 : decode cX6_clear 22 = .ok (.iload_n 1, 1) := by decide +kernel
theorem dX6_clear_23 : decode cX6_clear 23 = .ok (.iconst 4, 1) := by decide +kernel
theorem dX6_clear_24 : decode cX6_clear 24 = .ok (.if_icmp .ge 16, 3) := by decide +kernel
theorem dX6_clear_27 : decode cX6_clear 27 = .ok (.aload_n 0, 1) := by decide +kernel
theorem dX6_clear_28 : decode cX6_clear 28 = .ok (.getfield 18, 3) := by decide +kernel
theorem dX6_clear_31 : decode cX6_clear 31 = .ok (.iload_n 1, 1) := by decide +kernel
theorem dX6_clear_32 : decode cX6_clear 32 = .ok (.iconst (-1), 1) := by decide +kernel
theorem dX6_clear_33 : decode cX6_clear 33 = .ok (.iastore, 1) := by decide +kernel
theorem dX6_clear_34 : decode cX6_clear 34 = .ok (.iinc 1 1, 3) := by decide +kernel
theorem dX6_clear_37 : decode cX6_clear 37 = .ok (.goto (-15), 3) := by decide +kernel
theorem dX6_clear_40 : decode cX6_clear 40 = .ok (.aload_n 0, 1) := by decide +kernel
theorem dX6_clear_41 : decode cX6_clear 41 = .ok (.getfield 27, 3) := by decide +kernel
theorem dX6_clear_44 : decode cX6_clear 44 = .ok (.iconst 0, 1) := by decide +kernel
theorem dX6_clear_45 : decode cX6_clear 45 = .ok (.putfield 53, 3) := by decide +kernel
theorem dX6_clear_48 : decode cX6_clear 48 = .ok (.aload_n 0, 1) := by decide +kernel
theorem dX6_clear_49 : decode cX6_clear 49 = .ok (.getfield 31, 3) := by decide +kernel
theorem dX6_clear_52 : decode cX6_clear 52 = .ok (.iconst 0, 1) := by decide +kernel
theorem dX6_clear_53 : decode cX6_clear 53 = .ok (.putfield 53, 3) := by decide +kernel
theorem dX6_clear_56 : decode cX6_clear 56 = .ok (.aload_n 0, 1) := by decide +kernel
theorem dX6_clear_57 : decode cX6_clear 57 = .ok (.getfield 34, 3) := by decide +kernel
theorem dX6_clear_60 : decode cX6_clear 60 = .ok (.iconst 0, 1) := by decide +kernel
theorem dX6_clear_61 : decode cX6_clear 61 = .ok (.putfield 53, 3) := by decide +kernel
theorem dX6_clear_64 : decode cX6_clear 64 = .ok (.aload_n 0, 1) := by decide +kernel
theorem dX6_clear_65 : decode cX6_clear 65 = .ok (.getfield 37, 3) := by decide +kernel
theorem dX6_clear_68 : decode cX6_clear 68 = .ok (.iconst 0, 1) := by decide +kernel
theorem dX6_clear_69 : decode cX6_clear 69 = .ok (.putfield 53, 3) := by decide +kernel
theorem dX6_clear_72 : decode cX6_clear 72 = .ok (.return_, 1) := by decide +kernel
theorem dX6_pathNamed_0 : decode cX6_pathNamed 0 = .ok (.iconst 0, 1) := by decide +kernel
theorem dX6_pathNamed_1 : decode cX6_pathNamed 1 = .ok (.istore_n 2, 1) := by decide +kernel
theorem dX6_pathNamed_2 : decode cX6_pathNamed 2 = .ok (.iload_n 2, 1) := by decide +kernel
theorem dX6_pathNamed_3 : decode cX6_pathNamed 3 = .ok (.aload_n 0, 1) := by decide +kernel
theorem dX6_pathNamed_4 : decode cX6_pathNamed 4 = .ok (.getfield 50, 3) := by decide +kernel
theorem dX6_pathNamed_7 : decode cX6_pathNamed 7 = .ok (.if_icmp .ge 21, 3) := by decide +kernel
theorem dX6_pathNamed_10 : decode cX6_pathNamed 10 = .ok (.aload_n 0, 1) := by decide +kernel
theorem dX6_pathNamed_11 : decode cX6_pathNamed 11 = .ok (.getfield 9, 3) := by decide +kernel
theorem dX6_pathNamed_14 : decode cX6_pathNamed 14 = .ok (.iload_n 2, 1) := by decide +kernel
theorem dX6_pathNamed_15 : decode cX6_pathNamed 15 = .ok (.iaload, 1) := by decide +kernel
theorem dX6_pathNamed_16 : decode cX6_pathNamed 16 = .ok (.iload_n 1, 1) := by decide +kernel
theorem dX6_pathNamed_17 : decode cX6_pathNamed 17 = .ok (.if_icmp .ne 5, 3) := by decide +kernel
theorem dX6_pathNamed_20 : decode cX6_pathNamed 20 = .ok (.iload_n 2, 1) := by decide +kernel
theorem dX6_pathNamed_21 : decode cX6_pathNamed 21 = .ok (.ireturn, 1) := by decide +kernel
theorem dX6_pathNamed_22 : decode cX6_pathNamed 22 = .ok (.iinc 2 1, 3) := by decide +kernel
theorem dX6_pathNamed_25 : decode cX6_pathNamed 25 = .ok (.goto (-23), 3) := by decide +kernel
theorem dX6_pathNamed_28 : decode cX6_pathNamed 28 = .ok (.iconst (-1), 1) := by decide +kernel
theorem dX6_pathNamed_29 : decode cX6_pathNamed 29 = .ok (.ireturn, 1) := by decide +kernel
theorem dX6_rightToken_0 : decode cX6_rightToken 0 = .ok (.bipush 31, 2) := by decide +kernel
theorem dX6_rightToken_2 : decode cX6_rightToken 2 = .ok (.aload_n 0, 1) := by decide +kernel
theorem dX6_rightToken_3 : decode cX6_rightToken 3 = .ok (.getfield 54, 3) := by decide +kernel
theorem dX6_rightToken_6 : decode cX6_rightToken 6 = .ok (.imul, 1) := by decide +kernel
theorem dX6_rightToken_7 : decode cX6_rightToken 7 = .ok (.bipush 17, 2) := by decide +kernel
theorem dX6_rightToken_9 : decode cX6_rightToken 9 = .ok (.iadd, 1) := by decide +kernel
theorem dX6_rightToken_10 : decode cX6_rightToken 10 = .ok (.sipush 1000, 3) := by decide +kernel
theorem dX6_rightToken_13 : decode cX6_rightToken 13 = .ok (.irem, 1) := by decide +kernel
theorem dX6_rightToken_14 : decode cX6_rightToken 14 = .ok (.ireturn, 1) := by decide +kernel
theorem dX6_sumOf_0 : decode cX6_sumOf 0 = .ok (.iconst 0, 1) := by decide +kernel
theorem dX6_sumOf_1 : decode cX6_sumOf 1 = .ok (.istore_n 3, 1) := by decide +kernel
theorem dX6_sumOf_2 : decode cX6_sumOf 2 = .ok (.iload_n 1, 1) := by decide +kernel
theorem dX6_sumOf_3 : decode cX6_sumOf 3 = .ok (.istore 4, 2) := by decide +kernel
theorem dX6_sumOf_5 : decode cX6_sumOf 5 = .ok (.iload 4, 2) := by decide +kernel
theorem dX6_sumOf_7 : decode cX6_sumOf 7 = .ok (.iload_n 1, 1) := by decide +kernel
theorem dX6_sumOf_8 : decode cX6_sumOf 8 = .ok (.iload_n 2, 1) := by decide +kernel
theorem dX6_sumOf_9 : decode cX6_sumOf 9 = .ok (.iadd, 1) := by decide +kernel
theorem dX6_sumOf_10 : decode cX6_sumOf 10 = .ok (.if_icmp .ge 32, 3) := by decide +kernel
theorem dX6_sumOf_13 : decode cX6_sumOf 13 = .ok (.iload_n 3, 1) := by decide +kernel
theorem dX6_sumOf_14 : decode cX6_sumOf 14 = .ok (.iload 4, 2) := by decide +kernel
theorem dX6_sumOf_16 : decode cX6_sumOf 16 = .ok (.iload 4, 2) := by decide +kernel
theorem dX6_sumOf_18 : decode cX6_sumOf 18 = .ok (.imul, 1) := by decide +kernel
theorem dX6_sumOf_19 : decode cX6_sumOf 19 = .ok (.bipush 7, 2) := by decide +kernel
theorem dX6_sumOf_21 : decode cX6_sumOf 21 = .ok (.iload 4, 2) := by decide +kernel
theorem dX6_sumOf_23 : decode cX6_sumOf 23 = .ok (.imul, 1) := by decide +kernel
theorem dX6_sumOf_24 : decode cX6_sumOf 24 = .ok (.iadd, 1) := by decide +kernel
theorem dX6_sumOf_25 : decode cX6_sumOf 25 = .ok (.aload_n 0, 1) := by decide +kernel
theorem dX6_sumOf_26 : decode cX6_sumOf 26 = .ok (.getfield 54, 3) := by decide +kernel
theorem dX6_sumOf_29 : decode cX6_sumOf 29 = .ok (.iadd, 1) := by decide +kernel
theorem dX6_sumOf_30 : decode cX6_sumOf 30 = .ok (.sipush 251, 3) := by decide +kernel
theorem dX6_sumOf_33 : decode cX6_sumOf 33 = .ok (.irem, 1) := by decide +kernel
theorem dX6_sumOf_34 : decode cX6_sumOf 34 = .ok (.iadd, 1) := by decide +kernel
theorem dX6_sumOf_35 : decode cX6_sumOf 35 = .ok (.istore_n 3, 1) := by decide +kernel
theorem dX6_sumOf_36 : decode cX6_sumOf 36 = .ok (.iinc 4 1, 3) := by decide +kernel
theorem dX6_sumOf_39 : decode cX6_sumOf 39 = .ok (.goto (-34), 3) := by decide +kernel
theorem dX6_sumOf_42 : decode cX6_sumOf 42 = .ok (.iload_n 3, 1) := by decide +kernel
theorem dX6_sumOf_43 : decode cX6_sumOf 43 = .ok (.sipush 251, 3) := by decide +kernel
theorem dX6_sumOf_46 : decode cX6_sumOf 46 = .ok (.irem, 1) := by decide +kernel
theorem dX6_sumOf_47 : decode cX6_sumOf 47 = .ok (.ireturn, 1) := by decide +kernel
theorem dX7_init_0 : decode cX7_init 0 = .ok (.aload_n 0, 1) := by decide +kernel
theorem dX7_init_1 : decode cX7_init 1 = .ok (.invokespecial 3, 3) := by decide +kernel
theorem dX7_init_4 : decode cX7_init 4 = .ok (.aload_n 0, 1) := by decide +kernel
theorem dX7_init_5 : decode cX7_init 5 = .ok (.sipush 200, 3) := by decide +kernel
theorem dX7_init_8 : decode cX7_init 8 = .ok (.newarray .byte, 2) := by decide +kernel
theorem dX7_init_10 : decode cX7_init 10 = .ok (.putfield 9, 3) := by decide +kernel
theorem dX7_init_13 : decode cX7_init 13 = .ok (.aload_n 0, 1) := by decide +kernel
theorem dX7_init_14 : decode cX7_init 14 = .ok (.iconst 4, 1) := by decide +kernel
theorem dX7_init_15 : decode cX7_init 15 = .ok (.newarray .int, 2) := by decide +kernel
theorem dX7_init_17 : decode cX7_init 17 = .ok (.putfield 15, 3) := by decide +kernel
theorem dX7_init_20 : decode cX7_init 20 = .ok (.return_, 1) := by decide +kernel
theorem dX7_begin_0 : decode cX7_begin 0 = .ok (.iconst 0, 1) := by decide +kernel
theorem dX7_begin_1 : decode cX7_begin 1 = .ok (.istore_n 2, 1) := by decide +kernel
theorem dX7_begin_2 : decode cX7_begin 2 = .ok (.iload_n 2, 1) := by decide +kernel
theorem dX7_begin_3 : decode cX7_begin 3 = .ok (.sipush 200, 3) := by decide +kernel
theorem dX7_begin_6 : decode cX7_begin 6 = .ok (.if_icmp .ge 16, 3) := by decide +kernel
theorem dX7_begin_9 : decode cX7_begin 9 = .ok (.aload_n 0, 1) := by decide +kernel
theorem dX7_begin_10 : decode cX7_begin 10 = .ok (.getfield 9, 3) := by decide +kernel
theorem dX7_begin_13 : decode cX7_begin 13 = .ok (.iload_n 2, 1) := by decide +kernel
theorem dX7_begin_14 : decode cX7_begin 14 = .ok (.iconst 0, 1) := by decide +kernel
theorem dX7_begin_15 : decode cX7_begin 15 = .ok (.bastore, 1) := by decide +kernel
theorem dX7_begin_16 : decode cX7_begin 16 = .ok (.iinc 2 1, 3) := by decide +kernel
theorem dX7_begin_19 : decode cX7_begin 19 = .ok (.goto (-17), 3) := by decide +kernel
theorem dX7_begin_22 : decode cX7_begin 22 = .ok (.iconst 0, 1) := by decide +kernel
theorem dX7_begin_23 : decode cX7_begin 23 = .ok (.istore_n 2, 1) := by decide +kernel
theorem dX7_begin_24 : decode cX7_begin 24 = .ok (.iload_n 2, 1) := by decide +kernel
theorem dX7_begin_25 : decode cX7_begin 25 = .ok (.aload_n 0, 1) := by decide +kernel
theorem dX7_begin_26 : decode cX7_begin 26 = .ok (.getfield 15, 3) := by decide +kernel
theorem dX7_begin_29 : decode cX7_begin 29 = .ok (.arraylength, 1) := by decide +kernel
theorem dX7_begin_30 : decode cX7_begin 30 = .ok (.if_icmp .ge 16, 3) := by decide +kernel
theorem dX7_begin_33 : decode cX7_begin 33 = .ok (.aload_n 0, 1) := by decide +kernel
theorem dX7_begin_34 : decode cX7_begin 34 = .ok (.getfield 15, 3) := by decide +kernel
theorem dX7_begin_37 : decode cX7_begin 37 = .ok (.iload_n 2, 1) := by decide +kernel
theorem dX7_begin_38 : decode cX7_begin 38 = .ok (.iconst 0, 1) := by decide +kernel
theorem dX7_begin_39 : decode cX7_begin 39 = .ok (.iastore, 1) := by decide +kernel
theorem dX7_begin_40 : decode cX7_begin 40 = .ok (.iinc 2 1, 3) := by decide +kernel
theorem dX7_begin_43 : decode cX7_begin 43 = .ok (.goto (-19), 3) := by decide +kernel
theorem dX7_begin_46 : decode cX7_begin 46 = .ok (.aload_n 0, 1) := by decide +kernel
theorem dX7_begin_47 : decode cX7_begin 47 = .ok (.aload_n 1, 1) := by decide +kernel
theorem dX7_begin_48 : decode cX7_begin 48 = .ok (.getfield 19, 3) := by decide +kernel
theorem dX7_begin_51 : decode cX7_begin 51 = .ok (.putfield 25, 3) := by decide +kernel
theorem dX7_begin_54 : decode cX7_begin 54 = .ok (.aload_n 0, 1) := by decide +kernel
theorem dX7_begin_55 : decode cX7_begin 55 = .ok (.aload_n 1, 1) := by decide +kernel
theorem dX7_begin_56 : decode cX7_begin 56 = .ok (.getfield 26, 3) := by decide +kernel
theorem dX7_begin_59 : decode cX7_begin 59 = .ok (.putfield 29, 3) := by decide +kernel
theorem dX7_begin_62 : decode cX7_begin 62 = .ok (.aload_n 0, 1) := by decide +kernel
theorem dX7_begin_63 : decode cX7_begin 63 = .ok (.iconst 0, 1) := by decide +kernel
theorem dX7_begin_64 : decode cX7_begin 64 = .ok (.putfield 30, 3) := by decide +kernel
theorem dX7_begin_67 : decode cX7_begin 67 = .ok (.aload_n 0, 1) := by decide +kernel
theorem dX7_begin_68 : decode cX7_begin 68 = .ok (.iconst 0, 1) := by decide +kernel
theorem dX7_begin_69 : decode cX7_begin 69 = .ok (.putfield 33, 3) := by decide +kernel
theorem dX7_begin_72 : decode cX7_begin 72 = .ok (.return_, 1) := by decide +kernel
theorem dX7_copyFrom_0 : decode cX7_copyFrom 0 = .ok (.aload_n 1, 1) := by decide +kernel
theorem dX7_copyFrom_1 : decode cX7_copyFrom 1 = .ok (.getfield 9, 3) := by decide +kernel
theorem dX7_copyFrom_4 : decode cX7_copyFrom 4 = .ok (.iconst 0, 1) := by decide +kernel
theorem dX7_copyFrom_5 : decode cX7_copyFrom 5 = .ok (.aload_n 0, 1) := by decide +kernel
theorem dX7_copyFrom_6 : decode cX7_copyFrom 6 = .ok (.getfield 9, 3) := by decide +kernel
theorem dX7_copyFrom_9 : decode cX7_copyFrom 9 = .ok (.iconst 0, 1) := by decide +kernel
theorem dX7_copyFrom_10 : decode cX7_copyFrom 10 = .ok (.sipush 200, 3) := by decide +kernel
theorem dX7_copyFrom_13 : decode cX7_copyFrom 13 = .ok (.invokestatic 36, 3) := by decide +kernel
theorem dX7_copyFrom_16 : decode cX7_copyFrom 16 = .ok (.aload_n 1, 1) := by decide +kernel
theorem dX7_copyFrom_17 : decode cX7_copyFrom 17 = .ok (.getfield 15, 3) := by decide +kernel
theorem dX7_copyFrom_20 : decode cX7_copyFrom 20 = .ok (.iconst 0, 1) := by decide +kernel
theorem dX7_copyFrom_21 : decode cX7_copyFrom 21 = .ok (.aload_n 0, 1) := by decide +kernel
theorem dX7_copyFrom_22 : decode cX7_copyFrom 22 = .ok (.getfield 15, 3) := by decide +kernel
theorem dX7_copyFrom_25 : decode cX7_copyFrom 25 = .ok (.iconst 0, 1) := by decide +kernel
theorem dX7_copyFrom_26 : decode cX7_copyFrom 26 = .ok (.aload_n 0, 1) := by decide +kernel
theorem dX7_copyFrom_27 : decode cX7_copyFrom 27 = .ok (.getfield 15, 3) := by decide +kernel
theorem dX7_copyFrom_30 : decode cX7_copyFrom 30 = .ok (.arraylength, 1) := by decide +kernel
theorem dX7_copyFrom_31 : decode cX7_copyFrom 31 = .ok (.invokestatic 36, 3) := by decide +kernel
theorem dX7_copyFrom_34 : decode cX7_copyFrom 34 = .ok (.aload_n 0, 1) := by decide +kernel
theorem dX7_copyFrom_35 : decode cX7_copyFrom 35 = .ok (.aload_n 1, 1) := by decide +kernel
theorem dX7_copyFrom_36 : decode cX7_copyFrom 36 = .ok (.getfield 25, 3) := by decide +kernel
theorem dX7_copyFrom_39 : decode cX7_copyFrom 39 = .ok (.putfield 25, 3) := by decide +kernel
theorem dX7_copyFrom_42 : decode cX7_copyFrom 42 = .ok (.aload_n 0, 1) := by decide +kernel
theorem dX7_copyFrom_43 : decode cX7_copyFrom 43 = .ok (.aload_n 1, 1) := by decide +kernel
theorem dX7_copyFrom_44 : decode cX7_copyFrom 44 = .ok (.getfield 29, 3) := by decide +kernel
theorem dX7_copyFrom_47 : decode cX7_copyFrom 47 = .ok (.putfield 29, 3) := by decide +kernel
theorem dX7_copyFrom_50 : decode cX7_copyFrom 50 = .ok (.aload_n 0, 1) := by decide +kernel
theorem dX7_copyFrom_51 : decode cX7_copyFrom 51 = .ok (.aload_n 1, 1) := by decide +kernel
theorem dX7_copyFrom_52 : decode cX7_copyFrom 52 = .ok (.getfield 30, 3) := by decide +kernel
theorem dX7_copyFrom_55 : decode cX7_copyFrom 55 = .ok (.putfield 30, 3) := by decide +kernel
theorem dX7_copyFrom_58 : decode cX7_copyFrom 58 = .ok (.aload_n 0, 1) := by decide +kernel
theorem dX7_copyFrom_59 : decode cX7_copyFrom 59 = .ok (.aload_n 1, 1) := by decide +kernel
theorem dX7_copyFrom_60 : decode cX7_copyFrom 60 = .ok (.getfield 33, 3) := by decide +kernel
theorem dX7_copyFrom_63 : decode cX7_copyFrom 63 = .ok (.putfield 33, 3) := by decide +kernel
theorem dX7_copyFrom_66 : decode cX7_copyFrom 66 = .ok (.return_, 1) := by decide +kernel
theorem dX7_arrive_0 : decode cX7_arrive 0 = .ok (.iload_n 3, 1) := by decide +kernel
theorem dX7_arrive_1 : decode cX7_arrive 1 = .ok (.ifCond .eq 16, 3) := by decide +kernel
theorem dX7_arrive_4 : decode cX7_arrive 4 = .ok (.aload_n 0, 1) := by decide +kernel
theorem dX7_arrive_5 : decode cX7_arrive 5 = .ok (.getfield 15, 3) := by decide +kernel
theorem dX7_arrive_8 : decode cX7_arrive 8 = .ok (.iconst 1, 1) := by decide +kernel
theorem dX7_arrive_9 : decode cX7_arrive 9 = .ok (.dup2, 1) := by decide +kernel
theorem dX7_arrive_10 : decode cX7_arrive 10 = .ok (.iaload, 1) := by decide +kernel
theorem dX7_arrive_11 : decode cX7_arrive 11 = .ok (.iconst 1, 1) := by decide +kernel
theorem dX7_arrive_12 : decode cX7_arrive 12 = .ok (.iadd, 1) := by decide +kernel
theorem dX7_arrive_13 : decode cX7_arrive 13 = .ok (.iastore, 1) := by decide +kernel
theorem dX7_arrive_14 : decode cX7_arrive 14 = .ok (.goto 50, 3) := by decide +kernel
theorem dX7_arrive_17 : decode cX7_arrive 17 = .ok (.iload_n 1, 1) := by decide +kernel
theorem dX7_arrive_18 : decode cX7_arrive 18 = .ok (.iload_n 2, 1) := by decide +kernel
theorem dX7_arrive_19 : decode cX7_arrive 19 = .ok (.iadd, 1) := by decide +kernel
theorem dX7_arrive_20 : decode cX7_arrive 20 = .ok (.aload_n 0, 1) := by decide +kernel
theorem dX7_arrive_21 : decode cX7_arrive 21 = .ok (.getfield 33, 3) := by decide +kernel
theorem dX7_arrive_24 : decode cX7_arrive 24 = .ok (.aload_n 0, 1) := by decide +kernel
theorem dX7_arrive_25 : decode cX7_arrive 25 = .ok (.getfield 29, 3) := by decide +kernel
theorem dX7_arrive_28 : decode cX7_arrive 28 = .ok (.iadd, 1) := by decide +kernel
theorem dX7_arrive_29 : decode cX7_arrive 29 = .ok (.if_icmp .le 16, 3) := by decide +kernel
theorem dX7_arrive_32 : decode cX7_arrive 32 = .ok (.aload_n 0, 1) := by decide +kernel
theorem dX7_arrive_33 : decode cX7_arrive 33 = .ok (.getfield 15, 3) := by decide +kernel
theorem dX7_arrive_36 : decode cX7_arrive 36 = .ok (.iconst 2, 1) := by decide +kernel
theorem dX7_arrive_37 : decode cX7_arrive 37 = .ok (.dup2, 1) := by decide +kernel
theorem dX7_arrive_38 : decode cX7_arrive 38 = .ok (.iaload, 1) := by decide +kernel
theorem dX7_arrive_39 : decode cX7_arrive 39 = .ok (.iconst 1, 1) := by decide +kernel
theorem dX7_arrive_40 : decode cX7_arrive 40 = .ok (.iadd, 1) := by decide +kernel
theorem dX7_arrive_41 : decode cX7_arrive 41 = .ok (.iastore, 1) := by decide +kernel
theorem dX7_arrive_42 : decode cX7_arrive 42 = .ok (.goto 22, 3) := by decide +kernel
theorem dX7_arrive_45 : decode cX7_arrive 45 = .ok (.aload_n 0, 1) := by decide +kernel
theorem dX7_arrive_46 : decode cX7_arrive 46 = .ok (.iload_n 1, 1) := by decide +kernel
theorem dX7_arrive_47 : decode cX7_arrive 47 = .ok (.iload_n 2, 1) := by decide +kernel
theorem dX7_arrive_48 : decode cX7_arrive 48 = .ok (.invokevirtual 42, 3) := by decide +kernel
theorem dX7_arrive_51 : decode cX7_arrive 51 = .ok (.ifCond .ne 13, 3) := by decide +kernel
theorem dX7_arrive_54 : decode cX7_arrive 54 = .ok (.aload_n 0, 1) := by decide +kernel
theorem dX7_arrive_55 : decode cX7_arrive 55 = .ok (.getfield 15, 3) := by decide +kernel
theorem dX7_arrive_58 : decode cX7_arrive 58 = .ok (.iconst 3, 1) := by decide +kernel
theorem dX7_arrive_59 : decode cX7_arrive 59 = .ok (.dup2, 1) := by decide +kernel
theorem dX7_arrive_60 : decode cX7_arrive 60 = .ok (.iaload, 1) := by decide +kernel
theorem dX7_arrive_61 : decode cX7_arrive 61 = .ok (.iconst 1, 1) := by decide +kernel
theorem dX7_arrive_62 : decode cX7_arrive 62 = .ok (.iadd, 1) := by decide +kernel
theorem dX7_arrive_63 : decode cX7_arrive 63 = .ok (.iastore, 1) := by decide +kernel
theorem dX7_arrive_64 : decode cX7_arrive 64 = .ok (.return_, 1) := by decide +kernel
theorem dX7_take_0 : decode cX7_take 0 = .ok (.iconst 0, 1) := by decide +kernel
theorem dX7_take_1 : decode cX7_take 1 = .ok (.istore_n 3, 1) := by decide +kernel
theorem dX7_take_2 : decode cX7_take 2 = .ok (.iload_n 1, 1) := by decide +kernel
theorem dX7_take_3 : decode cX7_take 3 = .ok (.istore 4, 2) := by decide +kernel
theorem dX7_take_5 : decode cX7_take 5 = .ok (.iload 4, 2) := by decide +kernel
theorem dX7_take_7 : decode cX7_take 7 = .ok (.iload_n 1, 1) := by decide +kernel
theorem dX7_take_8 : decode cX7_take 8 = .ok (.iload_n 2, 1) := by decide +kernel
theorem dX7_take_9 : decode cX7_take 9 = .ok (.iadd, 1) := by decide +kernel
theorem dX7_take_10 : decode cX7_take 10 = .ok (.if_icmp .ge 38, 3) := by decide +kernel
theorem dX7_take_13 : decode cX7_take 13 = .ok (.iload 4, 2) := by decide +kernel
theorem dX7_take_15 : decode cX7_take 15 = .ok (.sipush 200, 3) := by decide +kernel
theorem dX7_take_18 : decode cX7_take 18 = .ok (.if_icmp .ge 30, 3) := by decide +kernel
theorem dX7_take_21 : decode cX7_take 21 = .ok (.aload_n 0, 1) := by decide +kernel
theorem dX7_take_22 : decode cX7_take 22 = .ok (.getfield 9, 3) := by decide +kernel
theorem dX7_take_25 : decode cX7_take 25 = .ok (.iload 4, 2) := by decide +kernel
theorem dX7_take_27 : decode cX7_take 27 = .ok (.baload, 1) := by decide +kernel
theorem dX7_take_28 : decode cX7_take 28 = .ok (.ifCond .ne 14, 3) := by decide +kernel
theorem dX7_take_31 : decode cX7_take 31 = .ok (.aload_n 0, 1) := by decide +kernel
theorem dX7_take_32 : decode cX7_take 32 = .ok (.getfield 9, 3) := by decide +kernel
theorem dX7_take_35 : decode cX7_take 35 = .ok (.iload 4, 2) := by decide +kernel
theorem dX7_take_37 : decode cX7_take 37 = .ok (.iconst 1, 1) := by decide +kernel
theorem dX7_take_38 : decode cX7_take 38 = .ok (.bastore, 1) := by decide +kernel
theorem dX7_take_39 : decode cX7_take 39 = .ok (.iinc 3 1, 3) := by decide +kernel
theorem dX7_take_42 : decode cX7_take 42 = .ok (.iinc 4 1, 3) := by decide +kernel
theorem dX7_take_45 : decode cX7_take 45 = .ok (.goto (-40), 3) := by decide +kernel
theorem dX7_take_48 : decode cX7_take 48 = .ok (.aload_n 0, 1) := by decide +kernel
theorem dX7_take_49 : decode cX7_take 49 = .ok (.dup, 1) := by decide +kernel
theorem dX7_take_50 : decode cX7_take 50 = .ok (.getfield 30, 3) := by decide +kernel
theorem dX7_take_53 : decode cX7_take 53 = .ok (.iload_n 3, 1) := by decide +kernel
theorem dX7_take_54 : decode cX7_take 54 = .ok (.iadd, 1) := by decide +kernel
theorem dX7_take_55 : decode cX7_take 55 = .ok (.putfield 30, 3) := by decide +kernel
theorem dX7_take_58 : decode cX7_take 58 = .ok (.iload_n 3, 1) := by decide +kernel
theorem dX7_take_59 : decode cX7_take 59 = .ok (.ireturn, 1) := by decide +kernel
theorem dX7_missing_0 : decode cX7_missing 0 = .ok (.aload_n 0, 1) := by decide +kernel
theorem dX7_missing_1 : decode cX7_missing 1 = .ok (.getfield 33, 3) := by decide +kernel
theorem dX7_missing_4 : decode cX7_missing 4 = .ok (.istore_n 1, 1) := by decide +kernel
theorem dX7_missing_5 : decode cX7_missing 5 = .ok (.iload_n 1, 1) := by decide +kernel
theorem dX7_missing_6 : decode cX7_missing 6 = .ok (.aload_n 0, 1) := by decide +kernel
theorem dX7_missing_7 : decode cX7_missing 7 = .ok (.getfield 25, 3) := by decide +kernel
theorem dX7_missing_10 : decode cX7_missing 10 = .ok (.if_icmp .ge 18, 3) := by decide +kernel
theorem dX7_missing_13 : decode cX7_missing 13 = .ok (.aload_n 0, 1) := by decide +kernel
theorem dX7_missing_14 : decode cX7_missing 14 = .ok (.getfield 9, 3) := by decide +kernel
theorem dX7_missing_17 : decode cX7_missing 17 = .ok (.iload_n 1, 1) := by decide +kernel
theorem dX7_missing_18 : decode cX7_missing 18 = .ok (.baload, 1) := by decide +kernel
theorem dX7_missing_19 : decode cX7_missing 19 = .ok (.ifCond .eq 9, 3) := by decide +kernel
theorem dX7_missing_22 : decode cX7_missing 22 = .ok (.iinc 1 1, 3) := by decide +kernel
theorem dX7_missing_25 : decode cX7_missing 25 = .ok (.goto (-20), 3) := by decide +kernel
theorem dX7_missing_28 : decode cX7_missing 28 = .ok (.iload_n 1, 1) := by decide +kernel
theorem dX7_missing_29 : decode cX7_missing 29 = .ok (.ireturn, 1) := by decide +kernel
theorem dX8_init_0 : decode cX8_init 0 = .ok (.aload_n 0, 1) := by decide +kernel
theorem dX8_init_1 : decode cX8_init 1 = .ok (.invokespecial 1, 3) := by decide +kernel
theorem dX8_init_4 : decode cX8_init 4 = .ok (.return_, 1) := by decide +kernel
theorem dX8_begin_0 : decode cX8_begin 0 = .ok (.aload_n 0, 1) := by decide +kernel
theorem dX8_begin_1 : decode cX8_begin 1 = .ok (.iload_n 1, 1) := by decide +kernel
theorem dX8_begin_2 : decode cX8_begin 2 = .ok (.putfield 7, 3) := by decide +kernel
theorem dX8_begin_5 : decode cX8_begin 5 = .ok (.aload_n 0, 1) := by decide +kernel
theorem dX8_begin_6 : decode cX8_begin 6 = .ok (.iconst 0, 1) := by decide +kernel
theorem dX8_begin_7 : decode cX8_begin 7 = .ok (.putfield 13, 3) := by decide +kernel
theorem dX8_begin_10 : decode cX8_begin 10 = .ok (.aload_n 0, 1) := by decide +kernel
theorem dX8_begin_11 : decode cX8_begin 11 = .ok (.iconst 0, 1) := by decide +kernel
theorem dX8_begin_12 : decode cX8_begin 12 = .ok (.putfield 17, 3) := by decide +kernel
theorem dX8_begin_15 : decode cX8_begin 15 = .ok (.aload_n 0, 1) := by decide +kernel
theorem dX8_begin_16 : decode cX8_begin 16 = .ok (.iconst 0, 1) := by decide +kernel
theorem dX8_begin_17 : decode cX8_begin 17 = .ok (.putfield 20, 3) := by decide +kernel
theorem dX8_begin_20 : decode cX8_begin 20 = .ok (.aload_n 0, 1) := by decide +kernel
theorem dX8_begin_21 : decode cX8_begin 21 = .ok (.iconst 0, 1) := by decide +kernel
theorem dX8_begin_22 : decode cX8_begin 22 = .ok (.putfield 23, 3) := by decide +kernel
theorem dX8_begin_25 : decode cX8_begin 25 = .ok (.aload_n 0, 1) := by decide +kernel
theorem dX8_begin_26 : decode cX8_begin 26 = .ok (.iconst 0, 1) := by decide +kernel
theorem dX8_begin_27 : decode cX8_begin 27 = .ok (.putfield 26, 3) := by decide +kernel
theorem dX8_begin_30 : decode cX8_begin 30 = .ok (.aload_n 0, 1) := by decide +kernel
theorem dX8_begin_31 : decode cX8_begin 31 = .ok (.iconst 0, 1) := by decide +kernel
theorem dX8_begin_32 : decode cX8_begin 32 = .ok (.putfield 29, 3) := by decide +kernel
theorem dX8_begin_35 : decode cX8_begin 35 = .ok (.aload_n 0, 1) := by decide +kernel
theorem dX8_begin_36 : decode cX8_begin 36 = .ok (.iconst 0, 1) := by decide +kernel
theorem dX8_begin_37 : decode cX8_begin 37 = .ok (.putfield 32, 3) := by decide +kernel
theorem dX8_begin_40 : decode cX8_begin 40 = .ok (.return_, 1) := by decide +kernel
theorem dX8_copyFrom_0 : decode cX8_copyFrom 0 = .ok (.aload_n 0, 1) := by decide +kernel
theorem dX8_copyFrom_1 : decode cX8_copyFrom 1 = .ok (.aload_n 1, 1) := by decide +kernel
theorem dX8_copyFrom_2 : decode cX8_copyFrom 2 = .ok (.getfield 7, 3) := by decide +kernel
theorem dX8_copyFrom_5 : decode cX8_copyFrom 5 = .ok (.putfield 7, 3) := by decide +kernel
theorem dX8_copyFrom_8 : decode cX8_copyFrom 8 = .ok (.aload_n 0, 1) := by decide +kernel
theorem dX8_copyFrom_9 : decode cX8_copyFrom 9 = .ok (.aload_n 1, 1) := by decide +kernel
theorem dX8_copyFrom_10 : decode cX8_copyFrom 10 = .ok (.getfield 13, 3) := by decide +kernel
theorem dX8_copyFrom_13 : decode cX8_copyFrom 13 = .ok (.putfield 13, 3) := by decide +kernel
theorem dX8_copyFrom_16 : decode cX8_copyFrom 16 = .ok (.aload_n 0, 1) := by decide +kernel
theorem dX8_copyFrom_17 : decode cX8_copyFrom 17 = .ok (.aload_n 1, 1) := by decide +kernel
theorem dX8_copyFrom_18 : decode cX8_copyFrom 18 = .ok (.getfield 17, 3) := by decide +kernel
theorem dX8_copyFrom_21 : decode cX8_copyFrom 21 = .ok (.putfield 17, 3) := by decide +kernel
theorem dX8_copyFrom_24 : decode cX8_copyFrom 24 = .ok (.aload_n 0, 1) := by decide +kernel
theorem dX8_copyFrom_25 : decode cX8_copyFrom 25 = .ok (.aload_n 1, 1) := by decide +kernel
theorem dX8_copyFrom_26 : decode cX8_copyFrom 26 = .ok (.getfield 20, 3) := by decide +kernel
theorem dX8_copyFrom_29 : decode cX8_copyFrom 29 = .ok (.putfield 20, 3) := by decide +kernel
theorem dX8_copyFrom_32 : decode cX8_copyFrom 32 = .ok (.aload_n 0, 1) := by decide +kernel
theorem dX8_copyFrom_33 : decode cX8_copyFrom 33 = .ok (.aload_n 1, 1) := by decide +kernel
theorem dX8_copyFrom_34 : decode cX8_copyFrom 34 = .ok (.getfield 23, 3) := by decide +kernel
theorem dX8_copyFrom_37 : decode cX8_copyFrom 37 = .ok (.putfield 23, 3) := by decide +kernel
theorem dX8_copyFrom_40 : decode cX8_copyFrom 40 = .ok (.aload_n 0, 1) := by decide +kernel
theorem dX8_copyFrom_41 : decode cX8_copyFrom 41 = .ok (.aload_n 1, 1) := by decide +kernel
theorem dX8_copyFrom_42 : decode cX8_copyFrom 42 = .ok (.getfield 26, 3) := by decide +kernel
theorem dX8_copyFrom_45 : decode cX8_copyFrom 45 = .ok (.putfield 26, 3) := by decide +kernel
theorem dX8_copyFrom_48 : decode cX8_copyFrom 48 = .ok (.aload_n 0, 1) := by decide +kernel
theorem dX8_copyFrom_49 : decode cX8_copyFrom 49 = .ok (.aload_n 1, 1) := by decide +kernel
theorem dX8_copyFrom_50 : decode cX8_copyFrom 50 = .ok (.getfield 29, 3) := by decide +kernel
theorem dX8_copyFrom_53 : decode cX8_copyFrom 53 = .ok (.putfield 29, 3) := by decide +kernel
theorem dX8_copyFrom_56 : decode cX8_copyFrom 56 = .ok (.aload_n 0, 1) := by decide +kernel
theorem dX8_copyFrom_57 : decode cX8_copyFrom 57 = .ok (.aload_n 1, 1) := by decide +kernel
theorem dX8_copyFrom_58 : decode cX8_copyFrom 58 = .ok (.getfield 32, 3) := by decide +kernel
theorem dX8_copyFrom_61 : decode cX8_copyFrom 61 = .ok (.putfield 32, 3) := by decide +kernel
theorem dX8_copyFrom_64 : decode cX8_copyFrom 64 = .ok (.return_, 1) := by decide +kernel
theorem dX8_isNew_0 : decode cX8_isNew 0 = .ok (.aload_n 0, 1) := by decide +kernel
theorem dX8_isNew_1 : decode cX8_isNew 1 = .ok (.getfield 13, 3) := by decide +kernel
theorem dX8_isNew_4 : decode cX8_isNew 4 = .ok (.ifCond .ne 14, 3) := by decide +kernel
theorem dX8_isNew_7 : decode cX8_isNew 7 = .ok (.aload_n 0, 1) := by decide +kernel
theorem dX8_isNew_8 : decode cX8_isNew 8 = .ok (.getfield 17, 3) := by decide +kernel
theorem dX8_isNew_11 : decode cX8_isNew 11 = .ok (.ifCond .ne 7, 3) := by decide +kernel
theorem dX8_isNew_14 : decode cX8_isNew 14 = .ok (.iconst 1, 1) := by decide +kernel
theorem dX8_isNew_15 : decode cX8_isNew 15 = .ok (.goto 4, 3) := by decide +kernel
theorem dX8_isNew_18 : decode cX8_isNew 18 = .ok (.iconst 0, 1) := by decide +kernel
theorem dX8_isNew_19 : decode cX8_isNew 19 = .ok (.ireturn, 1) := by decide +kernel
theorem dX8_isAlive_0 : decode cX8_isAlive 0 = .ok (.aload_n 0, 1) := by decide +kernel
theorem dX8_isAlive_1 : decode cX8_isAlive 1 = .ok (.getfield 13, 3) := by decide +kernel
theorem dX8_isAlive_4 : decode cX8_isAlive 4 = .ok (.ifCond .eq 14, 3) := by decide +kernel
theorem dX8_isAlive_7 : decode cX8_isAlive 7 = .ok (.aload_n 0, 1) := by decide +kernel
theorem dX8_isAlive_8 : decode cX8_isAlive 8 = .ok (.getfield 17, 3) := by decide +kernel
theorem dX8_isAlive_11 : decode cX8_isAlive 11 = .ok (.ifCond .ne 7, 3) := by decide +kernel
theorem dX8_isAlive_14 : decode cX8_isAlive 14 = .ok (.iconst 1, 1) := by decide +kernel
theorem dX8_isAlive_15 : decode cX8_isAlive 15 = .ok (.goto 4, 3) := by decide +kernel
theorem dX8_isAlive_18 : decode cX8_isAlive 18 = .ok (.iconst 0, 1) := by decide +kernel
theorem dX8_isAlive_19 : decode cX8_isAlive 19 = .ok (.ireturn, 1) := by decide +kernel
theorem dX8_hasRoom_0 : decode cX8_hasRoom 0 = .ok (.aload_n 0, 1) := by decide +kernel
theorem dX8_hasRoom_1 : decode cX8_hasRoom 1 = .ok (.invokevirtual 35, 3) := by decide +kernel
theorem dX8_hasRoom_4 : decode cX8_hasRoom 4 = .ok (.ifCond .eq 22, 3) := by decide +kernel
theorem dX8_hasRoom_7 : decode cX8_hasRoom 7 = .ok (.sipush 1000, 3) := by decide +kernel
theorem dX8_hasRoom_10 : decode cX8_hasRoom 10 = .ok (.aload_n 0, 1) := by decide +kernel
theorem dX8_hasRoom_11 : decode cX8_hasRoom 11 = .ok (.getfield 26, 3) := by decide +kernel
theorem dX8_hasRoom_14 : decode cX8_hasRoom 14 = .ok (.imul, 1) := by decide +kernel
theorem dX8_hasRoom_15 : decode cX8_hasRoom 15 = .ok (.aload_n 0, 1) := by decide +kernel
theorem dX8_hasRoom_16 : decode cX8_hasRoom 16 = .ok (.getfield 20, 3) := by decide +kernel
theorem dX8_hasRoom_19 : decode cX8_hasRoom 19 = .ok (.if_icmp .ge 7, 3) := by decide +kernel
theorem dX8_hasRoom_22 : decode cX8_hasRoom 22 = .ok (.iconst 1, 1) := by decide +kernel
theorem dX8_hasRoom_23 : decode cX8_hasRoom 23 = .ok (.goto 4, 3) := by decide +kernel
theorem dX8_hasRoom_26 : decode cX8_hasRoom 26 = .ok (.iconst 0, 1) := by decide +kernel
theorem dX8_hasRoom_27 : decode cX8_hasRoom 27 = .ok (.ireturn, 1) := by decide +kernel
theorem dX8_enter_0 : decode cX8_enter 0 = .ok (.aload_n 0, 1) := by decide +kernel
theorem dX8_enter_1 : decode cX8_enter 1 = .ok (.iconst 1, 1) := by decide +kernel
theorem dX8_enter_2 : decode cX8_enter 2 = .ok (.putfield 13, 3) := by decide +kernel
theorem dX8_enter_5 : decode cX8_enter 5 = .ok (.aload_n 0, 1) := by decide +kernel
theorem dX8_enter_6 : decode cX8_enter 6 = .ok (.sipush 2000, 3) := by decide +kernel
theorem dX8_enter_9 : decode cX8_enter 9 = .ok (.putfield 20, 3) := by decide +kernel
theorem dX8_enter_12 : decode cX8_enter 12 = .ok (.return_, 1) := by decide +kernel
theorem dX8_grow_0 : decode cX8_grow 0 = .ok (.aload_n 0, 1) := by decide +kernel
theorem dX8_grow_1 : decode cX8_grow 1 = .ok (.aload_n 0, 1) := by decide +kernel
theorem dX8_grow_2 : decode cX8_grow 2 = .ok (.getfield 20, 3) := by decide +kernel
theorem dX8_grow_5 : decode cX8_grow 5 = .ok (.iload_n 1, 1) := by decide +kernel
theorem dX8_grow_6 : decode cX8_grow 6 = .ok (.iadd, 1) := by decide +kernel
theorem dX8_grow_7 : decode cX8_grow 7 = .ok (.ldc 39, 2) := by decide +kernel
theorem dX8_grow_9 : decode cX8_grow 9 = .ok (.invokestatic 40, 3) := by decide +kernel
theorem dX8_grow_12 : decode cX8_grow 12 = .ok (.putfield 20, 3) := by decide +kernel
theorem dX8_grow_15 : decode cX8_grow 15 = .ok (.return_, 1) := by decide +kernel
theorem dX8_halve_0 : decode cX8_halve 0 = .ok (.aload_n 0, 1) := by decide +kernel
theorem dX8_halve_1 : decode cX8_halve 1 = .ok (.aload_n 0, 1) := by decide +kernel
theorem dX8_halve_2 : decode cX8_halve 2 = .ok (.getfield 20, 3) := by decide +kernel
theorem dX8_halve_5 : decode cX8_halve 5 = .ok (.iconst 2, 1) := by decide +kernel
theorem dX8_halve_6 : decode cX8_halve 6 = .ok (.idiv, 1) := by decide +kernel
theorem dX8_halve_7 : decode cX8_halve 7 = .ok (.sipush 1000, 3) := by decide +kernel
theorem dX8_halve_10 : decode cX8_halve 10 = .ok (.invokestatic 46, 3) := by decide +kernel
theorem dX8_halve_13 : decode cX8_halve 13 = .ok (.putfield 20, 3) := by decide +kernel
theorem dX8_halve_16 : decode cX8_halve 16 = .ok (.return_, 1) := by decide +kernel
theorem dX9_init_0 : decode cX9_init 0 = .ok (.aload_n 0, 1) := by decide +kernel
theorem dX9_init_1 : decode cX9_init 1 = .ok (.invokespecial 3, 3) := by decide +kernel
theorem dX9_init_4 : decode cX9_init 4 = .ok (.aload_n 0, 1) := by decide +kernel
theorem dX9_init_5 : decode cX9_init 5 = .ok (.bipush 29, 2) := by decide +kernel
theorem dX9_init_7 : decode cX9_init 7 = .ok (.newarray .int, 2) := by decide +kernel
theorem dX9_init_9 : decode cX9_init 9 = .ok (.putfield 11, 3) := by decide +kernel
theorem dX9_init_12 : decode cX9_init 12 = .ok (.aload_n 0, 1) := by decide +kernel
theorem dX9_init_13 : decode cX9_init 13 = .ok (.aload_n 1, 1) := by decide +kernel
theorem dX9_init_14 : decode cX9_init 14 = .ok (.putfield 15, 3) := by decide +kernel
theorem dX9_init_17 : decode cX9_init 17 = .ok (.aload_n 0, 1) := by decide +kernel
theorem dX9_init_18 : decode cX9_init 18 = .ok (.aload_n 2, 1) := by decide +kernel
theorem dX9_init_19 : decode cX9_init 19 = .ok (.putfield 18, 3) := by decide +kernel
theorem dX9_init_22 : decode cX9_init 22 = .ok (.aload_n 0, 1) := by decide +kernel
theorem dX9_init_23 : decode cX9_init 23 = .ok (.aload_n 2, 1) := by decide +kernel
theorem dX9_init_24 : decode cX9_init 24 = .ok (.getfield 22, 3) := by decide +kernel
theorem dX9_init_27 : decode cX9_init 27 = .ok (.putfield 28, 3) := by decide +kernel
theorem dX9_init_30 : decode cX9_init 30 = .ok (.iconst 0, 1) := by decide +kernel
theorem dX9_init_31 : decode cX9_init 31 = .ok (.istore_n 3, 1) := by decide +kernel
theorem dX9_init_32 : decode cX9_init 32 = .ok (.iconst 0, 1) := by decide +kernel
theorem dX9_init_33 : decode cX9_init 33 = .ok (.istore 4, 2) := by decide +kernel
theorem dX9_init_35 : decode cX9_init 35 = .ok (.iconst 0, 1) := by decide +kernel
theorem dX9_init_36 : decode cX9_init 36 = .ok (.istore 5, 2) := by decide +kernel
theorem dX9_init_38 : decode cX9_init 38 = .ok (.iconst 0, 1) := by decide +kernel
theorem dX9_init_39 : decode cX9_init 39 = .ok (.istore 6, 2) := by decide +kernel
theorem dX9_init_41 : decode cX9_init 41 = .ok (.iload 6, 2) := by decide +kernel
theorem dX9_init_43 : decode cX9_init 43 = .ok (.ldc 31, 2) := by decide +kernel
theorem dX9_init_45 : decode cX9_init 45 = .ok (.invokevirtual 33, 3) := by decide +kernel
theorem dX9_init_48 : decode cX9_init 48 = .ok (.if_icmp .ge 69, 3) := by decide +kernel
theorem dX9_init_51 : decode cX9_init 51 = .ok (.iload 5, 2) := by decide +kernel
theorem dX9_init_53 : decode cX9_init 53 = .ok (.bipush 29, 2) := by decide +kernel
theorem dX9_init_55 : decode cX9_init 55 = .ok (.if_icmp .ge 62, 3) := by decide +kernel
theorem dX9_init_58 : decode cX9_init 58 = .ok (.ldc 31, 2) := by decide +kernel
theorem dX9_init_60 : decode cX9_init 60 = .ok (.iload 6, 2) := by decide +kernel
theorem dX9_init_62 : decode cX9_init 62 = .ok (.invokevirtual 39, 3) := by decide +kernel
theorem dX9_init_65 : decode cX9_init 65 = .ok (.istore 7, 2) := by decide +kernel
theorem dX9_init_67 : decode cX9_init 67 = .ok (.iload 7, 2) := by decide +kernel
theorem dX9_init_69 : decode cX9_init 69 = .ok (.bipush 32, 2) := by decide +kernel
theorem dX9_init_71 : decode cX9_init 71 = .ok (.if_icmp .ne 22, 3) := by decide +kernel
theorem dX9_init_74 : decode cX9_init 74 = .ok (.aload_n 0, 1) := by decide +kernel
theorem dX9_init_75 : decode cX9_init 75 = .ok (.getfield 11, 3) := by decide +kernel
theorem dX9_init_78 : decode cX9_init 78 = .ok (.iload 5, 2) := by decide +kernel
theorem dX9_init_80 : decode cX9_init 80 = .ok (.iload_n 3, 1) := by decide +kernel
theorem dX9_init_81 : decode cX9_init 81 = .ok (.iastore, 1) := by decide +kernel
theorem dX9_init_82 : decode cX9_init 82 = .ok (.iinc 5 1, 3) := by decide +kernel
theorem dX9_init_85 : decode cX9_init 85 = .ok (.iconst 0, 1) := by decide +kernel
theorem dX9_init_86 : decode cX9_init 86 = .ok (.istore_n 3, 1) := by decide +kernel
theorem dX9_init_87 : decode cX9_init 87 = .ok (.iconst 0, 1) := by decide +kernel
theorem dX9_init_88 : decode cX9_init 88 = .ok (.istore 4, 2) := by decide +kernel
theorem dX9_init_90 : decode cX9_init 90 = .ok (.goto 21, 3) := by decide +kernel
theorem dX9_init_93 : decode cX9_init 93 = .ok (.iload_n 3, 1) := by decide +kernel
theorem dX9_init_94 : decode cX9_init 94 = .ok (.iload 7, 2) := by decide +kernel
theorem dX9_init_96 : decode cX9_init 96 = .ok (.bipush 97, 2) := by decide +kernel
theorem dX9_init_98 : decode cX9_init 98 = .ok (.isub, 1) := by decide +kernel
theorem dX9_init_99 : decode cX9_init 99 = .ok (.iconst 1, 1) := by decide +kernel
theorem dX9_init_100 : decode cX9_init 100 = .ok (.iadd, 1) := by decide +kernel
theorem dX9_init_101 : decode cX9_init 101 = .ok (.iconst 5, 1) := by decide +kernel
theorem dX9_init_102 : decode cX9_init 102 = .ok (.iload 4, 2) := by decide +kernel
theorem dX9_init_104 : decode cX9_init 104 = .ok (.imul, 1) := by decide +kernel
theorem dX9_init_105 : decode cX9_init 105 = .ok (.ishl, 1) := by decide +kernel
theorem dX9_init_106 : decode cX9_init 106 = .ok (.ior, 1) := by decide +kernel
theorem dX9_init_107 : decode cX9_init 107 = .ok (.istore_n 3, 1) := by decide +kernel
theorem dX9_init_108 : decode cX9_init 108 = .ok (.iinc 4 1, 3) := by decide +kernel
theorem dX9_init_111 : decode cX9_init 111 = .ok (.iinc 6 1, 3) := by decide +kernel
theorem dX9_init_114 : decode cX9_init 114 = .ok (.goto (-73), 3) := by decide +kernel
theorem dX9_init_117 : decode cX9_init 117 = .ok (.return_, 1) := by decide +kernel
theorem dX9_letterOf_0 : decode cX9_letterOf 0 = .ok (.iload_n 0, 1) := by decide +kernel
theorem dX9_letterOf_1 : decode cX9_letterOf 1 = .ok (.iconst 5, 1) := by decide +kernel
theorem dX9_letterOf_2 : decode cX9_letterOf 2 = .ok (.iload_n 1, 1) := by decide +kernel
theorem dX9_letterOf_3 : decode cX9_letterOf 3 = .ok (.imul, 1) := by decide +kernel
theorem dX9_letterOf_4 : decode cX9_letterOf 4 = .ok (.ishr, 1) := by decide +kernel
theorem dX9_letterOf_5 : decode cX9_letterOf 5 = .ok (.bipush 31, 2) := by decide +kernel
theorem dX9_letterOf_7 : decode cX9_letterOf 7 = .ok (.iand, 1) := by decide +kernel
theorem dX9_letterOf_8 : decode cX9_letterOf 8 = .ok (.ireturn, 1) := by decide +kernel
theorem dX9_readText_0 : decode cX9_readText 0 = .ok (.aload_n 0, 1) := by decide +kernel
theorem dX9_readText_1 : decode cX9_readText 1 = .ok (.iload_n 1, 1) := by decide +kernel
theorem dX9_readText_2 : decode cX9_readText 2 = .ok (.putfield 43, 3) := by decide +kernel
theorem dX9_readText_5 : decode cX9_readText 5 = .ok (.aload_n 0, 1) := by decide +kernel
theorem dX9_readText_6 : decode cX9_readText 6 = .ok (.iconst 0, 1) := by decide +kernel
theorem dX9_readText_7 : decode cX9_readText 7 = .ok (.putfield 46, 3) := by decide +kernel
theorem dX9_readText_10 : decode cX9_readText 10 = .ok (.aload_n 0, 1) := by decide +kernel
theorem dX9_readText_11 : decode cX9_readText 11 = .ok (.aload_n 2, 1) := by decide +kernel
theorem dX9_readText_12 : decode cX9_readText 12 = .ok (.putfield 18, 3) := by decide +kernel
theorem dX9_readText_15 : decode cX9_readText 15 = .ok (.aload_n 0, 1) := by decide +kernel
theorem dX9_readText_16 : decode cX9_readText 16 = .ok (.iconst 0, 1) := by decide +kernel
theorem dX9_readText_17 : decode cX9_readText 17 = .ok (.putfield 49, 3) := by decide +kernel
theorem dX9_readText_20 : decode cX9_readText 20 = .ok (.aload_n 0, 1) := by decide +kernel
theorem dX9_readText_21 : decode cX9_readText 21 = .ok (.iconst 0, 1) := by decide +kernel
theorem dX9_readText_22 : decode cX9_readText 22 = .ok (.putfield 52, 3) := by decide +kernel
theorem dX9_readText_25 : decode cX9_readText 25 = .ok (.aload_n 0, 1) := by decide +kernel
theorem dX9_readText_26 : decode cX9_readText 26 = .ok (.iconst (-1), 1) := by decide +kernel
theorem dX9_readText_27 : decode cX9_readText 27 = .ok (.putfield 55, 3) := by decide +kernel
theorem dX9_readText_30 : decode cX9_readText 30 = .ok (.aload_n 0, 1) := by decide +kernel
theorem dX9_readText_31 : decode cX9_readText 31 = .ok (.iconst 0, 1) := by decide +kernel
theorem dX9_readText_32 : decode cX9_readText 32 = .ok (.putfield 58, 3) := by decide +kernel
theorem dX9_readText_35 : decode cX9_readText 35 = .ok (.aload_n 0, 1) := by decide +kernel
theorem dX9_readText_36 : decode cX9_readText 36 = .ok (.getfield 18, 3) := by decide +kernel
theorem dX9_readText_39 : decode cX9_readText 39 = .ok (.invokevirtual 61, 3) := by decide +kernel
theorem dX9_readText_42 : decode cX9_readText 42 = .ok (.aload_n 0, 1) := by decide +kernel
theorem dX9_readText_43 : decode cX9_readText 43 = .ok (.invokevirtual 64, 3) := by decide +kernel
theorem dX9_readText_46 : decode cX9_readText 46 = .ok (.iconst 0, 1) := by decide +kernel
theorem dX9_readText_47 : decode cX9_readText 47 = .ok (.istore_n 3, 1) := by decide +kernel
theorem dX9_readText_48 : decode cX9_readText 48 = .ok (.iload_n 3, 1) := by decide +kernel
theorem dX9_readText_49 : decode cX9_readText 49 = .ok (.bipush 40, 2) := by decide +kernel
theorem dX9_readText_51 : decode cX9_readText 51 = .ok (.if_icmp .gt 52, 3) := by decide +kernel
theorem dX9_readText_54 : decode cX9_readText 54 = .ok (.aload_n 0, 1) := by decide +kernel
theorem dX9_readText_55 : decode cX9_readText 55 = .ok (.getfield 52, 3) := by decide +kernel
theorem dX9_readText_58 : decode cX9_readText 58 = .ok (.ifCond .ne 45, 3) := by decide +kernel
theorem dX9_readText_61 : decode cX9_readText 61 = .ok (.aload_n 0, 1) := by decide +kernel
theorem dX9_readText_62 : decode cX9_readText 62 = .ok (.getfield 58, 3) := by decide +kernel
theorem dX9_readText_65 : decode cX9_readText 65 = .ok (.ifCond .ne 8, 3) := by decide +kernel
theorem dX9_readText_68 : decode cX9_readText 68 = .ok (.iload_n 3, 1) := by decide +kernel
theorem dX9_readText_69 : decode cX9_readText 69 = .ok (.ifCond .le 4, 3) := by decide +kernel
theorem dX9_readText_72 : decode cX9_readText 72 = .ok (.return_, 1) := by decide +kernel
theorem dX9_readText_73 : decode cX9_readText 73 = .ok (.aload_n 0, 1) := by decide +kernel
theorem dX9_readText_74 : decode cX9_readText 74 = .ok (.iload_n 3, 1) := by decide +kernel
theorem dX9_readText_75 : decode cX9_readText 75 = .ok (.invokevirtual 67, 3) := by decide +kernel
theorem dX9_readText_78 : decode cX9_readText 78 = .ok (.aload_n 0, 1) := by decide +kernel
theorem dX9_readText_79 : decode cX9_readText 79 = .ok (.bipush 59, 2) := by decide +kernel
theorem dX9_readText_81 : decode cX9_readText 81 = .ok (.invokevirtual 71, 3) := by decide +kernel
theorem dX9_readText_84 : decode cX9_readText 84 = .ok (.aload_n 0, 1) := by decide +kernel
theorem dX9_readText_85 : decode cX9_readText 85 = .ok (.getfield 18, 3) := by decide +kernel
theorem dX9_readText_88 : decode cX9_readText 88 = .ok (.dup, 1) := by decide +kernel
theorem dX9_readText_89 : decode cX9_readText 89 = .ok (.getfield 74, 3) := by decide +kernel
theorem dX9_readText_92 : decode cX9_readText 92 = .ok (.iconst 1, 1) := by decide +kernel
theorem dX9_readText_93 : decode cX9_readText 93 = .ok (.iadd, 1) := by decide +kernel
theorem dX9_readText_94 : decode cX9_readText 94 = .ok (.putfield 74, 3) := by decide +kernel
theorem dX9_readText_97 : decode cX9_readText 97 = .ok (.iinc 3 1, 3) := by decide +kernel
theorem dX9_readText_100 : decode cX9_readText 100 = .ok (.goto (-52), 3) := by decide +kernel
theorem dX9_readText_103 : decode cX9_readText 103 = .ok (.return_, 1) := by decide +kernel
theorem dX9_blame_0 : decode cX9_blame 0 = .ok (.aload_n 0, 1) := by decide +kernel
theorem dX9_blame_1 : decode cX9_blame 1 = .ok (.getfield 52, 3) := by decide +kernel
theorem dX9_blame_4 : decode cX9_blame 4 = .ok (.ifCond .ne 13, 3) := by decide +kernel
theorem dX9_blame_7 : decode cX9_blame 7 = .ok (.aload_n 0, 1) := by decide +kernel
theorem dX9_blame_8 : decode cX9_blame 8 = .ok (.iload_n 1, 1) := by decide +kernel
theorem dX9_blame_9 : decode cX9_blame 9 = .ok (.putfield 52, 3) := by decide +kernel
theorem dX9_blame_12 : decode cX9_blame 12 = .ok (.aload_n 0, 1) := by decide +kernel
theorem dX9_blame_13 : decode cX9_blame 13 = .ok (.iload_n 2, 1) := by decide +kernel
theorem dX9_blame_14 : decode cX9_blame 14 = .ok (.putfield 55, 3) := by decide +kernel
theorem dX9_blame_17 : decode cX9_blame 17 = .ok (.return_, 1) := by decide +kernel
theorem dX9_blameHere_0 : decode cX9_blameHere 0 = .ok (.aload_n 0, 1) := by decide +kernel
theorem dX9_blameHere_1 : decode cX9_blameHere 1 = .ok (.iconst 1, 1) := by decide +kernel
theorem dX9_blameHere_2 : decode cX9_blameHere 2 = .ok (.aload_n 0, 1) := by decide +kernel
theorem dX9_blameHere_3 : decode cX9_blameHere 3 = .ok (.getfield 58, 3) := by decide +kernel
theorem dX9_blameHere_6 : decode cX9_blameHere 6 = .ok (.iconst 4, 1) := by decide +kernel
theorem dX9_blameHere_7 : decode cX9_blameHere 7 = .ok (.if_icmp .ne 10, 3) := by decide +kernel
theorem dX9_blameHere_10 : decode cX9_blameHere 10 = .ok (.aload_n 0, 1) := by decide +kernel
theorem dX9_blameHere_11 : decode cX9_blameHere 11 = .ok (.getfield 77, 3) := by decide +kernel
theorem dX9_blameHere_14 : decode cX9_blameHere 14 = .ok (.goto 7, 3) := by decide +kernel
theorem dX9_blameHere_17 : decode cX9_blameHere 17 = .ok (.aload_n 0, 1) := by decide +kernel
theorem dX9_blameHere_18 : decode cX9_blameHere 18 = .ok (.getfield 80, 3) := by decide +kernel
theorem dX9_blameHere_21 : decode cX9_blameHere 21 = .ok (.invokevirtual 83, 3) := by decide +kernel
theorem dX9_blameHere_24 : decode cX9_blameHere 24 = .ok (.return_, 1) := by decide +kernel
theorem dX9_advance_0 : decode cX9_advance 0 = .ok (.aload_n 0, 1) := by decide +kernel
theorem dX9_advance_1 : decode cX9_advance 1 = .ok (.getfield 58, 3) := by decide +kernel
theorem dX9_advance_4 : decode cX9_advance 4 = .ok (.iconst 1, 1) := by decide +kernel
theorem dX9_advance_5 : decode cX9_advance 5 = .ok (.if_icmp .eq 11, 3) := by decide +kernel
theorem dX9_advance_8 : decode cX9_advance 8 = .ok (.aload_n 0, 1) := by decide +kernel
theorem dX9_advance_9 : decode cX9_advance 9 = .ok (.getfield 58, 3) := by decide +kernel
theorem dX9_advance_12 : decode cX9_advance 12 = .ok (.iconst 2, 1) := by decide +kernel
theorem dX9_advance_13 : decode cX9_advance 13 = .ok (.if_icmp .ne 7, 3) := by decide +kernel
theorem dX9_advance_16 : decode cX9_advance 16 = .ok (.iconst 1, 1) := by decide +kernel
theorem dX9_advance_17 : decode cX9_advance 17 = .ok (.goto 4, 3) := by decide +kernel
theorem dX9_advance_20 : decode cX9_advance 20 = .ok (.iconst 0, 1) := by decide +kernel
theorem dX9_advance_21 : decode cX9_advance 21 = .ok (.istore_n 1, 1) := by decide +kernel
theorem dX9_advance_22 : decode cX9_advance 22 = .ok (.aload_n 0, 1) := by decide +kernel
theorem dX9_advance_23 : decode cX9_advance 23 = .ok (.getfield 46, 3) := by decide +kernel
theorem dX9_advance_26 : decode cX9_advance 26 = .ok (.istore_n 2, 1) := by decide +kernel
theorem dX9_advance_27 : decode cX9_advance 27 = .ok (.aload_n 0, 1) := by decide +kernel
theorem dX9_advance_28 : decode cX9_advance 28 = .ok (.getfield 46, 3) := by decide +kernel
theorem dX9_advance_31 : decode cX9_advance 31 = .ok (.aload_n 0, 1) := by decide +kernel
theorem dX9_advance_32 : decode cX9_advance 32 = .ok (.getfield 43, 3) := by decide +kernel
theorem dX9_advance_35 : decode cX9_advance 35 = .ok (.if_icmp .ge 44, 3) := by decide +kernel
theorem dX9_advance_38 : decode cX9_advance 38 = .ok (.aload_n 0, 1) := by decide +kernel
theorem dX9_advance_39 : decode cX9_advance 39 = .ok (.getfield 15, 3) := by decide +kernel
theorem dX9_advance_42 : decode cX9_advance 42 = .ok (.aload_n 0, 1) := by decide +kernel
theorem dX9_advance_43 : decode cX9_advance 43 = .ok (.getfield 46, 3) := by decide +kernel
theorem dX9_advance_46 : decode cX9_advance 46 = .ok (.iaload, 1) := by decide +kernel
theorem dX9_advance_47 : decode cX9_advance 47 = .ok (.bipush 32, 2) := by decide +kernel
theorem dX9_advance_49 : decode cX9_advance 49 = .ok (.if_icmp .eq 17, 3) := by decide +kernel
theorem dX9_advance_52 : decode cX9_advance 52 = .ok (.aload_n 0, 1) := by decide +kernel
theorem dX9_advance_53 : decode cX9_advance 53 = .ok (.getfield 15, 3) := by decide +kernel
theorem dX9_advance_56 : decode cX9_advance 56 = .ok (.aload_n 0, 1) := by decide +kernel
theorem dX9_advance_57 : decode cX9_advance 57 = .ok (.getfield 46, 3) := by decide +kernel
theorem dX9_advance_60 : decode cX9_advance 60 = .ok (.iaload, 1) := by decide +kernel
theorem dX9_advance_61 : decode cX9_advance 61 = .ok (.bipush 10, 2) := by decide +kernel
theorem dX9_advance_63 : decode cX9_advance 63 = .ok (.if_icmp .ne 16, 3) := by decide +kernel
theorem dX9_advance_66 : decode cX9_advance 66 = .ok (.aload_n 0, 1) := by decide +kernel
theorem dX9_advance_67 : decode cX9_advance 67 = .ok (.dup, 1) := by decide +kernel
theorem dX9_advance_68 : decode cX9_advance 68 = .ok (.getfield 46, 3) := by decide +kernel
theorem dX9_advance_71 : decode cX9_advance 71 = .ok (.iconst 1, 1) := by decide +kernel
theorem dX9_advance_72 : decode cX9_advance 72 = .ok (.iadd, 1) := by decide +kernel
theorem dX9_advance_73 : decode cX9_advance 73 = .ok (.putfield 46, 3) := by decide +kernel
theorem dX9_advance_76 : decode cX9_advance 76 = .ok (.goto (-49), 3) := by decide +kernel
theorem dX9_advance_79 : decode cX9_advance 79 = .ok (.aload_n 0, 1) := by decide +kernel
theorem dX9_advance_80 : decode cX9_advance 80 = .ok (.aload_n 0, 1) := by decide +kernel
theorem dX9_advance_81 : decode cX9_advance 81 = .ok (.getfield 46, 3) := by decide +kernel
theorem dX9_advance_84 : decode cX9_advance 84 = .ok (.putfield 80, 3) := by decide +kernel
theorem dX9_advance_87 : decode cX9_advance 87 = .ok (.aload_n 0, 1) := by decide +kernel
theorem dX9_advance_88 : decode cX9_advance 88 = .ok (.getfield 46, 3) := by decide +kernel
theorem dX9_advance_91 : decode cX9_advance 91 = .ok (.aload_n 0, 1) := by decide +kernel
theorem dX9_advance_92 : decode cX9_advance 92 = .ok (.getfield 43, 3) := by decide +kernel
theorem dX9_advance_95 : decode cX9_advance 95 = .ok (.if_icmp .lt 11, 3) := by decide +kernel
theorem dX9_advance_98 : decode cX9_advance 98 = .ok (.aload_n 0, 1) := by decide +kernel
theorem dX9_advance_99 : decode cX9_advance 99 = .ok (.iconst 0, 1) := by decide +kernel
theorem dX9_advance_100 : decode cX9_advance 100 = .ok (.putfield 58, 3) := by decide +kernel
theorem dX9_advance_103 : decode cX9_advance 103 = .ok (.goto 67, 3) := by decide +kernel
theorem dX9_advance_106 : decode cX9_advance 106 = .ok (.aload_n 0, 1) := by decide +kernel
theorem dX9_advance_107 : decode cX9_advance 107 = .ok (.aload_n 0, 1) := by decide +kernel
theorem dX9_advance_108 : decode cX9_advance 108 = .ok (.getfield 46, 3) := by decide +kernel
theorem dX9_advance_111 : decode cX9_advance 111 = .ok (.invokevirtual 87, 3) := by decide +kernel
theorem dX9_advance_114 : decode cX9_advance 114 = .ok (.ifCond .eq 10, 3) := by decide +kernel
theorem dX9_advance_117 : decode cX9_advance 117 = .ok (.aload_n 0, 1) := by decide +kernel
theorem dX9_advance_118 : decode cX9_advance 118 = .ok (.invokevirtual 91, 3) := by decide +kernel
theorem dX9_advance_121 : decode cX9_advance 121 = .ok (.goto 49, 3) := by decide +kernel
theorem dX9_advance_124 : decode cX9_advance 124 = .ok (.aload_n 0, 1) := by decide +kernel
theorem dX9_advance_125 : decode cX9_advance 125 = .ok (.aload_n 0, 1) := by decide +kernel
theorem dX9_advance_126 : decode cX9_advance 126 = .ok (.getfield 46, 3) := by decide +kernel
theorem dX9_advance_129 : decode cX9_advance 129 = .ok (.invokevirtual 94, 3) := by decide +kernel
theorem dX9_advance_132 : decode cX9_advance 132 = .ok (.ifCond .eq 10, 3) := by decide +kernel
theorem dX9_advance_135 : decode cX9_advance 135 = .ok (.aload_n 0, 1) := by decide +kernel
theorem dX9_advance_136 : decode cX9_advance 136 = .ok (.invokevirtual 97, 3) := by decide +kernel
theorem dX9_advance_139 : decode cX9_advance 139 = .ok (.goto 31, 3) := by decide +kernel
theorem dX9_advance_142 : decode cX9_advance 142 = .ok (.aload_n 0, 1) := by decide +kernel
theorem dX9_advance_143 : decode cX9_advance 143 = .ok (.iconst 3, 1) := by decide +kernel
theorem dX9_advance_144 : decode cX9_advance 144 = .ok (.putfield 58, 3) := by decide +kernel
theorem dX9_advance_147 : decode cX9_advance 147 = .ok (.aload_n 0, 1) := by decide +kernel
theorem dX9_advance_148 : decode cX9_advance 148 = .ok (.aload_n 0, 1) := by decide +kernel
theorem dX9_advance_149 : decode cX9_advance 149 = .ok (.getfield 15, 3) := by decide +kernel
theorem dX9_advance_152 : decode cX9_advance 152 = .ok (.aload_n 0, 1) := by decide +kernel
theorem dX9_advance_153 : decode cX9_advance 153 = .ok (.getfield 46, 3) := by decide +kernel
theorem dX9_advance_156 : decode cX9_advance 156 = .ok (.iaload, 1) := by decide +kernel
theorem dX9_advance_157 : decode cX9_advance 157 = .ok (.putfield 100, 3) := by decide +kernel
theorem dX9_advance_160 : decode cX9_advance 160 = .ok (.aload_n 0, 1) := by decide +kernel
theorem dX9_advance_161 : decode cX9_advance 161 = .ok (.dup, 1) := by decide +kernel
theorem dX9_advance_162 : decode cX9_advance 162 = .ok (.getfield 46, 3) := by decide +kernel
theorem dX9_advance_165 : decode cX9_advance 165 = .ok (.iconst 1, 1) := by decide +kernel
theorem dX9_advance_166 : decode cX9_advance 166 = .ok (.iadd, 1) := by decide +kernel
theorem dX9_advance_167 : decode cX9_advance 167 = .ok (.putfield 46, 3) := by decide +kernel
theorem dX9_advance_170 : decode cX9_advance 170 = .ok (.iload_n 1, 1) := by decide +kernel
theorem dX9_advance_171 : decode cX9_advance 171 = .ok (.ifCond .eq 39, 3) := by decide +kernel
theorem dX9_advance_174 : decode cX9_advance 174 = .ok (.aload_n 0, 1) := by decide +kernel
theorem dX9_advance_175 : decode cX9_advance 175 = .ok (.getfield 80, 3) := by decide +kernel
theorem dX9_advance_178 : decode cX9_advance 178 = .ok (.iload_n 2, 1) := by decide +kernel
theorem dX9_advance_179 : decode cX9_advance 179 = .ok (.if_icmp .ne 31, 3) := by decide +kernel
theorem dX9_advance_182 : decode cX9_advance 182 = .ok (.aload_n 0, 1) := by decide +kernel
theorem dX9_advance_183 : decode cX9_advance 183 = .ok (.getfield 58, 3) := by decide +kernel
theorem dX9_advance_186 : decode cX9_advance 186 = .ok (.ifCond .eq 24, 3) := by decide +kernel
theorem dX9_advance_189 : decode cX9_advance 189 = .ok (.aload_n 0, 1) := by decide +kernel
theorem dX9_advance_190 : decode cX9_advance 190 = .ok (.getfield 58, 3) := by decide +kernel
theorem dX9_advance_193 : decode cX9_advance 193 = .ok (.iconst 3, 1) := by decide +kernel
theorem dX9_advance_194 : decode cX9_advance 194 = .ok (.if_icmp .eq 16, 3) := by decide +kernel
theorem dX9_advance_197 : decode cX9_advance 197 = .ok (.aload_n 0, 1) := by decide +kernel
theorem dX9_advance_198 : decode cX9_advance 198 = .ok (.iconst 4, 1) := by decide +kernel
theorem dX9_advance_199 : decode cX9_advance 199 = .ok (.putfield 58, 3) := by decide +kernel
theorem dX9_advance_202 : decode cX9_advance 202 = .ok (.aload_n 0, 1) := by decide +kernel
theorem dX9_advance_203 : decode cX9_advance 203 = .ok (.aload_n 0, 1) := by decide +kernel
theorem dX9_advance_204 : decode cX9_advance 204 = .ok (.getfield 80, 3) := by decide +kernel
theorem dX9_advance_207 : decode cX9_advance 207 = .ok (.putfield 77, 3) := by decide +kernel
theorem dX9_advance_210 : decode cX9_advance 210 = .ok (.return_, 1) := by decide +kernel
theorem dX9_isLetter_0 : decode cX9_isLetter 0 = .ok (.iload_n 1, 1) := by decide +kernel
theorem dX9_isLetter_1 : decode cX9_isLetter 1 = .ok (.aload_n 0, 1) := by decide +kernel
theorem dX9_isLetter_2 : decode cX9_isLetter 2 = .ok (.getfield 43, 3) := by decide +kernel
theorem dX9_isLetter_5 : decode cX9_isLetter 5 = .ok (.if_icmp .ge 29, 3) := by decide +kernel
theorem dX9_isLetter_8 : decode cX9_isLetter 8 = .ok (.aload_n 0, 1) := by decide +kernel
theorem dX9_isLetter_9 : decode cX9_isLetter 9 = .ok (.getfield 15, 3) := by decide +kernel
theorem dX9_isLetter_12 : decode cX9_isLetter 12 = .ok (.iload_n 1, 1) := by decide +kernel
theorem dX9_isLetter_13 : decode cX9_isLetter 13 = .ok (.iaload, 1) := by decide +kernel
theorem dX9_isLetter_14 : decode cX9_isLetter 14 = .ok (.bipush 97, 2) := by decide +kernel
theorem dX9_isLetter_16 : decode cX9_isLetter 16 = .ok (.if_icmp .lt 18, 3) := by decide +kernel
theorem dX9_isLetter_19 : decode cX9_isLetter 19 = .ok (.aload_n 0, 1) := by decide +kernel
theorem dX9_isLetter_20 : decode cX9_isLetter 20 = .ok (.getfield 15, 3) := by decide +kernel
theorem dX9_isLetter_23 : decode cX9_isLetter 23 = .ok (.iload_n 1, 1) := by decide +kernel
theorem dX9_isLetter_24 : decode cX9_isLetter 24 = .ok (.iaload, 1) := by decide +kernel
theorem dX9_isLetter_25 : decode cX9_isLetter 25 = .ok (.bipush 122, 2) := by decide +kernel
theorem dX9_isLetter_27 : decode cX9_isLetter 27 = .ok (.if_icmp .gt 7, 3) := by decide +kernel
theorem dX9_isLetter_30 : decode cX9_isLetter 30 = .ok (.iconst 1, 1) := by decide +kernel
theorem dX9_isLetter_31 : decode cX9_isLetter 31 = .ok (.goto 4, 3) := by decide +kernel
theorem dX9_isLetter_34 : decode cX9_isLetter 34 = .ok (.iconst 0, 1) := by decide +kernel
theorem dX9_isLetter_35 : decode cX9_isLetter 35 = .ok (.ireturn, 1) := by decide +kernel
theorem dX9_isDigit_0 : decode cX9_isDigit 0 = .ok (.iload_n 1, 1) := by decide +kernel
theorem dX9_isDigit_1 : decode cX9_isDigit 1 = .ok (.aload_n 0, 1) := by decide +kernel
theorem dX9_isDigit_2 : decode cX9_isDigit 2 = .ok (.getfield 43, 3) := by decide +kernel
theorem dX9_isDigit_5 : decode cX9_isDigit 5 = .ok (.if_icmp .ge 29, 3) := by decide +kernel
theorem dX9_isDigit_8 : decode cX9_isDigit 8 = .ok (.aload_n 0, 1) := by decide +kernel
theorem dX9_isDigit_9 : decode cX9_isDigit 9 = .ok (.getfield 15, 3) := by decide +kernel
theorem dX9_isDigit_12 : decode cX9_isDigit 12 = .ok (.iload_n 1, 1) := by decide +kernel
theorem dX9_isDigit_13 : decode cX9_isDigit 13 = .ok (.iaload, 1) := by decide +kernel
theorem dX9_isDigit_14 : decode cX9_isDigit 14 = .ok (.bipush 48, 2) := by decide +kernel
theorem dX9_isDigit_16 : decode cX9_isDigit 16 = .ok (.if_icmp .lt 18, 3) := by decide +kernel
theorem dX9_isDigit_19 : decode cX9_isDigit 19 = .ok (.aload_n 0, 1) := by decide +kernel
theorem dX9_isDigit_20 : decode cX9_isDigit 20 = .ok (.getfield 15, 3) := by decide +kernel
theorem dX9_isDigit_23 : decode cX9_isDigit 23 = .ok (.iload_n 1, 1) := by decide +kernel
theorem dX9_isDigit_24 : decode cX9_isDigit 24 = .ok (.iaload, 1) := by decide +kernel
theorem dX9_isDigit_25 : decode cX9_isDigit 25 = .ok (.bipush 57, 2) := by decide +kernel
theorem dX9_isDigit_27 : decode cX9_isDigit 27 = .ok (.if_icmp .gt 7, 3) := by decide +kernel
theorem dX9_isDigit_30 : decode cX9_isDigit 30 = .ok (.iconst 1, 1) := by decide +kernel
theorem dX9_isDigit_31 : decode cX9_isDigit 31 = .ok (.goto 4, 3) := by decide +kernel
theorem dX9_isDigit_34 : decode cX9_isDigit 34 = .ok (.iconst 0, 1) := by decide +kernel
theorem dX9_isDigit_35 : decode cX9_isDigit 35 = .ok (.ireturn, 1) := by decide +kernel
theorem dX9_takeWord_0 : decode cX9_takeWord 0 = .ok (.iconst 0, 1) := by decide +kernel
theorem dX9_takeWord_1 : decode cX9_takeWord 1 = .ok (.istore_n 1, 1) := by decide +kernel
theorem dX9_takeWord_2 : decode cX9_takeWord 2 = .ok (.iconst 0, 1) := by decide +kernel
theorem dX9_takeWord_3 : decode cX9_takeWord 3 = .ok (.istore_n 2, 1) := by decide +kernel
theorem dX9_takeWord_4 : decode cX9_takeWord 4 = .ok (.iload_n 2, 1) := by decide +kernel
theorem dX9_takeWord_5 : decode cX9_takeWord 5 = .ok (.bipush 6, 2) := by decide +kernel
theorem dX9_takeWord_7 : decode cX9_takeWord 7 = .ok (.if_icmp .ge 51, 3) := by decide +kernel
theorem dX9_takeWord_10 : decode cX9_takeWord 10 = .ok (.aload_n 0, 1) := by decide +kernel
theorem dX9_takeWord_11 : decode cX9_takeWord 11 = .ok (.aload_n 0, 1) := by decide +kernel
theorem dX9_takeWord_12 : decode cX9_takeWord 12 = .ok (.getfield 46, 3) := by decide +kernel
theorem dX9_takeWord_15 : decode cX9_takeWord 15 = .ok (.invokevirtual 87, 3) := by decide +kernel
theorem dX9_takeWord_18 : decode cX9_takeWord 18 = .ok (.ifCond .eq 40, 3) := by decide +kernel
theorem dX9_takeWord_21 : decode cX9_takeWord 21 = .ok (.iload_n 1, 1) := by decide +kernel
theorem dX9_takeWord_22 : decode cX9_takeWord 22 = .ok (.aload_n 0, 1) := by decide +kernel
theorem dX9_takeWord_23 : decode cX9_takeWord 23 = .ok (.getfield 15, 3) := by decide +kernel
theorem dX9_takeWord_26 : decode cX9_takeWord 26 = .ok (.aload_n 0, 1) := by decide +kernel
theorem dX9_takeWord_27 : decode cX9_takeWord 27 = .ok (.getfield 46, 3) := by decide +kernel
theorem dX9_takeWord_30 : decode cX9_takeWord 30 = .ok (.iaload, 1) := by decide +kernel
theorem dX9_takeWord_31 : decode cX9_takeWord 31 = .ok (.bipush 97, 2) := by decide +kernel
theorem dX9_takeWord_33 : decode cX9_takeWord 33 = .ok (.isub, 1) := by decide +kernel
theorem dX9_takeWord_34 : decode cX9_takeWord 34 = .ok (.iconst 1, 1) := by decide +kernel
theorem dX9_takeWord_35 : decode cX9_takeWord 35 = .ok (.iadd, 1) := by decide +kernel
theorem dX9_takeWord_36 : decode cX9_takeWord 36 = .ok (.iconst 5, 1) := by decide +kernel
theorem dX9_takeWord_37 : decode cX9_takeWord 37 = .ok (.iload_n 2, 1) := by decide +kernel
theorem dX9_takeWord_38 : decode cX9_takeWord 38 = .ok (.imul, 1) := by decide +kernel
theorem dX9_takeWord_39 : decode cX9_takeWord 39 = .ok (.ishl, 1) := by decide +kernel
theorem dX9_takeWord_40 : decode cX9_takeWord 40 = .ok (.ior, 1) := by decide +kernel
theorem dX9_takeWord_41 : decode cX9_takeWord 41 = .ok (.istore_n 1, 1) := by decide +kernel
theorem dX9_takeWord_42 : decode cX9_takeWord 42 = .ok (.aload_n 0, 1) := by decide +kernel
theorem dX9_takeWord_43 : decode cX9_takeWord 43 = .ok (.dup, 1) := by decide +kernel
theorem dX9_takeWord_44 : decode cX9_takeWord 44 = .ok (.getfield 46, 3) := by decide +kernel
theorem dX9_takeWord_47 : decode cX9_takeWord 47 = .ok (.iconst 1, 1) := by decide +kernel
theorem dX9_takeWord_48 : decode cX9_takeWord 48 = .ok (.iadd, 1) := by decide +kernel
theorem dX9_takeWord_49 : decode cX9_takeWord 49 = .ok (.putfield 46, 3) := by decide +kernel
theorem dX9_takeWord_52 : decode cX9_takeWord 52 = .ok (.iinc 2 1, 3) := by decide +kernel
theorem dX9_takeWord_55 : decode cX9_takeWord 55 = .ok (.goto (-51), 3) := by decide +kernel
theorem dX9_takeWord_58 : decode cX9_takeWord 58 = .ok (.aload_n 0, 1) := by decide +kernel
theorem dX9_takeWord_59 : decode cX9_takeWord 59 = .ok (.aload_n 0, 1) := by decide +kernel
theorem dX9_takeWord_60 : decode cX9_takeWord 60 = .ok (.aload_n 0, 1) := by decide +kernel
theorem dX9_takeWord_61 : decode cX9_takeWord 61 = .ok (.getfield 46, 3) := by decide +kernel
theorem dX9_takeWord_64 : decode cX9_takeWord 64 = .ok (.invokevirtual 87, 3) := by decide +kernel
theorem dX9_takeWord_67 : decode cX9_takeWord 67 = .ok (.ifCond .eq 7, 3) := by decide +kernel
theorem dX9_takeWord_70 : decode cX9_takeWord 70 = .ok (.iconst 4, 1) := by decide +kernel
theorem dX9_takeWord_71 : decode cX9_takeWord 71 = .ok (.goto 4, 3) := by decide +kernel
theorem dX9_takeWord_74 : decode cX9_takeWord 74 = .ok (.iconst 1, 1) := by decide +kernel
theorem dX9_takeWord_75 : decode cX9_takeWord 75 = .ok (.putfield 58, 3) := by decide +kernel
theorem dX9_takeWord_78 : decode cX9_takeWord 78 = .ok (.aload_n 0, 1) := by decide +kernel
theorem dX9_takeWord_79 : decode cX9_takeWord 79 = .ok (.aload_n 0, 1) := by decide +kernel
theorem dX9_takeWord_80 : decode cX9_takeWord 80 = .ok (.getfield 46, 3) := by decide +kernel
theorem dX9_takeWord_83 : decode cX9_takeWord 83 = .ok (.putfield 77, 3) := by decide +kernel
theorem dX9_takeWord_86 : decode cX9_takeWord 86 = .ok (.aload_n 0, 1) := by decide +kernel
theorem dX9_takeWord_87 : decode cX9_takeWord 87 = .ok (.iload_n 1, 1) := by decide +kernel
theorem dX9_takeWord_88 : decode cX9_takeWord 88 = .ok (.putfield 100, 3) := by decide +kernel
theorem dX9_takeWord_91 : decode cX9_takeWord 91 = .ok (.aload_n 0, 1) := by decide +kernel
theorem dX9_takeWord_92 : decode cX9_takeWord 92 = .ok (.iconst (-1), 1) := by decide +kernel
theorem dX9_takeWord_93 : decode cX9_takeWord 93 = .ok (.putfield 103, 3) := by decide +kernel
theorem dX9_takeWord_96 : decode cX9_takeWord 96 = .ok (.iconst 0, 1) := by decide +kernel
theorem dX9_takeWord_97 : decode cX9_takeWord 97 = .ok (.istore_n 3, 1) := by decide +kernel
theorem dX9_takeWord_98 : decode cX9_takeWord 98 = .ok (.iload_n 3, 1) := by decide +kernel
theorem dX9_takeWord_99 : decode cX9_takeWord 99 = .ok (.bipush 29, 2) := by decide +kernel
theorem dX9_takeWord_101 : decode cX9_takeWord 101 = .ok (.if_icmp .ge 24, 3) := by decide +kernel
theorem dX9_takeWord_104 : decode cX9_takeWord 104 = .ok (.aload_n 0, 1) := by decide +kernel
theorem dX9_takeWord_105 : decode cX9_takeWord 105 = .ok (.getfield 11, 3) := by decide +kernel
theorem dX9_takeWord_108 : decode cX9_takeWord 108 = .ok (.iload_n 3, 1) := by decide +kernel
theorem dX9_takeWord_109 : decode cX9_takeWord 109 = .ok (.iaload, 1) := by decide +kernel
theorem dX9_takeWord_110 : decode cX9_takeWord 110 = .ok (.iload_n 1, 1) := by decide +kernel
theorem dX9_takeWord_111 : decode cX9_takeWord 111 = .ok (.if_icmp .ne 8, 3) := by decide +kernel
theorem dX9_takeWord_114 : decode cX9_takeWord 114 = .ok (.aload_n 0, 1) := by decide +kernel
theorem dX9_takeWord_115 : decode cX9_takeWord 115 = .ok (.iload_n 3, 1) := by decide +kernel
theorem dX9_takeWord_116 : decode cX9_takeWord 116 = .ok (.putfield 103, 3) := by decide +kernel
theorem dX9_takeWord_119 : decode cX9_takeWord 119 = .ok (.iinc 3 1, 3) := by decide +kernel
theorem dX9_takeWord_122 : decode cX9_takeWord 122 = .ok (.goto (-24), 3) := by decide +kernel
theorem dX9_takeWord_125 : decode cX9_takeWord 125 = .ok (.return_, 1) := by decide +kernel
theorem dX9_takeNumber_0 : decode cX9_takeNumber 0 = .ok (.aload_n 0, 1) := by decide +kernel
theorem dX9_takeNumber_1 : decode cX9_takeNumber 1 = .ok (.iconst 0, 1) := by decide +kernel
theorem dX9_takeNumber_2 : decode cX9_takeNumber 2 = .ok (.putfield 100, 3) := by decide +kernel
theorem dX9_takeNumber_5 : decode cX9_takeNumber 5 = .ok (.iconst 0, 1) := by decide +kernel
theorem dX9_takeNumber_6 : decode cX9_takeNumber 6 = .ok (.istore_n 1, 1) := by decide +kernel
theorem dX9_takeNumber_7 : decode cX9_takeNumber 7 = .ok (.iload_n 1, 1) := by decide +kernel
theorem dX9_takeNumber_8 : decode cX9_takeNumber 8 = .ok (.iconst 4, 1) := by decide +kernel
theorem dX9_takeNumber_9 : decode cX9_takeNumber 9 = .ok (.if_icmp .ge 54, 3) := by decide +kernel
theorem dX9_takeNumber_12 : decode cX9_takeNumber 12 = .ok (.aload_n 0, 1) := by decide +kernel
theorem dX9_takeNumber_13 : decode cX9_takeNumber 13 = .ok (.aload_n 0, 1) := by decide +kernel
theorem dX9_takeNumber_14 : decode cX9_takeNumber 14 = .ok (.getfield 46, 3) := by decide +kernel
theorem dX9_takeNumber_17 : decode cX9_takeNumber 17 = .ok (.invokevirtual 94, 3) := by decide +kernel
theorem dX9_takeNumber_20 : decode cX9_takeNumber 20 = .ok (.ifCond .eq 43, 3) := by decide +kernel
theorem dX9_takeNumber_23 : decode cX9_takeNumber 23 = .ok (.aload_n 0, 1) := by decide +kernel
theorem dX9_takeNumber_24 : decode cX9_takeNumber 24 = .ok (.bipush 10, 2) := by decide +kernel
theorem dX9_takeNumber_26 : decode cX9_takeNumber 26 = .ok (.aload_n 0, 1) := by decide +kernel
theorem dX9_takeNumber_27 : decode cX9_takeNumber 27 = .ok (.getfield 100, 3) := by decide +kernel
theorem dX9_takeNumber_30 : decode cX9_takeNumber 30 = .ok (.imul, 1) := by decide +kernel
theorem dX9_takeNumber_31 : decode cX9_takeNumber 31 = .ok (.aload_n 0, 1) := by decide +kernel
theorem dX9_takeNumber_32 : decode cX9_takeNumber 32 = .ok (.getfield 15, 3) := by decide +kernel
theorem dX9_takeNumber_35 : decode cX9_takeNumber 35 = .ok (.aload_n 0, 1) := by decide +kernel
theorem dX9_takeNumber_36 : decode cX9_takeNumber 36 = .ok (.getfield 46, 3) := by decide +kernel
theorem dX9_takeNumber_39 : decode cX9_takeNumber 39 = .ok (.iaload, 1) := by decide +kernel
theorem dX9_takeNumber_40 : decode cX9_takeNumber 40 = .ok (.iadd, 1) := by decide +kernel
theorem dX9_takeNumber_41 : decode cX9_takeNumber 41 = .ok (.bipush 48, 2) := by decide +kernel
theorem dX9_takeNumber_43 : decode cX9_takeNumber 43 = .ok (.isub, 1) := by decide +kernel
theorem dX9_takeNumber_44 : decode cX9_takeNumber 44 = .ok (.putfield 100, 3) := by decide +kernel
theorem dX9_takeNumber_47 : decode cX9_takeNumber 47 = .ok (.aload_n 0, 1) := by decide +kernel
theorem dX9_takeNumber_48 : decode cX9_takeNumber 48 = .ok (.dup, 1) := by decide +kernel
theorem dX9_takeNumber_49 : decode cX9_takeNumber 49 = .ok (.getfield 46, 3) := by decide +kernel
theorem dX9_takeNumber_52 : decode cX9_takeNumber 52 = .ok (.iconst 1, 1) := by decide +kernel
theorem dX9_takeNumber_53 : decode cX9_takeNumber 53 = .ok (.iadd, 1) := by decide +kernel
theorem dX9_takeNumber_54 : decode cX9_takeNumber 54 = .ok (.putfield 46, 3) := by decide +kernel
theorem dX9_takeNumber_57 : decode cX9_takeNumber 57 = .ok (.iinc 1 1, 3) := by decide +kernel
theorem dX9_takeNumber_60 : decode cX9_takeNumber 60 = .ok (.goto (-53), 3) := by decide +kernel
theorem dX9_takeNumber_63 : decode cX9_takeNumber 63 = .ok (.aload_n 0, 1) := by decide +kernel
theorem dX9_takeNumber_64 : decode cX9_takeNumber 64 = .ok (.aload_n 0, 1) := by decide +kernel
theorem dX9_takeNumber_65 : decode cX9_takeNumber 65 = .ok (.aload_n 0, 1) := by decide +kernel
theorem dX9_takeNumber_66 : decode cX9_takeNumber 66 = .ok (.getfield 46, 3) := by decide +kernel
theorem dX9_takeNumber_69 : decode cX9_takeNumber 69 = .ok (.invokevirtual 94, 3) := by decide +kernel
theorem dX9_takeNumber_72 : decode cX9_takeNumber 72 = .ok (.ifCond .eq 7, 3) := by decide +kernel
theorem dX9_takeNumber_75 : decode cX9_takeNumber 75 = .ok (.iconst 4, 1) := by decide +kernel
theorem dX9_takeNumber_76 : decode cX9_takeNumber 76 = .ok (.goto 4, 3) := by decide +kernel
theorem dX9_takeNumber_79 : decode cX9_takeNumber 79 = .ok (.iconst 2, 1) := by decide +kernel
theorem dX9_takeNumber_80 : decode cX9_takeNumber 80 = .ok (.putfield 58, 3) := by decide +kernel
theorem dX9_takeNumber_83 : decode cX9_takeNumber 83 = .ok (.aload_n 0, 1) := by decide +kernel
theorem dX9_takeNumber_84 : decode cX9_takeNumber 84 = .ok (.aload_n 0, 1) := by decide +kernel
theorem dX9_takeNumber_85 : decode cX9_takeNumber 85 = .ok (.getfield 46, 3) := by decide +kernel
theorem dX9_takeNumber_88 : decode cX9_takeNumber 88 = .ok (.putfield 77, 3) := by decide +kernel
theorem dX9_takeNumber_91 : decode cX9_takeNumber 91 = .ok (.return_, 1) := by decide +kernel
theorem dX9_isWord_0 : decode cX9_isWord 0 = .ok (.aload_n 0, 1) := by decide +kernel
theorem dX9_isWord_1 : decode cX9_isWord 1 = .ok (.getfield 52, 3) := by decide +kernel
theorem dX9_isWord_4 : decode cX9_isWord 4 = .ok (.ifCond .ne 23, 3) := by decide +kernel
theorem dX9_isWord_7 : decode cX9_isWord 7 = .ok (.aload_n 0, 1) := by decide +kernel
theorem dX9_isWord_8 : decode cX9_isWord 8 = .ok (.getfield 58, 3) := by decide +kernel
theorem dX9_isWord_11 : decode cX9_isWord 11 = .ok (.iconst 1, 1) := by decide +kernel
theorem dX9_isWord_12 : decode cX9_isWord 12 = .ok (.if_icmp .ne 15, 3) := by decide +kernel
theorem dX9_isWord_15 : decode cX9_isWord 15 = .ok (.aload_n 0, 1) := by decide +kernel
theorem dX9_isWord_16 : decode cX9_isWord 16 = .ok (.getfield 103, 3) := by decide +kernel
theorem dX9_isWord_19 : decode cX9_isWord 19 = .ok (.iload_n 1, 1) := by decide +kernel
theorem dX9_isWord_20 : decode cX9_isWord 20 = .ok (.if_icmp .ne 7, 3) := by decide +kernel
theorem dX9_isWord_23 : decode cX9_isWord 23 = .ok (.iconst 1, 1) := by decide +kernel
theorem dX9_isWord_24 : decode cX9_isWord 24 = .ok (.goto 4, 3) := by decide +kernel
theorem dX9_isWord_27 : decode cX9_isWord 27 = .ok (.iconst 0, 1) := by decide +kernel
theorem dX9_isWord_28 : decode cX9_isWord 28 = .ok (.ireturn, 1) := by decide +kernel
theorem dX9_isSign_0 : decode cX9_isSign 0 = .ok (.aload_n 0, 1) := by decide +kernel
theorem dX9_isSign_1 : decode cX9_isSign 1 = .ok (.getfield 52, 3) := by decide +kernel
theorem dX9_isSign_4 : decode cX9_isSign 4 = .ok (.ifCond .ne 23, 3) := by decide +kernel
theorem dX9_isSign_7 : decode cX9_isSign 7 = .ok (.aload_n 0, 1) := by decide +kernel
theorem dX9_isSign_8 : decode cX9_isSign 8 = .ok (.getfield 58, 3) := by decide +kernel
theorem dX9_isSign_11 : decode cX9_isSign 11 = .ok (.iconst 3, 1) := by decide +kernel
theorem dX9_isSign_12 : decode cX9_isSign 12 = .ok (.if_icmp .ne 15, 3) := by decide +kernel
theorem dX9_isSign_15 : decode cX9_isSign 15 = .ok (.aload_n 0, 1) := by decide +kernel
theorem dX9_isSign_16 : decode cX9_isSign 16 = .ok (.getfield 100, 3) := by decide +kernel
theorem dX9_isSign_19 : decode cX9_isSign 19 = .ok (.iload_n 1, 1) := by decide +kernel
theorem dX9_isSign_20 : decode cX9_isSign 20 = .ok (.if_icmp .ne 7, 3) := by decide +kernel
theorem dX9_isSign_23 : decode cX9_isSign 23 = .ok (.iconst 1, 1) := by decide +kernel
theorem dX9_isSign_24 : decode cX9_isSign 24 = .ok (.goto 4, 3) := by decide +kernel
theorem dX9_isSign_27 : decode cX9_isSign 27 = .ok (.iconst 0, 1) := by decide +kernel
theorem dX9_isSign_28 : decode cX9_isSign 28 = .ok (.ireturn, 1) := by decide +kernel
theorem dX9_expectWord_0 : decode cX9_expectWord 0 = .ok (.aload_n 0, 1) := by decide +kernel
theorem dX9_expectWord_1 : decode cX9_expectWord 1 = .ok (.iload_n 1, 1) := by decide +kernel
theorem dX9_expectWord_2 : decode cX9_expectWord 2 = .ok (.invokevirtual 106, 3) := by decide +kernel
theorem dX9_expectWord_5 : decode cX9_expectWord 5 = .ok (.ifCond .eq 10, 3) := by decide +kernel
theorem dX9_expectWord_8 : decode cX9_expectWord 8 = .ok (.aload_n 0, 1) := by decide +kernel
theorem dX9_expectWord_9 : decode cX9_expectWord 9 = .ok (.invokevirtual 64, 3) := by decide +kernel
theorem dX9_expectWord_12 : decode cX9_expectWord 12 = .ok (.goto 7, 3) := by decide +kernel
theorem dX9_expectWord_15 : decode cX9_expectWord 15 = .ok (.aload_n 0, 1) := by decide +kernel
theorem dX9_expectWord_16 : decode cX9_expectWord 16 = .ok (.invokevirtual 109, 3) := by decide +kernel
theorem dX9_expectWord_19 : decode cX9_expectWord 19 = .ok (.return_, 1) := by decide +kernel
theorem dX9_expectSign_0 : decode cX9_expectSign 0 = .ok (.aload_n 0, 1) := by decide +kernel
theorem dX9_expectSign_1 : decode cX9_expectSign 1 = .ok (.iload_n 1, 1) := by decide +kernel
theorem dX9_expectSign_2 : decode cX9_expectSign 2 = .ok (.invokevirtual 112, 3) := by decide +kernel
theorem dX9_expectSign_5 : decode cX9_expectSign 5 = .ok (.ifCond .eq 10, 3) := by decide +kernel
theorem dX9_expectSign_8 : decode cX9_expectSign 8 = .ok (.aload_n 0, 1) := by decide +kernel
theorem dX9_expectSign_9 : decode cX9_expectSign 9 = .ok (.invokevirtual 64, 3) := by decide +kernel
theorem dX9_expectSign_12 : decode cX9_expectSign 12 = .ok (.goto 7, 3) := by decide +kernel
theorem dX9_expectSign_15 : decode cX9_expectSign 15 = .ok (.aload_n 0, 1) := by decide +kernel
theorem dX9_expectSign_16 : decode cX9_expectSign 16 = .ok (.invokevirtual 109, 3) := by decide +kernel
theorem dX9_expectSign_19 : decode cX9_expectSign 19 = .ok (.return_, 1) := by decide +kernel
theorem dX9_expectNumber_0 : decode cX9_expectNumber 0 = .ok (.aload_n 0, 1) := by decide +kernel
theorem dX9_expectNumber_1 : decode cX9_expectNumber 1 = .ok (.getfield 52, 3) := by decide +kernel
theorem dX9_expectNumber_4 : decode cX9_expectNumber 4 = .ok (.ifCond .ne 11, 3) := by decide +kernel
theorem dX9_expectNumber_7 : decode cX9_expectNumber 7 = .ok (.aload_n 0, 1) := by decide +kernel
theorem dX9_expectNumber_8 : decode cX9_expectNumber 8 = .ok (.getfield 58, 3) := by decide +kernel
theorem dX9_expectNumber_11 : decode cX9_expectNumber 11 = .ok (.iconst 2, 1) := by decide +kernel
theorem dX9_expectNumber_12 : decode cX9_expectNumber 12 = .ok (.if_icmp .eq 9, 3) := by decide +kernel
theorem dX9_expectNumber_15 : decode cX9_expectNumber 15 = .ok (.aload_n 0, 1) := by decide +kernel
theorem dX9_expectNumber_16 : decode cX9_expectNumber 16 = .ok (.invokevirtual 109, 3) := by decide +kernel
theorem dX9_expectNumber_19 : decode cX9_expectNumber 19 = .ok (.iconst 0, 1) := by decide +kernel
theorem dX9_expectNumber_20 : decode cX9_expectNumber 20 = .ok (.ireturn, 1) := by decide +kernel
theorem dX9_expectNumber_21 : decode cX9_expectNumber 21 = .ok (.aload_n 0, 1) := by decide +kernel
theorem dX9_expectNumber_22 : decode cX9_expectNumber 22 = .ok (.getfield 100, 3) := by decide +kernel
theorem dX9_expectNumber_25 : decode cX9_expectNumber 25 = .ok (.istore_n 3, 1) := by decide +kernel
theorem dX9_expectNumber_26 : decode cX9_expectNumber 26 = .ok (.iload_n 3, 1) := by decide +kernel
theorem dX9_expectNumber_27 : decode cX9_expectNumber 27 = .ok (.iload_n 1, 1) := by decide +kernel
theorem dX9_expectNumber_28 : decode cX9_expectNumber 28 = .ok (.if_icmp .lt 8, 3) := by decide +kernel
theorem dX9_expectNumber_31 : decode cX9_expectNumber 31 = .ok (.iload_n 3, 1) := by decide +kernel
theorem dX9_expectNumber_32 : decode cX9_expectNumber 32 = .ok (.iload_n 2, 1) := by decide +kernel
theorem dX9_expectNumber_33 : decode cX9_expectNumber 33 = .ok (.if_icmp .le 14, 3) := by decide +kernel
theorem dX9_expectNumber_36 : decode cX9_expectNumber 36 = .ok (.aload_n 0, 1) := by decide +kernel
theorem dX9_expectNumber_37 : decode cX9_expectNumber 37 = .ok (.iconst 4, 1) := by decide +kernel
theorem dX9_expectNumber_38 : decode cX9_expectNumber 38 = .ok (.aload_n 0, 1) := by decide +kernel
theorem dX9_expectNumber_39 : decode cX9_expectNumber 39 = .ok (.getfield 80, 3) := by decide +kernel
theorem dX9_expectNumber_42 : decode cX9_expectNumber 42 = .ok (.invokevirtual 83, 3) := by decide +kernel
theorem dX9_expectNumber_45 : decode cX9_expectNumber 45 = .ok (.iconst 0, 1) := by decide +kernel
theorem dX9_expectNumber_46 : decode cX9_expectNumber 46 = .ok (.ireturn, 1) := by decide +kernel
theorem dX9_expectNumber_47 : decode cX9_expectNumber 47 = .ok (.aload_n 0, 1) := by decide +kernel
theorem dX9_expectNumber_48 : decode cX9_expectNumber 48 = .ok (.invokevirtual 64, 3) := by decide +kernel
theorem dX9_expectNumber_51 : decode cX9_expectNumber 51 = .ok (.iload_n 3, 1) := by decide +kernel
theorem dX9_expectNumber_52 : decode cX9_expectNumber 52 = .ok (.ireturn, 1) := by decide +kernel
theorem dX9_readStatement_0 : decode cX9_readStatement 0 = .ok (.iload_n 1, 1) := by decide +kernel
theorem dX9_readStatement_1 : decode cX9_readStatement 1 = .ok (.ifCond .ne 10, 3) := by decide +kernel
theorem dX9_readStatement_4 : decode cX9_readStatement 4 = .ok (.aload_n 0, 1) := by decide +kernel
theorem dX9_readStatement_5 : decode cX9_readStatement 5 = .ok (.invokevirtual 115, 3) := by decide +kernel
theorem dX9_readStatement_8 : decode cX9_readStatement 8 = .ok (.goto 179, 3) := by decide +kernel
theorem dX9_readStatement_11 : decode cX9_readStatement 11 = .ok (.iload_n 1, 1) := by decide +kernel
theorem dX9_readStatement_12 : decode cX9_readStatement 12 = .ok (.bipush 40, 2) := by decide +kernel
theorem dX9_readStatement_14 : decode cX9_readStatement 14 = .ok (.if_icmp .lt 16, 3) := by decide +kernel
theorem dX9_readStatement_17 : decode cX9_readStatement 17 = .ok (.aload_n 0, 1) := by decide +kernel
theorem dX9_readStatement_18 : decode cX9_readStatement 18 = .ok (.bipush 6, 2) := by decide +kernel
theorem dX9_readStatement_20 : decode cX9_readStatement 20 = .ok (.aload_n 0, 1) := by decide +kernel
theorem dX9_readStatement_21 : decode cX9_readStatement 21 = .ok (.getfield 80, 3) := by decide +kernel
theorem dX9_readStatement_24 : decode cX9_readStatement 24 = .ok (.invokevirtual 83, 3) := by decide +kernel
theorem dX9_readStatement_27 : decode cX9_readStatement 27 = .ok (.goto 160, 3) := by decide +kernel
theorem dX9_readStatement_30 : decode cX9_readStatement 30 = .ok (.aload_n 0, 1) := by decide +kernel
theorem dX9_readStatement_31 : decode cX9_readStatement 31 = .ok (.iconst 4, 1) := by decide +kernel
theorem dX9_readStatement_32 : decode cX9_readStatement 32 = .ok (.invokevirtual 106, 3) := by decide +kernel
theorem dX9_readStatement_35 : decode cX9_readStatement 35 = .ok (.ifCond .eq 10, 3) := by decide +kernel
theorem dX9_readStatement_38 : decode cX9_readStatement 38 = .ok (.aload_n 0, 1) := by decide +kernel
theorem dX9_readStatement_39 : decode cX9_readStatement 39 = .ok (.invokevirtual 118, 3) := by decide +kernel
theorem dX9_readStatement_42 : decode cX9_readStatement 42 = .ok (.goto 145, 3) := by decide +kernel
theorem dX9_readStatement_45 : decode cX9_readStatement 45 = .ok (.aload_n 0, 1) := by decide +kernel
theorem dX9_readStatement_46 : decode cX9_readStatement 46 = .ok (.bipush 6, 2) := by decide +kernel
theorem dX9_readStatement_48 : decode cX9_readStatement 48 = .ok (.invokevirtual 106, 3) := by decide +kernel
theorem dX9_readStatement_51 : decode cX9_readStatement 51 = .ok (.ifCond .eq 10, 3) := by decide +kernel
theorem dX9_readStatement_54 : decode cX9_readStatement 54 = .ok (.aload_n 0, 1) := by decide +kernel
theorem dX9_readStatement_55 : decode cX9_readStatement 55 = .ok (.invokevirtual 121, 3) := by decide +kernel
theorem dX9_readStatement_58 : decode cX9_readStatement 58 = .ok (.goto 129, 3) := by decide +kernel
theorem dX9_readStatement_61 : decode cX9_readStatement 61 = .ok (.aload_n 0, 1) := by decide +kernel
theorem dX9_readStatement_62 : decode cX9_readStatement 62 = .ok (.bipush 9, 2) := by decide +kernel
theorem dX9_readStatement_64 : decode cX9_readStatement 64 = .ok (.invokevirtual 106, 3) := by decide +kernel
theorem dX9_readStatement_67 : decode cX9_readStatement 67 = .ok (.ifCond .eq 24, 3) := by decide +kernel
theorem dX9_readStatement_70 : decode cX9_readStatement 70 = .ok (.aload_n 0, 1) := by decide +kernel
theorem dX9_readStatement_71 : decode cX9_readStatement 71 = .ok (.invokevirtual 64, 3) := by decide +kernel
theorem dX9_readStatement_74 : decode cX9_readStatement 74 = .ok (.aload_n 0, 1) := by decide +kernel
theorem dX9_readStatement_75 : decode cX9_readStatement 75 = .ok (.getfield 18, 3) := by decide +kernel
theorem dX9_readStatement_78 : decode cX9_readStatement 78 = .ok (.aload_n 0, 1) := by decide +kernel
theorem dX9_readStatement_79 : decode cX9_readStatement 79 = .ok (.iconst 0, 1) := by decide +kernel
theorem dX9_readStatement_80 : decode cX9_readStatement 80 = .ok (.bipush 100, 2) := by decide +kernel
theorem dX9_readStatement_82 : decode cX9_readStatement 82 = .ok (.invokevirtual 124, 3) := by decide +kernel
theorem dX9_readStatement_85 : decode cX9_readStatement 85 = .ok (.putfield 128, 3) := by decide +kernel
theorem dX9_readStatement_88 : decode cX9_readStatement 88 = .ok (.goto 99, 3) := by decide +kernel
theorem dX9_readStatement_91 : decode cX9_readStatement 91 = .ok (.aload_n 0, 1) := by decide +kernel
theorem dX9_readStatement_92 : decode cX9_readStatement 92 = .ok (.bipush 10, 2) := by decide +kernel
theorem dX9_readStatement_94 : decode cX9_readStatement 94 = .ok (.invokevirtual 106, 3) := by decide +kernel
theorem dX9_readStatement_97 : decode cX9_readStatement 97 = .ok (.ifCond .eq 17, 3) := by decide +kernel
theorem dX9_readStatement_100 : decode cX9_readStatement 100 = .ok (.aload_n 0, 1) := by decide +kernel
theorem dX9_readStatement_101 : decode cX9_readStatement 101 = .ok (.aload_n 0, 1) := by decide +kernel
theorem dX9_readStatement_102 : decode cX9_readStatement 102 = .ok (.getfield 18, 3) := by decide +kernel
theorem dX9_readStatement_105 : decode cX9_readStatement 105 = .ok (.getfield 22, 3) := by decide +kernel
theorem dX9_readStatement_108 : decode cX9_readStatement 108 = .ok (.invokevirtual 131, 3) := by decide +kernel
theorem dX9_readStatement_111 : decode cX9_readStatement 111 = .ok (.goto 76, 3) := by decide +kernel
theorem dX9_readStatement_114 : decode cX9_readStatement 114 = .ok (.aload_n 0, 1) := by decide +kernel
theorem dX9_readStatement_115 : decode cX9_readStatement 115 = .ok (.bipush 11, 2) := by decide +kernel
theorem dX9_readStatement_117 : decode cX9_readStatement 117 = .ok (.invokevirtual 106, 3) := by decide +kernel
theorem dX9_readStatement_120 : decode cX9_readStatement 120 = .ok (.ifCond .eq 17, 3) := by decide +kernel
theorem dX9_readStatement_123 : decode cX9_readStatement 123 = .ok (.aload_n 0, 1) := by decide +kernel
theorem dX9_readStatement_124 : decode cX9_readStatement 124 = .ok (.aload_n 0, 1) := by decide +kernel
theorem dX9_readStatement_125 : decode cX9_readStatement 125 = .ok (.getfield 18, 3) := by decide +kernel
theorem dX9_readStatement_128 : decode cX9_readStatement 128 = .ok (.getfield 135, 3) := by decide +kernel
theorem dX9_readStatement_131 : decode cX9_readStatement 131 = .ok (.invokevirtual 131, 3) := by decide +kernel
theorem dX9_readStatement_134 : decode cX9_readStatement 134 = .ok (.goto 53, 3) := by decide +kernel
theorem dX9_readStatement_137 : decode cX9_readStatement 137 = .ok (.aload_n 0, 1) := by decide +kernel
theorem dX9_readStatement_138 : decode cX9_readStatement 138 = .ok (.bipush 12, 2) := by decide +kernel
theorem dX9_readStatement_140 : decode cX9_readStatement 140 = .ok (.invokevirtual 106, 3) := by decide +kernel
theorem dX9_readStatement_143 : decode cX9_readStatement 143 = .ok (.ifCond .eq 17, 3) := by decide +kernel
theorem dX9_readStatement_146 : decode cX9_readStatement 146 = .ok (.aload_n 0, 1) := by decide +kernel
theorem dX9_readStatement_147 : decode cX9_readStatement 147 = .ok (.aload_n 0, 1) := by decide +kernel
theorem dX9_readStatement_148 : decode cX9_readStatement 148 = .ok (.getfield 18, 3) := by decide +kernel
theorem dX9_readStatement_151 : decode cX9_readStatement 151 = .ok (.getfield 138, 3) := by decide +kernel
theorem dX9_readStatement_154 : decode cX9_readStatement 154 = .ok (.invokevirtual 131, 3) := by decide +kernel
theorem dX9_readStatement_157 : decode cX9_readStatement 157 = .ok (.goto 30, 3) := by decide +kernel
theorem dX9_readStatement_160 : decode cX9_readStatement 160 = .ok (.aload_n 0, 1) := by decide +kernel
theorem dX9_readStatement_161 : decode cX9_readStatement 161 = .ok (.bipush 13, 2) := by decide +kernel
theorem dX9_readStatement_163 : decode cX9_readStatement 163 = .ok (.invokevirtual 106, 3) := by decide +kernel
theorem dX9_readStatement_166 : decode cX9_readStatement 166 = .ok (.ifCond .eq 17, 3) := by decide +kernel
theorem dX9_readStatement_169 : decode cX9_readStatement 169 = .ok (.aload_n 0, 1) := by decide +kernel
theorem dX9_readStatement_170 : decode cX9_readStatement 170 = .ok (.aload_n 0, 1) := by decide +kernel
theorem dX9_readStatement_171 : decode cX9_readStatement 171 = .ok (.getfield 18, 3) := by decide +kernel
theorem dX9_readStatement_174 : decode cX9_readStatement 174 = .ok (.getfield 141, 3) := by decide +kernel
theorem dX9_readStatement_177 : decode cX9_readStatement 177 = .ok (.invokevirtual 131, 3) := by decide +kernel
theorem dX9_readStatement_180 : decode cX9_readStatement 180 = .ok (.goto 7, 3) := by decide +kernel
theorem dX9_readStatement_183 : decode cX9_readStatement 183 = .ok (.aload_n 0, 1) := by decide +kernel
theorem dX9_readStatement_184 : decode cX9_readStatement 184 = .ok (.invokevirtual 109, 3) := by decide +kernel
theorem dX9_readStatement_187 : decode cX9_readStatement 187 = .ok (.return_, 1) := by decide +kernel
theorem dX9_readStream_0 : decode cX9_readStream 0 = .ok (.aload_n 0, 1) := by decide +kernel
theorem dX9_readStream_1 : decode cX9_readStream 1 = .ok (.iconst 0, 1) := by decide +kernel
theorem dX9_readStream_2 : decode cX9_readStream 2 = .ok (.invokevirtual 144, 3) := by decide +kernel
theorem dX9_readStream_5 : decode cX9_readStream 5 = .ok (.aload_n 0, 1) := by decide +kernel
theorem dX9_readStream_6 : decode cX9_readStream 6 = .ok (.getfield 18, 3) := by decide +kernel
theorem dX9_readStream_9 : decode cX9_readStream 9 = .ok (.aload_n 0, 1) := by decide +kernel
theorem dX9_readStream_10 : decode cX9_readStream 10 = .ok (.iconst 1, 1) := by decide +kernel
theorem dX9_readStream_11 : decode cX9_readStream 11 = .ok (.sipush 200, 3) := by decide +kernel
theorem dX9_readStream_14 : decode cX9_readStream 14 = .ok (.invokevirtual 124, 3) := by decide +kernel
theorem dX9_readStream_17 : decode cX9_readStream 17 = .ok (.putfield 147, 3) := by decide +kernel
theorem dX9_readStream_20 : decode cX9_readStream 20 = .ok (.aload_n 0, 1) := by decide +kernel
theorem dX9_readStream_21 : decode cX9_readStream 21 = .ok (.iconst 1, 1) := by decide +kernel
theorem dX9_readStream_22 : decode cX9_readStream 22 = .ok (.invokevirtual 144, 3) := by decide +kernel
theorem dX9_readStream_25 : decode cX9_readStream 25 = .ok (.aload_n 0, 1) := by decide +kernel
theorem dX9_readStream_26 : decode cX9_readStream 26 = .ok (.getfield 18, 3) := by decide +kernel
theorem dX9_readStream_29 : decode cX9_readStream 29 = .ok (.aload_n 0, 1) := by decide +kernel
theorem dX9_readStream_30 : decode cX9_readStream 30 = .ok (.iconst 1, 1) := by decide +kernel
theorem dX9_readStream_31 : decode cX9_readStream 31 = .ok (.bipush 20, 2) := by decide +kernel
theorem dX9_readStream_33 : decode cX9_readStream 33 = .ok (.invokevirtual 124, 3) := by decide +kernel
theorem dX9_readStream_36 : decode cX9_readStream 36 = .ok (.putfield 148, 3) := by decide +kernel
theorem dX9_readStream_39 : decode cX9_readStream 39 = .ok (.aload_n 0, 1) := by decide +kernel
theorem dX9_readStream_40 : decode cX9_readStream 40 = .ok (.iconst 2, 1) := by decide +kernel
theorem dX9_readStream_41 : decode cX9_readStream 41 = .ok (.invokevirtual 144, 3) := by decide +kernel
theorem dX9_readStream_44 : decode cX9_readStream 44 = .ok (.aload_n 0, 1) := by decide +kernel
theorem dX9_readStream_45 : decode cX9_readStream 45 = .ok (.getfield 18, 3) := by decide +kernel
theorem dX9_readStream_48 : decode cX9_readStream 48 = .ok (.aload_n 0, 1) := by decide +kernel
theorem dX9_readStream_49 : decode cX9_readStream 49 = .ok (.bipush 10, 2) := by decide +kernel
theorem dX9_readStream_51 : decode cX9_readStream 51 = .ok (.bipush 99, 2) := by decide +kernel
theorem dX9_readStream_53 : decode cX9_readStream 53 = .ok (.invokevirtual 124, 3) := by decide +kernel
theorem dX9_readStream_56 : decode cX9_readStream 56 = .ok (.putfield 151, 3) := by decide +kernel
theorem dX9_readStream_59 : decode cX9_readStream 59 = .ok (.aload_n 0, 1) := by decide +kernel
theorem dX9_readStream_60 : decode cX9_readStream 60 = .ok (.iconst 3, 1) := by decide +kernel
theorem dX9_readStream_61 : decode cX9_readStream 61 = .ok (.invokevirtual 144, 3) := by decide +kernel
theorem dX9_readStream_64 : decode cX9_readStream 64 = .ok (.aload_n 0, 1) := by decide +kernel
theorem dX9_readStream_65 : decode cX9_readStream 65 = .ok (.getfield 18, 3) := by decide +kernel
theorem dX9_readStream_68 : decode cX9_readStream 68 = .ok (.aload_n 0, 1) := by decide +kernel
theorem dX9_readStream_69 : decode cX9_readStream 69 = .ok (.iconst 0, 1) := by decide +kernel
theorem dX9_readStream_70 : decode cX9_readStream 70 = .ok (.sipush 999, 3) := by decide +kernel
theorem dX9_readStream_73 : decode cX9_readStream 73 = .ok (.invokevirtual 124, 3) := by decide +kernel
theorem dX9_readStream_76 : decode cX9_readStream 76 = .ok (.putfield 154, 3) := by decide +kernel
theorem dX9_readStream_79 : decode cX9_readStream 79 = .ok (.return_, 1) := by decide +kernel
theorem dX9_readPath_0 : decode cX9_readPath 0 = .ok (.aload_n 0, 1) := by decide +kernel
theorem dX9_readPath_1 : decode cX9_readPath 1 = .ok (.getfield 18, 3) := by decide +kernel
theorem dX9_readPath_4 : decode cX9_readPath 4 = .ok (.getfield 157, 3) := by decide +kernel
theorem dX9_readPath_7 : decode cX9_readPath 7 = .ok (.iconst 4, 1) := by decide +kernel
theorem dX9_readPath_8 : decode cX9_readPath 8 = .ok (.if_icmp .lt 14, 3) := by decide +kernel
theorem dX9_readPath_11 : decode cX9_readPath 11 = .ok (.aload_n 0, 1) := by decide +kernel
theorem dX9_readPath_12 : decode cX9_readPath 12 = .ok (.bipush 6, 2) := by decide +kernel
theorem dX9_readPath_14 : decode cX9_readPath 14 = .ok (.aload_n 0, 1) := by decide +kernel
theorem dX9_readPath_15 : decode cX9_readPath 15 = .ok (.getfield 80, 3) := by decide +kernel
theorem dX9_readPath_18 : decode cX9_readPath 18 = .ok (.invokevirtual 83, 3) := by decide +kernel
theorem dX9_readPath_21 : decode cX9_readPath 21 = .ok (.return_, 1) := by decide +kernel
theorem dX9_readPath_22 : decode cX9_readPath 22 = .ok (.aload_n 0, 1) := by decide +kernel
theorem dX9_readPath_23 : decode cX9_readPath 23 = .ok (.invokevirtual 64, 3) := by decide +kernel
theorem dX9_readPath_26 : decode cX9_readPath 26 = .ok (.aload_n 0, 1) := by decide +kernel
theorem dX9_readPath_27 : decode cX9_readPath 27 = .ok (.getfield 100, 3) := by decide +kernel
theorem dX9_readPath_30 : decode cX9_readPath 30 = .ok (.istore_n 1, 1) := by decide +kernel
theorem dX9_readPath_31 : decode cX9_readPath 31 = .ok (.aload_n 0, 1) := by decide +kernel
theorem dX9_readPath_32 : decode cX9_readPath 32 = .ok (.getfield 80, 3) := by decide +kernel
theorem dX9_readPath_35 : decode cX9_readPath 35 = .ok (.istore_n 2, 1) := by decide +kernel
theorem dX9_readPath_36 : decode cX9_readPath 36 = .ok (.aload_n 0, 1) := by decide +kernel
theorem dX9_readPath_37 : decode cX9_readPath 37 = .ok (.invokevirtual 160, 3) := by decide +kernel
theorem dX9_readPath_40 : decode cX9_readPath 40 = .ok (.aload_n 0, 1) := by decide +kernel
theorem dX9_readPath_41 : decode cX9_readPath 41 = .ok (.getfield 18, 3) := by decide +kernel
theorem dX9_readPath_44 : decode cX9_readPath 44 = .ok (.iload_n 1, 1) := by decide +kernel
theorem dX9_readPath_45 : decode cX9_readPath 45 = .ok (.invokevirtual 163, 3) := by decide +kernel
theorem dX9_readPath_48 : decode cX9_readPath 48 = .ok (.iconst (-1), 1) := by decide +kernel
theorem dX9_readPath_49 : decode cX9_readPath 49 = .ok (.if_icmp .eq 9, 3) := by decide +kernel
theorem dX9_readPath_52 : decode cX9_readPath 52 = .ok (.aload_n 0, 1) := by decide +kernel
theorem dX9_readPath_53 : decode cX9_readPath 53 = .ok (.iconst 2, 1) := by decide +kernel
theorem dX9_readPath_54 : decode cX9_readPath 54 = .ok (.iload_n 2, 1) := by decide +kernel
theorem dX9_readPath_55 : decode cX9_readPath 55 = .ok (.invokevirtual 83, 3) := by decide +kernel
theorem dX9_readPath_58 : decode cX9_readPath 58 = .ok (.aload_n 0, 1) := by decide +kernel
theorem dX9_readPath_59 : decode cX9_readPath 59 = .ok (.iconst 5, 1) := by decide +kernel
theorem dX9_readPath_60 : decode cX9_readPath 60 = .ok (.invokevirtual 144, 3) := by decide +kernel
theorem dX9_readPath_63 : decode cX9_readPath 63 = .ok (.aload_n 0, 1) := by decide +kernel
theorem dX9_readPath_64 : decode cX9_readPath 64 = .ok (.getfield 18, 3) := by decide +kernel
theorem dX9_readPath_67 : decode cX9_readPath 67 = .ok (.getfield 167, 3) := by decide +kernel
theorem dX9_readPath_70 : decode cX9_readPath 70 = .ok (.aload_n 0, 1) := by decide +kernel
theorem dX9_readPath_71 : decode cX9_readPath 71 = .ok (.getfield 18, 3) := by decide +kernel
theorem dX9_readPath_74 : decode cX9_readPath 74 = .ok (.getfield 157, 3) := by decide +kernel
theorem dX9_readPath_77 : decode cX9_readPath 77 = .ok (.iload_n 1, 1) := by decide +kernel
theorem dX9_readPath_78 : decode cX9_readPath 78 = .ok (.iastore, 1) := by decide +kernel
theorem dX9_readPath_79 : decode cX9_readPath 79 = .ok (.aload_n 0, 1) := by decide +kernel
theorem dX9_readPath_80 : decode cX9_readPath 80 = .ok (.getfield 18, 3) := by decide +kernel
theorem dX9_readPath_83 : decode cX9_readPath 83 = .ok (.getfield 170, 3) := by decide +kernel
theorem dX9_readPath_86 : decode cX9_readPath 86 = .ok (.aload_n 0, 1) := by decide +kernel
theorem dX9_readPath_87 : decode cX9_readPath 87 = .ok (.getfield 18, 3) := by decide +kernel
theorem dX9_readPath_90 : decode cX9_readPath 90 = .ok (.getfield 157, 3) := by decide +kernel
theorem dX9_readPath_93 : decode cX9_readPath 93 = .ok (.aload_n 0, 1) := by decide +kernel
theorem dX9_readPath_94 : decode cX9_readPath 94 = .ok (.iconst 1, 1) := by decide +kernel
theorem dX9_readPath_95 : decode cX9_readPath 95 = .ok (.bipush 9, 2) := by decide +kernel
theorem dX9_readPath_97 : decode cX9_readPath 97 = .ok (.invokevirtual 124, 3) := by decide +kernel
theorem dX9_readPath_100 : decode cX9_readPath 100 = .ok (.iastore, 1) := by decide +kernel
theorem dX9_readPath_101 : decode cX9_readPath 101 = .ok (.aload_n 0, 1) := by decide +kernel
theorem dX9_readPath_102 : decode cX9_readPath 102 = .ok (.getfield 18, 3) := by decide +kernel
theorem dX9_readPath_105 : decode cX9_readPath 105 = .ok (.dup, 1) := by decide +kernel
theorem dX9_readPath_106 : decode cX9_readPath 106 = .ok (.getfield 157, 3) := by decide +kernel
theorem dX9_readPath_109 : decode cX9_readPath 109 = .ok (.iconst 1, 1) := by decide +kernel
theorem dX9_readPath_110 : decode cX9_readPath 110 = .ok (.iadd, 1) := by decide +kernel
theorem dX9_readPath_111 : decode cX9_readPath 111 = .ok (.putfield 157, 3) := by decide +kernel
theorem dX9_readPath_114 : decode cX9_readPath 114 = .ok (.return_, 1) := by decide +kernel
theorem dX9_expectName_0 : decode cX9_expectName 0 = .ok (.aload_n 0, 1) := by decide +kernel
theorem dX9_expectName_1 : decode cX9_expectName 1 = .ok (.iconst (-1), 1) := by decide +kernel
theorem dX9_expectName_2 : decode cX9_expectName 2 = .ok (.invokevirtual 106, 3) := by decide +kernel
theorem dX9_expectName_5 : decode cX9_expectName 5 = .ok (.ifCond .eq 10, 3) := by decide +kernel
theorem dX9_expectName_8 : decode cX9_expectName 8 = .ok (.aload_n 0, 1) := by decide +kernel
theorem dX9_expectName_9 : decode cX9_expectName 9 = .ok (.invokevirtual 64, 3) := by decide +kernel
theorem dX9_expectName_12 : decode cX9_expectName 12 = .ok (.goto 7, 3) := by decide +kernel
theorem dX9_expectName_15 : decode cX9_expectName 15 = .ok (.aload_n 0, 1) := by decide +kernel
theorem dX9_expectName_16 : decode cX9_expectName 16 = .ok (.invokevirtual 109, 3) := by decide +kernel
theorem dX9_expectName_19 : decode cX9_expectName 19 = .ok (.return_, 1) := by decide +kernel
theorem dX9_readJoin_0 : decode cX9_readJoin 0 = .ok (.aload_n 0, 1) := by decide +kernel
theorem dX9_readJoin_1 : decode cX9_readJoin 1 = .ok (.invokevirtual 64, 3) := by decide +kernel
theorem dX9_readJoin_4 : decode cX9_readJoin 4 = .ok (.aload_n 0, 1) := by decide +kernel
theorem dX9_readJoin_5 : decode cX9_readJoin 5 = .ok (.getfield 18, 3) := by decide +kernel
theorem dX9_readJoin_8 : decode cX9_readJoin 8 = .ok (.aload_n 0, 1) := by decide +kernel
theorem dX9_readJoin_9 : decode cX9_readJoin 9 = .ok (.getfield 100, 3) := by decide +kernel
theorem dX9_readJoin_12 : decode cX9_readJoin 12 = .ok (.invokevirtual 163, 3) := by decide +kernel
theorem dX9_readJoin_15 : decode cX9_readJoin 15 = .ok (.istore_n 1, 1) := by decide +kernel
theorem dX9_readJoin_16 : decode cX9_readJoin 16 = .ok (.aload_n 0, 1) := by decide +kernel
theorem dX9_readJoin_17 : decode cX9_readJoin 17 = .ok (.getfield 80, 3) := by decide +kernel
theorem dX9_readJoin_20 : decode cX9_readJoin 20 = .ok (.istore_n 2, 1) := by decide +kernel
theorem dX9_readJoin_21 : decode cX9_readJoin 21 = .ok (.aload_n 0, 1) := by decide +kernel
theorem dX9_readJoin_22 : decode cX9_readJoin 22 = .ok (.invokevirtual 160, 3) := by decide +kernel
theorem dX9_readJoin_25 : decode cX9_readJoin 25 = .ok (.iload_n 1, 1) := by decide +kernel
theorem dX9_readJoin_26 : decode cX9_readJoin 26 = .ok (.ifCond .le 16, 3) := by decide +kernel
theorem dX9_readJoin_29 : decode cX9_readJoin 29 = .ok (.aload_n 0, 1) := by decide +kernel
theorem dX9_readJoin_30 : decode cX9_readJoin 30 = .ok (.getfield 18, 3) := by decide +kernel
theorem dX9_readJoin_33 : decode cX9_readJoin 33 = .ok (.getfield 173, 3) := by decide +kernel
theorem dX9_readJoin_36 : decode cX9_readJoin 36 = .ok (.iload_n 1, 1) := by decide +kernel
theorem dX9_readJoin_37 : decode cX9_readJoin 37 = .ok (.iaload, 1) := by decide +kernel
theorem dX9_readJoin_38 : decode cX9_readJoin 38 = .ok (.iconst (-1), 1) := by decide +kernel
theorem dX9_readJoin_39 : decode cX9_readJoin 39 = .ok (.if_icmp .eq 10, 3) := by decide +kernel
theorem dX9_readJoin_42 : decode cX9_readJoin 42 = .ok (.aload_n 0, 1) := by decide +kernel
theorem dX9_readJoin_43 : decode cX9_readJoin 43 = .ok (.iconst 3, 1) := by decide +kernel
theorem dX9_readJoin_44 : decode cX9_readJoin 44 = .ok (.iload_n 2, 1) := by decide +kernel
theorem dX9_readJoin_45 : decode cX9_readJoin 45 = .ok (.invokevirtual 83, 3) := by decide +kernel
theorem dX9_readJoin_48 : decode cX9_readJoin 48 = .ok (.return_, 1) := by decide +kernel
theorem dX9_readJoin_49 : decode cX9_readJoin 49 = .ok (.aload_n 0, 1) := by decide +kernel
theorem dX9_readJoin_50 : decode cX9_readJoin 50 = .ok (.bipush 7, 2) := by decide +kernel
theorem dX9_readJoin_52 : decode cX9_readJoin 52 = .ok (.invokevirtual 144, 3) := by decide +kernel
theorem dX9_readJoin_55 : decode cX9_readJoin 55 = .ok (.aload_n 0, 1) := by decide +kernel
theorem dX9_readJoin_56 : decode cX9_readJoin 56 = .ok (.getfield 18, 3) := by decide +kernel
theorem dX9_readJoin_59 : decode cX9_readJoin 59 = .ok (.getfield 173, 3) := by decide +kernel
theorem dX9_readJoin_62 : decode cX9_readJoin 62 = .ok (.iload_n 1, 1) := by decide +kernel
theorem dX9_readJoin_63 : decode cX9_readJoin 63 = .ok (.aload_n 0, 1) := by decide +kernel
theorem dX9_readJoin_64 : decode cX9_readJoin 64 = .ok (.iconst 0, 1) := by decide +kernel
theorem dX9_readJoin_65 : decode cX9_readJoin 65 = .ok (.bipush 99, 2) := by decide +kernel
theorem dX9_readJoin_67 : decode cX9_readJoin 67 = .ok (.invokevirtual 124, 3) := by decide +kernel
theorem dX9_readJoin_70 : decode cX9_readJoin 70 = .ok (.iastore, 1) := by decide +kernel
theorem dX9_readJoin_71 : decode cX9_readJoin 71 = .ok (.aload_n 0, 1) := by decide +kernel
theorem dX9_readJoin_72 : decode cX9_readJoin 72 = .ok (.bipush 8, 2) := by decide +kernel
theorem dX9_readJoin_74 : decode cX9_readJoin 74 = .ok (.invokevirtual 144, 3) := by decide +kernel
theorem dX9_readJoin_77 : decode cX9_readJoin 77 = .ok (.aload_n 0, 1) := by decide +kernel
theorem dX9_readJoin_78 : decode cX9_readJoin 78 = .ok (.getfield 18, 3) := by decide +kernel
theorem dX9_readJoin_81 : decode cX9_readJoin 81 = .ok (.getfield 176, 3) := by decide +kernel
theorem dX9_readJoin_84 : decode cX9_readJoin 84 = .ok (.iload_n 1, 1) := by decide +kernel
theorem dX9_readJoin_85 : decode cX9_readJoin 85 = .ok (.aload_n 0, 1) := by decide +kernel
theorem dX9_readJoin_86 : decode cX9_readJoin 86 = .ok (.iconst 0, 1) := by decide +kernel
theorem dX9_readJoin_87 : decode cX9_readJoin 87 = .ok (.sipush 999, 3) := by decide +kernel
theorem dX9_readJoin_90 : decode cX9_readJoin 90 = .ok (.invokevirtual 124, 3) := by decide +kernel
theorem dX9_readJoin_93 : decode cX9_readJoin 93 = .ok (.iastore, 1) := by decide +kernel
theorem dX9_readJoin_94 : decode cX9_readJoin 94 = .ok (.return_, 1) := by decide +kernel
theorem dX9_readFormula_0 : decode cX9_readFormula 0 = .ok (.aload_n 1, 1) := by decide +kernel
theorem dX9_readFormula_1 : decode cX9_readFormula 1 = .ok (.invokevirtual 179, 3) := by decide +kernel
theorem dX9_readFormula_4 : decode cX9_readFormula 4 = .ok (.ifCond .eq 14, 3) := by decide +kernel
theorem dX9_readFormula_7 : decode cX9_readFormula 7 = .ok (.aload_n 0, 1) := by decide +kernel
theorem dX9_readFormula_8 : decode cX9_readFormula 8 = .ok (.bipush 6, 2) := by decide +kernel
theorem dX9_readFormula_10 : decode cX9_readFormula 10 = .ok (.aload_n 0, 1) := by decide +kernel
theorem dX9_readFormula_11 : decode cX9_readFormula 11 = .ok (.getfield 80, 3) := by decide +kernel
theorem dX9_readFormula_14 : decode cX9_readFormula 14 = .ok (.invokevirtual 83, 3) := by decide +kernel
theorem dX9_readFormula_17 : decode cX9_readFormula 17 = .ok (.return_, 1) := by decide +kernel
theorem dX9_readFormula_18 : decode cX9_readFormula 18 = .ok (.aload_n 0, 1) := by decide +kernel
theorem dX9_readFormula_19 : decode cX9_readFormula 19 = .ok (.aload_n 1, 1) := by decide +kernel
theorem dX9_readFormula_20 : decode cX9_readFormula 20 = .ok (.putfield 28, 3) := by decide +kernel
theorem dX9_readFormula_23 : decode cX9_readFormula 23 = .ok (.aload_n 0, 1) := by decide +kernel
theorem dX9_readFormula_24 : decode cX9_readFormula 24 = .ok (.aload_n 0, 1) := by decide +kernel
theorem dX9_readFormula_25 : decode cX9_readFormula 25 = .ok (.getfield 103, 3) := by decide +kernel
theorem dX9_readFormula_28 : decode cX9_readFormula 28 = .ok (.putfield 185, 3) := by decide +kernel
theorem dX9_readFormula_31 : decode cX9_readFormula 31 = .ok (.aload_n 0, 1) := by decide +kernel
theorem dX9_readFormula_32 : decode cX9_readFormula 32 = .ok (.invokevirtual 64, 3) := by decide +kernel
theorem dX9_readFormula_35 : decode cX9_readFormula 35 = .ok (.aload_n 0, 1) := by decide +kernel
theorem dX9_readFormula_36 : decode cX9_readFormula 36 = .ok (.getfield 185, 3) := by decide +kernel
theorem dX9_readFormula_39 : decode cX9_readFormula 39 = .ok (.bipush 10, 2) := by decide +kernel
theorem dX9_readFormula_41 : decode cX9_readFormula 41 = .ok (.if_icmp .ne 10, 3) := by decide +kernel
theorem dX9_readFormula_44 : decode cX9_readFormula 44 = .ok (.aload_n 0, 1) := by decide +kernel
theorem dX9_readFormula_45 : decode cX9_readFormula 45 = .ok (.invokevirtual 188, 3) := by decide +kernel
theorem dX9_readFormula_48 : decode cX9_readFormula 48 = .ok (.goto 7, 3) := by decide +kernel
theorem dX9_readFormula_51 : decode cX9_readFormula 51 = .ok (.aload_n 0, 1) := by decide +kernel
theorem dX9_readFormula_52 : decode cX9_readFormula 52 = .ok (.invokevirtual 191, 3) := by decide +kernel
theorem dX9_readFormula_55 : decode cX9_readFormula 55 = .ok (.return_, 1) := by decide +kernel
theorem dX9_openSign_0 : decode cX9_openSign 0 = .ok (.aload_n 0, 1) := by decide +kernel
theorem dX9_openSign_1 : decode cX9_openSign 1 = .ok (.getfield 49, 3) := by decide +kernel
theorem dX9_openSign_4 : decode cX9_openSign 4 = .ok (.bipush 7, 2) := by decide +kernel
theorem dX9_openSign_6 : decode cX9_openSign 6 = .ok (.if_icmp .lt 15, 3) := by decide +kernel
theorem dX9_openSign_9 : decode cX9_openSign 9 = .ok (.aload_n 0, 1) := by decide +kernel
theorem dX9_openSign_10 : decode cX9_openSign 10 = .ok (.iconst 5, 1) := by decide +kernel
theorem dX9_openSign_11 : decode cX9_openSign 11 = .ok (.aload_n 0, 1) := by decide +kernel
theorem dX9_openSign_12 : decode cX9_openSign 12 = .ok (.getfield 80, 3) := by decide +kernel
theorem dX9_openSign_15 : decode cX9_openSign 15 = .ok (.invokevirtual 83, 3) := by decide +kernel
theorem dX9_openSign_18 : decode cX9_openSign 18 = .ok (.goto 17, 3) := by decide +kernel
theorem dX9_openSign_21 : decode cX9_openSign 21 = .ok (.aload_n 0, 1) := by decide +kernel
theorem dX9_openSign_22 : decode cX9_openSign 22 = .ok (.dup, 1) := by decide +kernel
theorem dX9_openSign_23 : decode cX9_openSign 23 = .ok (.getfield 49, 3) := by decide +kernel
theorem dX9_openSign_26 : decode cX9_openSign 26 = .ok (.iconst 1, 1) := by decide +kernel
theorem dX9_openSign_27 : decode cX9_openSign 27 = .ok (.iadd, 1) := by decide +kernel
theorem dX9_openSign_28 : decode cX9_openSign 28 = .ok (.putfield 49, 3) := by decide +kernel
theorem dX9_openSign_31 : decode cX9_openSign 31 = .ok (.aload_n 0, 1) := by decide +kernel
theorem dX9_openSign_32 : decode cX9_openSign 32 = .ok (.invokevirtual 64, 3) := by decide +kernel
theorem dX9_openSign_35 : decode cX9_openSign 35 = .ok (.return_, 1) := by decide +kernel
theorem dX9_readTest_0 : decode cX9_readTest 0 = .ok (.aload_n 0, 1) := by decide +kernel
theorem dX9_readTest_1 : decode cX9_readTest 1 = .ok (.invokevirtual 194, 3) := by decide +kernel
theorem dX9_readTest_4 : decode cX9_readTest 4 = .ok (.iconst 0, 1) := by decide +kernel
theorem dX9_readTest_5 : decode cX9_readTest 5 = .ok (.istore_n 1, 1) := by decide +kernel
theorem dX9_readTest_6 : decode cX9_readTest 6 = .ok (.iload_n 1, 1) := by decide +kernel
theorem dX9_readTest_7 : decode cX9_readTest 7 = .ok (.sipush 1600, 3) := by decide +kernel
theorem dX9_readTest_10 : decode cX9_readTest 10 = .ok (.if_icmp .ge 36, 3) := by decide +kernel
theorem dX9_readTest_13 : decode cX9_readTest 13 = .ok (.aload_n 0, 1) := by decide +kernel
theorem dX9_readTest_14 : decode cX9_readTest 14 = .ok (.bipush 23, 2) := by decide +kernel
theorem dX9_readTest_16 : decode cX9_readTest 16 = .ok (.invokevirtual 106, 3) := by decide +kernel
theorem dX9_readTest_19 : decode cX9_readTest 19 = .ok (.ifCond .eq 27, 3) := by decide +kernel
theorem dX9_readTest_22 : decode cX9_readTest 22 = .ok (.aload_n 0, 1) := by decide +kernel
theorem dX9_readTest_23 : decode cX9_readTest 23 = .ok (.invokevirtual 64, 3) := by decide +kernel
theorem dX9_readTest_26 : decode cX9_readTest 26 = .ok (.aload_n 0, 1) := by decide +kernel
theorem dX9_readTest_27 : decode cX9_readTest 27 = .ok (.invokevirtual 194, 3) := by decide +kernel
theorem dX9_readTest_30 : decode cX9_readTest 30 = .ok (.aload_n 0, 1) := by decide +kernel
theorem dX9_readTest_31 : decode cX9_readTest 31 = .ok (.getfield 28, 3) := by decide +kernel
theorem dX9_readTest_34 : decode cX9_readTest 34 = .ok (.bipush 15, 2) := by decide +kernel
theorem dX9_readTest_36 : decode cX9_readTest 36 = .ok (.iconst 0, 1) := by decide +kernel
theorem dX9_readTest_37 : decode cX9_readTest 37 = .ok (.invokevirtual 197, 3) := by decide +kernel
theorem dX9_readTest_40 : decode cX9_readTest 40 = .ok (.iinc 1 1, 3) := by decide +kernel
theorem dX9_readTest_43 : decode cX9_readTest 43 = .ok (.goto (-37), 3) := by decide +kernel
theorem dX9_readTest_46 : decode cX9_readTest 46 = .ok (.return_, 1) := by decide +kernel
theorem dX9_readBoth_0 : decode cX9_readBoth 0 = .ok (.aload_n 0, 1) := by decide +kernel
theorem dX9_readBoth_1 : decode cX9_readBoth 1 = .ok (.invokevirtual 200, 3) := by decide +kernel
theorem dX9_readBoth_4 : decode cX9_readBoth 4 = .ok (.iconst 0, 1) := by decide +kernel
theorem dX9_readBoth_5 : decode cX9_readBoth 5 = .ok (.istore_n 1, 1) := by decide +kernel
theorem dX9_readBoth_6 : decode cX9_readBoth 6 = .ok (.iload_n 1, 1) := by decide +kernel
theorem dX9_readBoth_7 : decode cX9_readBoth 7 = .ok (.sipush 1600, 3) := by decide +kernel
theorem dX9_readBoth_10 : decode cX9_readBoth 10 = .ok (.if_icmp .ge 36, 3) := by decide +kernel
theorem dX9_readBoth_13 : decode cX9_readBoth 13 = .ok (.aload_n 0, 1) := by decide +kernel
theorem dX9_readBoth_14 : decode cX9_readBoth 14 = .ok (.bipush 24, 2) := by decide +kernel
theorem dX9_readBoth_16 : decode cX9_readBoth 16 = .ok (.invokevirtual 106, 3) := by decide +kernel
theorem dX9_readBoth_19 : decode cX9_readBoth 19 = .ok (.ifCond .eq 27, 3) := by decide +kernel
theorem dX9_readBoth_22 : decode cX9_readBoth 22 = .ok (.aload_n 0, 1) := by decide +kernel
theorem dX9_readBoth_23 : decode cX9_readBoth 23 = .ok (.invokevirtual 64, 3) := by decide +kernel
theorem dX9_readBoth_26 : decode cX9_readBoth 26 = .ok (.aload_n 0, 1) := by decide +kernel
theorem dX9_readBoth_27 : decode cX9_readBoth 27 = .ok (.invokevirtual 200, 3) := by decide +kernel
theorem dX9_readBoth_30 : decode cX9_readBoth 30 = .ok (.aload_n 0, 1) := by decide +kernel
theorem dX9_readBoth_31 : decode cX9_readBoth 31 = .ok (.getfield 28, 3) := by decide +kernel
theorem dX9_readBoth_34 : decode cX9_readBoth 34 = .ok (.bipush 14, 2) := by decide +kernel
theorem dX9_readBoth_36 : decode cX9_readBoth 36 = .ok (.iconst 0, 1) := by decide +kernel
theorem dX9_readBoth_37 : decode cX9_readBoth 37 = .ok (.invokevirtual 197, 3) := by decide +kernel
theorem dX9_readBoth_40 : decode cX9_readBoth 40 = .ok (.iinc 1 1, 3) := by decide +kernel
theorem dX9_readBoth_43 : decode cX9_readBoth 43 = .ok (.goto (-37), 3) := by decide +kernel
theorem dX9_readBoth_46 : decode cX9_readBoth 46 = .ok (.return_, 1) := by decide +kernel
theorem dX9_readFact_0 : decode cX9_readFact 0 = .ok (.aload_n 0, 1) := by decide +kernel
theorem dX9_readFact_1 : decode cX9_readFact 1 = .ok (.bipush 25, 2) := by decide +kernel
theorem dX9_readFact_3 : decode cX9_readFact 3 = .ok (.invokevirtual 106, 3) := by decide +kernel
theorem dX9_readFact_6 : decode cX9_readFact 6 = .ok (.ifCond .eq 33, 3) := by decide +kernel
theorem dX9_readFact_9 : decode cX9_readFact 9 = .ok (.aload_n 0, 1) := by decide +kernel
theorem dX9_readFact_10 : decode cX9_readFact 10 = .ok (.invokevirtual 203, 3) := by decide +kernel
theorem dX9_readFact_13 : decode cX9_readFact 13 = .ok (.aload_n 0, 1) := by decide +kernel
theorem dX9_readFact_14 : decode cX9_readFact 14 = .ok (.invokevirtual 200, 3) := by decide +kernel
theorem dX9_readFact_17 : decode cX9_readFact 17 = .ok (.aload_n 0, 1) := by decide +kernel
theorem dX9_readFact_18 : decode cX9_readFact 18 = .ok (.dup, 1) := by decide +kernel
theorem dX9_readFact_19 : decode cX9_readFact 19 = .ok (.getfield 49, 3) := by decide +kernel
theorem dX9_readFact_22 : decode cX9_readFact 22 = .ok (.iconst 1, 1) := by decide +kernel
theorem dX9_readFact_23 : decode cX9_readFact 23 = .ok (.isub, 1) := by decide +kernel
theorem dX9_readFact_24 : decode cX9_readFact 24 = .ok (.putfield 49, 3) := by decide +kernel
theorem dX9_readFact_27 : decode cX9_readFact 27 = .ok (.aload_n 0, 1) := by decide +kernel
theorem dX9_readFact_28 : decode cX9_readFact 28 = .ok (.getfield 28, 3) := by decide +kernel
theorem dX9_readFact_31 : decode cX9_readFact 31 = .ok (.iconst 2, 1) := by decide +kernel
theorem dX9_readFact_32 : decode cX9_readFact 32 = .ok (.iconst 0, 1) := by decide +kernel
theorem dX9_readFact_33 : decode cX9_readFact 33 = .ok (.invokevirtual 197, 3) := by decide +kernel
theorem dX9_readFact_36 : decode cX9_readFact 36 = .ok (.goto 131, 3) := by decide +kernel
theorem dX9_readFact_39 : decode cX9_readFact 39 = .ok (.aload_n 0, 1) := by decide +kernel
theorem dX9_readFact_40 : decode cX9_readFact 40 = .ok (.bipush 91, 2) := by decide +kernel
theorem dX9_readFact_42 : decode cX9_readFact 42 = .ok (.invokevirtual 112, 3) := by decide +kernel
theorem dX9_readFact_45 : decode cX9_readFact 45 = .ok (.ifCond .eq 30, 3) := by decide +kernel
theorem dX9_readFact_48 : decode cX9_readFact 48 = .ok (.aload_n 0, 1) := by decide +kernel
theorem dX9_readFact_49 : decode cX9_readFact 49 = .ok (.invokevirtual 203, 3) := by decide +kernel
theorem dX9_readFact_52 : decode cX9_readFact 52 = .ok (.aload_n 0, 1) := by decide +kernel
theorem dX9_readFact_53 : decode cX9_readFact 53 = .ok (.invokevirtual 188, 3) := by decide +kernel
theorem dX9_readFact_56 : decode cX9_readFact 56 = .ok (.aload_n 0, 1) := by decide +kernel
theorem dX9_readFact_57 : decode cX9_readFact 57 = .ok (.bipush 93, 2) := by decide +kernel
theorem dX9_readFact_59 : decode cX9_readFact 59 = .ok (.invokevirtual 71, 3) := by decide +kernel
theorem dX9_readFact_62 : decode cX9_readFact 62 = .ok (.aload_n 0, 1) := by decide +kernel
theorem dX9_readFact_63 : decode cX9_readFact 63 = .ok (.dup, 1) := by decide +kernel
theorem dX9_readFact_64 : decode cX9_readFact 64 = .ok (.getfield 49, 3) := by decide +kernel
theorem dX9_readFact_67 : decode cX9_readFact 67 = .ok (.iconst 1, 1) := by decide +kernel
theorem dX9_readFact_68 : decode cX9_readFact 68 = .ok (.isub, 1) := by decide +kernel
theorem dX9_readFact_69 : decode cX9_readFact 69 = .ok (.putfield 49, 3) := by decide +kernel
theorem dX9_readFact_72 : decode cX9_readFact 72 = .ok (.goto 95, 3) := by decide +kernel
theorem dX9_readFact_75 : decode cX9_readFact 75 = .ok (.aload_n 0, 1) := by decide +kernel
theorem dX9_readFact_76 : decode cX9_readFact 76 = .ok (.bipush 26, 2) := by decide +kernel
theorem dX9_readFact_78 : decode cX9_readFact 78 = .ok (.invokevirtual 106, 3) := by decide +kernel
theorem dX9_readFact_81 : decode cX9_readFact 81 = .ok (.ifCond .eq 19, 3) := by decide +kernel
theorem dX9_readFact_84 : decode cX9_readFact 84 = .ok (.aload_n 0, 1) := by decide +kernel
theorem dX9_readFact_85 : decode cX9_readFact 85 = .ok (.invokevirtual 64, 3) := by decide +kernel
theorem dX9_readFact_88 : decode cX9_readFact 88 = .ok (.aload_n 0, 1) := by decide +kernel
theorem dX9_readFact_89 : decode cX9_readFact 89 = .ok (.getfield 28, 3) := by decide +kernel
theorem dX9_readFact_92 : decode cX9_readFact 92 = .ok (.iconst 0, 1) := by decide +kernel
theorem dX9_readFact_93 : decode cX9_readFact 93 = .ok (.iconst 1, 1) := by decide +kernel
theorem dX9_readFact_94 : decode cX9_readFact 94 = .ok (.invokevirtual 197, 3) := by decide +kernel
theorem dX9_readFact_97 : decode cX9_readFact 97 = .ok (.goto 70, 3) := by decide +kernel
theorem dX9_readFact_100 : decode cX9_readFact 100 = .ok (.aload_n 0, 1) := by decide +kernel
theorem dX9_readFact_101 : decode cX9_readFact 101 = .ok (.invokevirtual 191, 3) := by decide +kernel
theorem dX9_readFact_104 : decode cX9_readFact 104 = .ok (.aload_n 0, 1) := by decide +kernel
theorem dX9_readFact_105 : decode cX9_readFact 105 = .ok (.bipush 60, 2) := by decide +kernel
theorem dX9_readFact_107 : decode cX9_readFact 107 = .ok (.invokevirtual 112, 3) := by decide +kernel
theorem dX9_readFact_110 : decode cX9_readFact 110 = .ok (.ifCond .eq 8, 3) := by decide +kernel
theorem dX9_readFact_113 : decode cX9_readFact 113 = .ok (.bipush 11, 2) := by decide +kernel
theorem dX9_readFact_115 : decode cX9_readFact 115 = .ok (.goto 19, 3) := by decide +kernel
theorem dX9_readFact_118 : decode cX9_readFact 118 = .ok (.aload_n 0, 1) := by decide +kernel
theorem dX9_readFact_119 : decode cX9_readFact 119 = .ok (.bipush 62, 2) := by decide +kernel
theorem dX9_readFact_121 : decode cX9_readFact 121 = .ok (.invokevirtual 112, 3) := by decide +kernel
theorem dX9_readFact_124 : decode cX9_readFact 124 = .ok (.ifCond .eq 8, 3) := by decide +kernel
theorem dX9_readFact_127 : decode cX9_readFact 127 = .ok (.bipush 12, 2) := by decide +kernel
theorem dX9_readFact_129 : decode cX9_readFact 129 = .ok (.goto 5, 3) := by decide +kernel
theorem dX9_readFact_132 : decode cX9_readFact 132 = .ok (.bipush 13, 2) := by decide +kernel
theorem dX9_readFact_134 : decode cX9_readFact 134 = .ok (.istore_n 1, 1) := by decide +kernel
theorem dX9_readFact_135 : decode cX9_readFact 135 = .ok (.iload_n 1, 1) := by decide +kernel
theorem dX9_readFact_136 : decode cX9_readFact 136 = .ok (.bipush 13, 2) := by decide +kernel
theorem dX9_readFact_138 : decode cX9_readFact 138 = .ok (.if_icmp .ne 12, 3) := by decide +kernel
theorem dX9_readFact_141 : decode cX9_readFact 141 = .ok (.aload_n 0, 1) := by decide +kernel
theorem dX9_readFact_142 : decode cX9_readFact 142 = .ok (.bipush 61, 2) := by decide +kernel
theorem dX9_readFact_144 : decode cX9_readFact 144 = .ok (.invokevirtual 71, 3) := by decide +kernel
theorem dX9_readFact_147 : decode cX9_readFact 147 = .ok (.goto 7, 3) := by decide +kernel
theorem dX9_readFact_150 : decode cX9_readFact 150 = .ok (.aload_n 0, 1) := by decide +kernel
theorem dX9_readFact_151 : decode cX9_readFact 151 = .ok (.invokevirtual 64, 3) := by decide +kernel
theorem dX9_readFact_154 : decode cX9_readFact 154 = .ok (.aload_n 0, 1) := by decide +kernel
theorem dX9_readFact_155 : decode cX9_readFact 155 = .ok (.invokevirtual 191, 3) := by decide +kernel
theorem dX9_readFact_158 : decode cX9_readFact 158 = .ok (.aload_n 0, 1) := by decide +kernel
theorem dX9_readFact_159 : decode cX9_readFact 159 = .ok (.getfield 28, 3) := by decide +kernel
theorem dX9_readFact_162 : decode cX9_readFact 162 = .ok (.iload_n 1, 1) := by decide +kernel
theorem dX9_readFact_163 : decode cX9_readFact 163 = .ok (.iconst 0, 1) := by decide +kernel
theorem dX9_readFact_164 : decode cX9_readFact 164 = .ok (.invokevirtual 197, 3) := by decide +kernel
theorem dX9_readFact_167 : decode cX9_readFact 167 = .ok (.return_, 1) := by decide +kernel
theorem dX9_readSum_0 : decode cX9_readSum 0 = .ok (.aload_n 0, 1) := by decide +kernel
theorem dX9_readSum_1 : decode cX9_readSum 1 = .ok (.invokevirtual 206, 3) := by decide +kernel
theorem dX9_readSum_4 : decode cX9_readSum 4 = .ok (.iconst 0, 1) := by decide +kernel
theorem dX9_readSum_5 : decode cX9_readSum 5 = .ok (.istore_n 1, 1) := by decide +kernel
theorem dX9_readSum_6 : decode cX9_readSum 6 = .ok (.iload_n 1, 1) := by decide +kernel
theorem dX9_readSum_7 : decode cX9_readSum 7 = .ok (.sipush 1600, 3) := by decide +kernel
theorem dX9_readSum_10 : decode cX9_readSum 10 = .ok (.if_icmp .ge 59, 3) := by decide +kernel
theorem dX9_readSum_13 : decode cX9_readSum 13 = .ok (.aload_n 0, 1) := by decide +kernel
theorem dX9_readSum_14 : decode cX9_readSum 14 = .ok (.bipush 43, 2) := by decide +kernel
theorem dX9_readSum_16 : decode cX9_readSum 16 = .ok (.invokevirtual 112, 3) := by decide +kernel
theorem dX9_readSum_19 : decode cX9_readSum 19 = .ok (.ifCond .ne 12, 3) := by decide +kernel
theorem dX9_readSum_22 : decode cX9_readSum 22 = .ok (.aload_n 0, 1) := by decide +kernel
theorem dX9_readSum_23 : decode cX9_readSum 23 = .ok (.bipush 45, 2) := by decide +kernel
theorem dX9_readSum_25 : decode cX9_readSum 25 = .ok (.invokevirtual 112, 3) := by decide +kernel
theorem dX9_readSum_28 : decode cX9_readSum 28 = .ok (.ifCond .eq 41, 3) := by decide +kernel
theorem dX9_readSum_31 : decode cX9_readSum 31 = .ok (.aload_n 0, 1) := by decide +kernel
theorem dX9_readSum_32 : decode cX9_readSum 32 = .ok (.bipush 43, 2) := by decide +kernel
theorem dX9_readSum_34 : decode cX9_readSum 34 = .ok (.invokevirtual 112, 3) := by decide +kernel
theorem dX9_readSum_37 : decode cX9_readSum 37 = .ok (.ifCond .eq 7, 3) := by decide +kernel
theorem dX9_readSum_40 : decode cX9_readSum 40 = .ok (.iconst 4, 1) := by decide +kernel
theorem dX9_readSum_41 : decode cX9_readSum 41 = .ok (.goto 4, 3) := by decide +kernel
theorem dX9_readSum_44 : decode cX9_readSum 44 = .ok (.iconst 5, 1) := by decide +kernel
theorem dX9_readSum_45 : decode cX9_readSum 45 = .ok (.istore_n 2, 1) := by decide +kernel
theorem dX9_readSum_46 : decode cX9_readSum 46 = .ok (.aload_n 0, 1) := by decide +kernel
theorem dX9_readSum_47 : decode cX9_readSum 47 = .ok (.invokevirtual 64, 3) := by decide +kernel
theorem dX9_readSum_50 : decode cX9_readSum 50 = .ok (.aload_n 0, 1) := by decide +kernel
theorem dX9_readSum_51 : decode cX9_readSum 51 = .ok (.invokevirtual 206, 3) := by decide +kernel
theorem dX9_readSum_54 : decode cX9_readSum 54 = .ok (.aload_n 0, 1) := by decide +kernel
theorem dX9_readSum_55 : decode cX9_readSum 55 = .ok (.getfield 28, 3) := by decide +kernel
theorem dX9_readSum_58 : decode cX9_readSum 58 = .ok (.iload_n 2, 1) := by decide +kernel
theorem dX9_readSum_59 : decode cX9_readSum 59 = .ok (.iconst 0, 1) := by decide +kernel
theorem dX9_readSum_60 : decode cX9_readSum 60 = .ok (.invokevirtual 197, 3) := by decide +kernel
theorem dX9_readSum_63 : decode cX9_readSum 63 = .ok (.iinc 1 1, 3) := by decide +kernel
theorem dX9_readSum_66 : decode cX9_readSum 66 = .ok (.goto (-60), 3) := by decide +kernel
theorem dX9_readSum_69 : decode cX9_readSum 69 = .ok (.return_, 1) := by decide +kernel
theorem dX9_readProduct_0 : decode cX9_readProduct 0 = .ok (.aload_n 0, 1) := by decide +kernel
theorem dX9_readProduct_1 : decode cX9_readProduct 1 = .ok (.invokevirtual 209, 3) := by decide +kernel
theorem dX9_readProduct_4 : decode cX9_readProduct 4 = .ok (.iconst 0, 1) := by decide +kernel
theorem dX9_readProduct_5 : decode cX9_readProduct 5 = .ok (.istore_n 1, 1) := by decide +kernel
theorem dX9_readProduct_6 : decode cX9_readProduct 6 = .ok (.iload_n 1, 1) := by decide +kernel
theorem dX9_readProduct_7 : decode cX9_readProduct 7 = .ok (.sipush 1600, 3) := by decide +kernel
theorem dX9_readProduct_10 : decode cX9_readProduct 10 = .ok (.if_icmp .ge 84, 3) := by decide +kernel
theorem dX9_readProduct_13 : decode cX9_readProduct 13 = .ok (.aload_n 0, 1) := by decide +kernel
theorem dX9_readProduct_14 : decode cX9_readProduct 14 = .ok (.bipush 42, 2) := by decide +kernel
theorem dX9_readProduct_16 : decode cX9_readProduct 16 = .ok (.invokevirtual 112, 3) := by decide +kernel
theorem dX9_readProduct_19 : decode cX9_readProduct 19 = .ok (.ifCond .ne 21, 3) := by decide +kernel
theorem dX9_readProduct_22 : decode cX9_readProduct 22 = .ok (.aload_n 0, 1) := by decide +kernel
theorem dX9_readProduct_23 : decode cX9_readProduct 23 = .ok (.bipush 47, 2) := by decide +kernel
theorem dX9_readProduct_25 : decode cX9_readProduct 25 = .ok (.invokevirtual 112, 3) := by decide +kernel
theorem dX9_readProduct_28 : decode cX9_readProduct 28 = .ok (.ifCond .ne 12, 3) := by decide +kernel
theorem dX9_readProduct_31 : decode cX9_readProduct 31 = .ok (.aload_n 0, 1) := by decide +kernel
theorem dX9_readProduct_32 : decode cX9_readProduct 32 = .ok (.bipush 37, 2) := by decide +kernel
theorem dX9_readProduct_34 : decode cX9_readProduct 34 = .ok (.invokevirtual 112, 3) := by decide +kernel
theorem dX9_readProduct_37 : decode cX9_readProduct 37 = .ok (.ifCond .eq 57, 3) := by decide +kernel
theorem dX9_readProduct_40 : decode cX9_readProduct 40 = .ok (.aload_n 0, 1) := by decide +kernel
theorem dX9_readProduct_41 : decode cX9_readProduct 41 = .ok (.bipush 42, 2) := by decide +kernel
theorem dX9_readProduct_43 : decode cX9_readProduct 43 = .ok (.invokevirtual 112, 3) := by decide +kernel
theorem dX9_readProduct_46 : decode cX9_readProduct 46 = .ok (.ifCond .eq 8, 3) := by decide +kernel
theorem dX9_readProduct_49 : decode cX9_readProduct 49 = .ok (.bipush 6, 2) := by decide +kernel
theorem dX9_readProduct_51 : decode cX9_readProduct 51 = .ok (.goto 19, 3) := by decide +kernel
theorem dX9_readProduct_54 : decode cX9_readProduct 54 = .ok (.aload_n 0, 1) := by decide +kernel
theorem dX9_readProduct_55 : decode cX9_readProduct 55 = .ok (.bipush 47, 2) := by decide +kernel
theorem dX9_readProduct_57 : decode cX9_readProduct 57 = .ok (.invokevirtual 112, 3) := by decide +kernel
theorem dX9_readProduct_60 : decode cX9_readProduct 60 = .ok (.ifCond .eq 8, 3) := by decide +kernel
theorem dX9_readProduct_63 : decode cX9_readProduct 63 = .ok (.bipush 7, 2) := by decide +kernel
theorem dX9_readProduct_65 : decode cX9_readProduct 65 = .ok (.goto 5, 3) := by decide +kernel
theorem dX9_readProduct_68 : decode cX9_readProduct 68 = .ok (.bipush 8, 2) := by decide +kernel
theorem dX9_readProduct_70 : decode cX9_readProduct 70 = .ok (.istore_n 2, 1) := by decide +kernel
theorem dX9_readProduct_71 : decode cX9_readProduct 71 = .ok (.aload_n 0, 1) := by decide +kernel
theorem dX9_readProduct_72 : decode cX9_readProduct 72 = .ok (.invokevirtual 64, 3) := by decide +kernel
theorem dX9_readProduct_75 : decode cX9_readProduct 75 = .ok (.aload_n 0, 1) := by decide +kernel
theorem dX9_readProduct_76 : decode cX9_readProduct 76 = .ok (.invokevirtual 209, 3) := by decide +kernel
theorem dX9_readProduct_79 : decode cX9_readProduct 79 = .ok (.aload_n 0, 1) := by decide +kernel
theorem dX9_readProduct_80 : decode cX9_readProduct 80 = .ok (.getfield 28, 3) := by decide +kernel
theorem dX9_readProduct_83 : decode cX9_readProduct 83 = .ok (.iload_n 2, 1) := by decide +kernel
theorem dX9_readProduct_84 : decode cX9_readProduct 84 = .ok (.iconst 0, 1) := by decide +kernel
theorem dX9_readProduct_85 : decode cX9_readProduct 85 = .ok (.invokevirtual 197, 3) := by decide +kernel
theorem dX9_readProduct_88 : decode cX9_readProduct 88 = .ok (.iinc 1 1, 3) := by decide +kernel
theorem dX9_readProduct_91 : decode cX9_readProduct 91 = .ok (.goto (-85), 3) := by decide +kernel
theorem dX9_readProduct_94 : decode cX9_readProduct 94 = .ok (.return_, 1) := by decide +kernel
theorem dX9_readPart_0 : decode cX9_readPart 0 = .ok (.aload_n 0, 1) := by decide +kernel
theorem dX9_readPart_1 : decode cX9_readPart 1 = .ok (.bipush 40, 2) := by decide +kernel
theorem dX9_readPart_3 : decode cX9_readPart 3 = .ok (.invokevirtual 112, 3) := by decide +kernel
theorem dX9_readPart_6 : decode cX9_readPart 6 = .ok (.ifCond .eq 30, 3) := by decide +kernel
theorem dX9_readPart_9 : decode cX9_readPart 9 = .ok (.aload_n 0, 1) := by decide +kernel
theorem dX9_readPart_10 : decode cX9_readPart 10 = .ok (.invokevirtual 203, 3) := by decide +kernel
theorem dX9_readPart_13 : decode cX9_readPart 13 = .ok (.aload_n 0, 1) := by decide +kernel
theorem dX9_readPart_14 : decode cX9_readPart 14 = .ok (.invokevirtual 191, 3) := by decide +kernel
theorem dX9_readPart_17 : decode cX9_readPart 17 = .ok (.aload_n 0, 1) := by decide +kernel
theorem dX9_readPart_18 : decode cX9_readPart 18 = .ok (.bipush 41, 2) := by decide +kernel
theorem dX9_readPart_20 : decode cX9_readPart 20 = .ok (.invokevirtual 71, 3) := by decide +kernel
theorem dX9_readPart_23 : decode cX9_readPart 23 = .ok (.aload_n 0, 1) := by decide +kernel
theorem dX9_readPart_24 : decode cX9_readPart 24 = .ok (.dup, 1) := by decide +kernel
theorem dX9_readPart_25 : decode cX9_readPart 25 = .ok (.getfield 49, 3) := by decide +kernel
theorem dX9_readPart_28 : decode cX9_readPart 28 = .ok (.iconst 1, 1) := by decide +kernel
theorem dX9_readPart_29 : decode cX9_readPart 29 = .ok (.isub, 1) := by decide +kernel
theorem dX9_readPart_30 : decode cX9_readPart 30 = .ok (.putfield 49, 3) := by decide +kernel
theorem dX9_readPart_33 : decode cX9_readPart 33 = .ok (.goto 129, 3) := by decide +kernel
theorem dX9_readPart_36 : decode cX9_readPart 36 = .ok (.aload_n 0, 1) := by decide +kernel
theorem dX9_readPart_37 : decode cX9_readPart 37 = .ok (.bipush 22, 2) := by decide +kernel
theorem dX9_readPart_39 : decode cX9_readPart 39 = .ok (.invokevirtual 106, 3) := by decide +kernel
theorem dX9_readPart_42 : decode cX9_readPart 42 = .ok (.ifCond .eq 14, 3) := by decide +kernel
theorem dX9_readPart_45 : decode cX9_readPart 45 = .ok (.aload_n 0, 1) := by decide +kernel
theorem dX9_readPart_46 : decode cX9_readPart 46 = .ok (.invokevirtual 64, 3) := by decide +kernel
theorem dX9_readPart_49 : decode cX9_readPart 49 = .ok (.aload_n 0, 1) := by decide +kernel
theorem dX9_readPart_50 : decode cX9_readPart 50 = .ok (.invokevirtual 212, 3) := by decide +kernel
theorem dX9_readPart_53 : decode cX9_readPart 53 = .ok (.goto 109, 3) := by decide +kernel
theorem dX9_readPart_56 : decode cX9_readPart 56 = .ok (.aload_n 0, 1) := by decide +kernel
theorem dX9_readPart_57 : decode cX9_readPart 57 = .ok (.bipush 27, 2) := by decide +kernel
theorem dX9_readPart_59 : decode cX9_readPart 59 = .ok (.invokevirtual 106, 3) := by decide +kernel
theorem dX9_readPart_62 : decode cX9_readPart 62 = .ok (.ifCond .ne 12, 3) := by decide +kernel
theorem dX9_readPart_65 : decode cX9_readPart 65 = .ok (.aload_n 0, 1) := by decide +kernel
theorem dX9_readPart_66 : decode cX9_readPart 66 = .ok (.bipush 28, 2) := by decide +kernel
theorem dX9_readPart_68 : decode cX9_readPart 68 = .ok (.invokevirtual 106, 3) := by decide +kernel
theorem dX9_readPart_71 : decode cX9_readPart 71 = .ok (.ifCond .eq 32, 3) := by decide +kernel
theorem dX9_readPart_74 : decode cX9_readPart 74 = .ok (.aload_n 0, 1) := by decide +kernel
theorem dX9_readPart_75 : decode cX9_readPart 75 = .ok (.bipush 27, 2) := by decide +kernel
theorem dX9_readPart_77 : decode cX9_readPart 77 = .ok (.invokevirtual 106, 3) := by decide +kernel
theorem dX9_readPart_80 : decode cX9_readPart 80 = .ok (.ifCond .eq 8, 3) := by decide +kernel
theorem dX9_readPart_83 : decode cX9_readPart 83 = .ok (.bipush 9, 2) := by decide +kernel
theorem dX9_readPart_85 : decode cX9_readPart 85 = .ok (.goto 5, 3) := by decide +kernel
theorem dX9_readPart_88 : decode cX9_readPart 88 = .ok (.bipush 10, 2) := by decide +kernel
theorem dX9_readPart_90 : decode cX9_readPart 90 = .ok (.istore_n 1, 1) := by decide +kernel
theorem dX9_readPart_91 : decode cX9_readPart 91 = .ok (.aload_n 0, 1) := by decide +kernel
theorem dX9_readPart_92 : decode cX9_readPart 92 = .ok (.invokevirtual 64, 3) := by decide +kernel
theorem dX9_readPart_95 : decode cX9_readPart 95 = .ok (.aload_n 0, 1) := by decide +kernel
theorem dX9_readPart_96 : decode cX9_readPart 96 = .ok (.iload_n 1, 1) := by decide +kernel
theorem dX9_readPart_97 : decode cX9_readPart 97 = .ok (.invokevirtual 215, 3) := by decide +kernel
theorem dX9_readPart_100 : decode cX9_readPart 100 = .ok (.goto 62, 3) := by decide +kernel
theorem dX9_readPart_103 : decode cX9_readPart 103 = .ok (.aload_n 0, 1) := by decide +kernel
theorem dX9_readPart_104 : decode cX9_readPart 104 = .ok (.getfield 58, 3) := by decide +kernel
theorem dX9_readPart_107 : decode cX9_readPart 107 = .ok (.iconst 1, 1) := by decide +kernel
theorem dX9_readPart_108 : decode cX9_readPart 108 = .ok (.if_icmp .ne 38, 3) := by decide +kernel
theorem dX9_readPart_111 : decode cX9_readPart 111 = .ok (.aload_n 0, 1) := by decide +kernel
theorem dX9_readPart_112 : decode cX9_readPart 112 = .ok (.aload_n 0, 1) := by decide +kernel
theorem dX9_readPart_113 : decode cX9_readPart 113 = .ok (.getfield 103, 3) := by decide +kernel
theorem dX9_readPart_116 : decode cX9_readPart 116 = .ok (.invokevirtual 218, 3) := by decide +kernel
theorem dX9_readPart_119 : decode cX9_readPart 119 = .ok (.iconst (-1), 1) := by decide +kernel
theorem dX9_readPart_120 : decode cX9_readPart 120 = .ok (.if_icmp .eq 26, 3) := by decide +kernel
theorem dX9_readPart_123 : decode cX9_readPart 123 = .ok (.aload_n 0, 1) := by decide +kernel
theorem dX9_readPart_124 : decode cX9_readPart 124 = .ok (.getfield 28, 3) := by decide +kernel
theorem dX9_readPart_127 : decode cX9_readPart 127 = .ok (.iconst 1, 1) := by decide +kernel
theorem dX9_readPart_128 : decode cX9_readPart 128 = .ok (.aload_n 0, 1) := by decide +kernel
theorem dX9_readPart_129 : decode cX9_readPart 129 = .ok (.aload_n 0, 1) := by decide +kernel
theorem dX9_readPart_130 : decode cX9_readPart 130 = .ok (.getfield 103, 3) := by decide +kernel
theorem dX9_readPart_133 : decode cX9_readPart 133 = .ok (.invokevirtual 218, 3) := by decide +kernel
theorem dX9_readPart_136 : decode cX9_readPart 136 = .ok (.invokevirtual 197, 3) := by decide +kernel
theorem dX9_readPart_139 : decode cX9_readPart 139 = .ok (.aload_n 0, 1) := by decide +kernel
theorem dX9_readPart_140 : decode cX9_readPart 140 = .ok (.invokevirtual 64, 3) := by decide +kernel
theorem dX9_readPart_143 : decode cX9_readPart 143 = .ok (.goto 19, 3) := by decide +kernel
theorem dX9_readPart_146 : decode cX9_readPart 146 = .ok (.aload_n 0, 1) := by decide +kernel
theorem dX9_readPart_147 : decode cX9_readPart 147 = .ok (.getfield 28, 3) := by decide +kernel
theorem dX9_readPart_150 : decode cX9_readPart 150 = .ok (.iconst 0, 1) := by decide +kernel
theorem dX9_readPart_151 : decode cX9_readPart 151 = .ok (.aload_n 0, 1) := by decide +kernel
theorem dX9_readPart_152 : decode cX9_readPart 152 = .ok (.iconst 0, 1) := by decide +kernel
theorem dX9_readPart_153 : decode cX9_readPart 153 = .ok (.sipush 9999, 3) := by decide +kernel
theorem dX9_readPart_156 : decode cX9_readPart 156 = .ok (.invokevirtual 124, 3) := by decide +kernel
theorem dX9_readPart_159 : decode cX9_readPart 159 = .ok (.invokevirtual 197, 3) := by decide +kernel
theorem dX9_readPart_162 : decode cX9_readPart 162 = .ok (.return_, 1) := by decide +kernel
theorem dX9_readChoice_0 : decode cX9_readChoice 0 = .ok (.aload_n 0, 1) := by decide +kernel
theorem dX9_readChoice_1 : decode cX9_readChoice 1 = .ok (.bipush 40, 2) := by decide +kernel
theorem dX9_readChoice_3 : decode cX9_readChoice 3 = .ok (.invokevirtual 112, 3) := by decide +kernel
theorem dX9_readChoice_6 : decode cX9_readChoice 6 = .ok (.ifCond .ne 8, 3) := by decide +kernel
theorem dX9_readChoice_9 : decode cX9_readChoice 9 = .ok (.aload_n 0, 1) := by decide +kernel
theorem dX9_readChoice_10 : decode cX9_readChoice 10 = .ok (.invokevirtual 109, 3) := by decide +kernel
theorem dX9_readChoice_13 : decode cX9_readChoice 13 = .ok (.return_, 1) := by decide +kernel
theorem dX9_readChoice_14 : decode cX9_readChoice 14 = .ok (.aload_n 0, 1) := by decide +kernel
theorem dX9_readChoice_15 : decode cX9_readChoice 15 = .ok (.invokevirtual 203, 3) := by decide +kernel
theorem dX9_readChoice_18 : decode cX9_readChoice 18 = .ok (.aload_n 0, 1) := by decide +kernel
theorem dX9_readChoice_19 : decode cX9_readChoice 19 = .ok (.invokevirtual 188, 3) := by decide +kernel
theorem dX9_readChoice_22 : decode cX9_readChoice 22 = .ok (.aload_n 0, 1) := by decide +kernel
theorem dX9_readChoice_23 : decode cX9_readChoice 23 = .ok (.bipush 44, 2) := by decide +kernel
theorem dX9_readChoice_25 : decode cX9_readChoice 25 = .ok (.invokevirtual 71, 3) := by decide +kernel
theorem dX9_readChoice_28 : decode cX9_readChoice 28 = .ok (.aload_n 0, 1) := by decide +kernel
theorem dX9_readChoice_29 : decode cX9_readChoice 29 = .ok (.invokevirtual 191, 3) := by decide +kernel
theorem dX9_readChoice_32 : decode cX9_readChoice 32 = .ok (.aload_n 0, 1) := by decide +kernel
theorem dX9_readChoice_33 : decode cX9_readChoice 33 = .ok (.bipush 44, 2) := by decide +kernel
theorem dX9_readChoice_35 : decode cX9_readChoice 35 = .ok (.invokevirtual 71, 3) := by decide +kernel
theorem dX9_readChoice_38 : decode cX9_readChoice 38 = .ok (.aload_n 0, 1) := by decide +kernel
theorem dX9_readChoice_39 : decode cX9_readChoice 39 = .ok (.invokevirtual 191, 3) := by decide +kernel
theorem dX9_readChoice_42 : decode cX9_readChoice 42 = .ok (.aload_n 0, 1) := by decide +kernel
theorem dX9_readChoice_43 : decode cX9_readChoice 43 = .ok (.bipush 41, 2) := by decide +kernel
theorem dX9_readChoice_45 : decode cX9_readChoice 45 = .ok (.invokevirtual 71, 3) := by decide +kernel
theorem dX9_readChoice_48 : decode cX9_readChoice 48 = .ok (.aload_n 0, 1) := by decide +kernel
theorem dX9_readChoice_49 : decode cX9_readChoice 49 = .ok (.dup, 1) := by decide +kernel
theorem dX9_readChoice_50 : decode cX9_readChoice 50 = .ok (.getfield 49, 3) := by decide +kernel
theorem dX9_readChoice_53 : decode cX9_readChoice 53 = .ok (.iconst 1, 1) := by decide +kernel
theorem dX9_readChoice_54 : decode cX9_readChoice 54 = .ok (.isub, 1) := by decide +kernel
theorem dX9_readChoice_55 : decode cX9_readChoice 55 = .ok (.putfield 49, 3) := by decide +kernel
theorem dX9_readChoice_58 : decode cX9_readChoice 58 = .ok (.aload_n 0, 1) := by decide +kernel
theorem dX9_readChoice_59 : decode cX9_readChoice 59 = .ok (.getfield 28, 3) := by decide +kernel
theorem dX9_readChoice_62 : decode cX9_readChoice 62 = .ok (.iconst 3, 1) := by decide +kernel
theorem dX9_readChoice_63 : decode cX9_readChoice 63 = .ok (.iconst 0, 1) := by decide +kernel
theorem dX9_readChoice_64 : decode cX9_readChoice 64 = .ok (.invokevirtual 197, 3) := by decide +kernel
theorem dX9_readChoice_67 : decode cX9_readChoice 67 = .ok (.return_, 1) := by decide +kernel
theorem dX9_readPair_0 : decode cX9_readPair 0 = .ok (.aload_n 0, 1) := by decide +kernel
theorem dX9_readPair_1 : decode cX9_readPair 1 = .ok (.bipush 40, 2) := by decide +kernel
theorem dX9_readPair_3 : decode cX9_readPair 3 = .ok (.invokevirtual 112, 3) := by decide +kernel
theorem dX9_readPair_6 : decode cX9_readPair 6 = .ok (.ifCond .ne 8, 3) := by decide +kernel
theorem dX9_readPair_9 : decode cX9_readPair 9 = .ok (.aload_n 0, 1) := by decide +kernel
theorem dX9_readPair_10 : decode cX9_readPair 10 = .ok (.invokevirtual 109, 3) := by decide +kernel
theorem dX9_readPair_13 : decode cX9_readPair 13 = .ok (.return_, 1) := by decide +kernel
theorem dX9_readPair_14 : decode cX9_readPair 14 = .ok (.aload_n 0, 1) := by decide +kernel
theorem dX9_readPair_15 : decode cX9_readPair 15 = .ok (.invokevirtual 203, 3) := by decide +kernel
theorem dX9_readPair_18 : decode cX9_readPair 18 = .ok (.aload_n 0, 1) := by decide +kernel
theorem dX9_readPair_19 : decode cX9_readPair 19 = .ok (.invokevirtual 191, 3) := by decide +kernel
theorem dX9_readPair_22 : decode cX9_readPair 22 = .ok (.aload_n 0, 1) := by decide +kernel
theorem dX9_readPair_23 : decode cX9_readPair 23 = .ok (.bipush 44, 2) := by decide +kernel
theorem dX9_readPair_25 : decode cX9_readPair 25 = .ok (.invokevirtual 71, 3) := by decide +kernel
theorem dX9_readPair_28 : decode cX9_readPair 28 = .ok (.aload_n 0, 1) := by decide +kernel
theorem dX9_readPair_29 : decode cX9_readPair 29 = .ok (.invokevirtual 191, 3) := by decide +kernel
theorem dX9_readPair_32 : decode cX9_readPair 32 = .ok (.aload_n 0, 1) := by decide +kernel
theorem dX9_readPair_33 : decode cX9_readPair 33 = .ok (.bipush 41, 2) := by decide +kernel
theorem dX9_readPair_35 : decode cX9_readPair 35 = .ok (.invokevirtual 71, 3) := by decide +kernel
theorem dX9_readPair_38 : decode cX9_readPair 38 = .ok (.aload_n 0, 1) := by decide +kernel
theorem dX9_readPair_39 : decode cX9_readPair 39 = .ok (.dup, 1) := by decide +kernel
theorem dX9_readPair_40 : decode cX9_readPair 40 = .ok (.getfield 49, 3) := by decide +kernel
theorem dX9_readPair_43 : decode cX9_readPair 43 = .ok (.iconst 1, 1) := by decide +kernel
theorem dX9_readPair_44 : decode cX9_readPair 44 = .ok (.isub, 1) := by decide +kernel
theorem dX9_readPair_45 : decode cX9_readPair 45 = .ok (.putfield 49, 3) := by decide +kernel
theorem dX9_readPair_48 : decode cX9_readPair 48 = .ok (.aload_n 0, 1) := by decide +kernel
theorem dX9_readPair_49 : decode cX9_readPair 49 = .ok (.getfield 28, 3) := by decide +kernel
theorem dX9_readPair_52 : decode cX9_readPair 52 = .ok (.iload_n 1, 1) := by decide +kernel
theorem dX9_readPair_53 : decode cX9_readPair 53 = .ok (.iconst 0, 1) := by decide +kernel
theorem dX9_readPair_54 : decode cX9_readPair 54 = .ok (.invokevirtual 197, 3) := by decide +kernel
theorem dX9_readPair_57 : decode cX9_readPair 57 = .ok (.return_, 1) := by decide +kernel
theorem dX9_factOf_0 : decode cX9_factOf 0 = .ok (.iload_n 1, 1) := by decide +kernel
theorem dX9_factOf_1 : decode cX9_factOf 1 = .ok (.tableswitch 255 4 21 #[89, 143, 255, 255, 255, 255, 255, 255, 255, 255, 87, 113, 128, 167, 191, 207, 223, 239], 87) := by decide +kernel
theorem dX9_factOf_88 : decode cX9_factOf 88 = .ok (.iconst 0, 1) := by decide +kernel
theorem dX9_factOf_89 : decode cX9_factOf 89 = .ok (.ireturn, 1) := by decide +kernel
theorem dX9_factOf_90 : decode cX9_factOf 90 = .ok (.aload_n 0, 1) := by decide +kernel
theorem dX9_factOf_91 : decode cX9_factOf 91 = .ok (.getfield 185, 3) := by decide +kernel
theorem dX9_factOf_94 : decode cX9_factOf 94 = .ok (.bipush 10, 2) := by decide +kernel
theorem dX9_factOf_96 : decode cX9_factOf 96 = .ok (.if_icmp .eq 12, 3) := by decide +kernel
theorem dX9_factOf_99 : decode cX9_factOf 99 = .ok (.aload_n 0, 1) := by decide +kernel
theorem dX9_factOf_100 : decode cX9_factOf 100 = .ok (.getfield 185, 3) := by decide +kernel
theorem dX9_factOf_103 : decode cX9_factOf 103 = .ok (.bipush 11, 2) := by decide +kernel
theorem dX9_factOf_105 : decode cX9_factOf 105 = .ok (.if_icmp .ne 7, 3) := by decide +kernel
theorem dX9_factOf_108 : decode cX9_factOf 108 = .ok (.iconst 1, 1) := by decide +kernel
theorem dX9_factOf_109 : decode cX9_factOf 109 = .ok (.goto 4, 3) := by decide +kernel
theorem dX9_factOf_112 : decode cX9_factOf 112 = .ok (.iconst (-1), 1) := by decide +kernel
theorem dX9_factOf_113 : decode cX9_factOf 113 = .ok (.ireturn, 1) := by decide +kernel
theorem dX9_factOf_114 : decode cX9_factOf 114 = .ok (.aload_n 0, 1) := by decide +kernel
theorem dX9_factOf_115 : decode cX9_factOf 115 = .ok (.getfield 185, 3) := by decide +kernel
theorem dX9_factOf_118 : decode cX9_factOf 118 = .ok (.bipush 10, 2) := by decide +kernel
theorem dX9_factOf_120 : decode cX9_factOf 120 = .ok (.if_icmp .ne 7, 3) := by decide +kernel
theorem dX9_factOf_123 : decode cX9_factOf 123 = .ok (.iconst 2, 1) := by decide +kernel
theorem dX9_factOf_124 : decode cX9_factOf 124 = .ok (.goto 4, 3) := by decide +kernel
theorem dX9_factOf_127 : decode cX9_factOf 127 = .ok (.iconst (-1), 1) := by decide +kernel
theorem dX9_factOf_128 : decode cX9_factOf 128 = .ok (.ireturn, 1) := by decide +kernel
theorem dX9_factOf_129 : decode cX9_factOf 129 = .ok (.aload_n 0, 1) := by decide +kernel
theorem dX9_factOf_130 : decode cX9_factOf 130 = .ok (.getfield 185, 3) := by decide +kernel
theorem dX9_factOf_133 : decode cX9_factOf 133 = .ok (.bipush 10, 2) := by decide +kernel
theorem dX9_factOf_135 : decode cX9_factOf 135 = .ok (.if_icmp .ne 7, 3) := by decide +kernel
theorem dX9_factOf_138 : decode cX9_factOf 138 = .ok (.iconst 3, 1) := by decide +kernel
theorem dX9_factOf_139 : decode cX9_factOf 139 = .ok (.goto 4, 3) := by decide +kernel
theorem dX9_factOf_142 : decode cX9_factOf 142 = .ok (.iconst (-1), 1) := by decide +kernel
theorem dX9_factOf_143 : decode cX9_factOf 143 = .ok (.ireturn, 1) := by decide +kernel
theorem dX9_factOf_144 : decode cX9_factOf 144 = .ok (.aload_n 0, 1) := by decide +kernel
theorem dX9_factOf_145 : decode cX9_factOf 145 = .ok (.getfield 185, 3) := by decide +kernel
theorem dX9_factOf_148 : decode cX9_factOf 148 = .ok (.bipush 11, 2) := by decide +kernel
theorem dX9_factOf_150 : decode cX9_factOf 150 = .ok (.if_icmp .eq 12, 3) := by decide +kernel
theorem dX9_factOf_153 : decode cX9_factOf 153 = .ok (.aload_n 0, 1) := by decide +kernel
theorem dX9_factOf_154 : decode cX9_factOf 154 = .ok (.getfield 185, 3) := by decide +kernel
theorem dX9_factOf_157 : decode cX9_factOf 157 = .ok (.bipush 13, 2) := by decide +kernel
theorem dX9_factOf_159 : decode cX9_factOf 159 = .ok (.if_icmp .ne 7, 3) := by decide +kernel
theorem dX9_factOf_162 : decode cX9_factOf 162 = .ok (.iconst 4, 1) := by decide +kernel
theorem dX9_factOf_163 : decode cX9_factOf 163 = .ok (.goto 4, 3) := by decide +kernel
theorem dX9_factOf_166 : decode cX9_factOf 166 = .ok (.iconst (-1), 1) := by decide +kernel
theorem dX9_factOf_167 : decode cX9_factOf 167 = .ok (.ireturn, 1) := by decide +kernel
theorem dX9_factOf_168 : decode cX9_factOf 168 = .ok (.aload_n 0, 1) := by decide +kernel
theorem dX9_factOf_169 : decode cX9_factOf 169 = .ok (.getfield 185, 3) := by decide +kernel
theorem dX9_factOf_172 : decode cX9_factOf 172 = .ok (.bipush 11, 2) := by decide +kernel
theorem dX9_factOf_174 : decode cX9_factOf 174 = .ok (.if_icmp .eq 12, 3) := by decide +kernel
theorem dX9_factOf_177 : decode cX9_factOf 177 = .ok (.aload_n 0, 1) := by decide +kernel
theorem dX9_factOf_178 : decode cX9_factOf 178 = .ok (.getfield 185, 3) := by decide +kernel
theorem dX9_factOf_181 : decode cX9_factOf 181 = .ok (.bipush 13, 2) := by decide +kernel
theorem dX9_factOf_183 : decode cX9_factOf 183 = .ok (.if_icmp .ne 7, 3) := by decide +kernel
theorem dX9_factOf_186 : decode cX9_factOf 186 = .ok (.iconst 5, 1) := by decide +kernel
theorem dX9_factOf_187 : decode cX9_factOf 187 = .ok (.goto 4, 3) := by decide +kernel
theorem dX9_factOf_190 : decode cX9_factOf 190 = .ok (.iconst (-1), 1) := by decide +kernel
theorem dX9_factOf_191 : decode cX9_factOf 191 = .ok (.ireturn, 1) := by decide +kernel
theorem dX9_factOf_192 : decode cX9_factOf 192 = .ok (.aload_n 0, 1) := by decide +kernel
theorem dX9_factOf_193 : decode cX9_factOf 193 = .ok (.getfield 185, 3) := by decide +kernel
theorem dX9_factOf_196 : decode cX9_factOf 196 = .ok (.bipush 11, 2) := by decide +kernel
theorem dX9_factOf_198 : decode cX9_factOf 198 = .ok (.if_icmp .ne 8, 3) := by decide +kernel
theorem dX9_factOf_201 : decode cX9_factOf 201 = .ok (.bipush 6, 2) := by decide +kernel
theorem dX9_factOf_203 : decode cX9_factOf 203 = .ok (.goto 4, 3) := by decide +kernel
theorem dX9_factOf_206 : decode cX9_factOf 206 = .ok (.iconst (-1), 1) := by decide +kernel
theorem dX9_factOf_207 : decode cX9_factOf 207 = .ok (.ireturn, 1) := by decide +kernel
theorem dX9_factOf_208 : decode cX9_factOf 208 = .ok (.aload_n 0, 1) := by decide +kernel
theorem dX9_factOf_209 : decode cX9_factOf 209 = .ok (.getfield 185, 3) := by decide +kernel
theorem dX9_factOf_212 : decode cX9_factOf 212 = .ok (.bipush 13, 2) := by decide +kernel
theorem dX9_factOf_214 : decode cX9_factOf 214 = .ok (.if_icmp .ne 8, 3) := by decide +kernel
theorem dX9_factOf_217 : decode cX9_factOf 217 = .ok (.bipush 7, 2) := by decide +kernel
theorem dX9_factOf_219 : decode cX9_factOf 219 = .ok (.goto 4, 3) := by decide +kernel
theorem dX9_factOf_222 : decode cX9_factOf 222 = .ok (.iconst (-1), 1) := by decide +kernel
theorem dX9_factOf_223 : decode cX9_factOf 223 = .ok (.ireturn, 1) := by decide +kernel
theorem dX9_factOf_224 : decode cX9_factOf 224 = .ok (.aload_n 0, 1) := by decide +kernel
theorem dX9_factOf_225 : decode cX9_factOf 225 = .ok (.getfield 185, 3) := by decide +kernel
theorem dX9_factOf_228 : decode cX9_factOf 228 = .ok (.bipush 12, 2) := by decide +kernel
theorem dX9_factOf_230 : decode cX9_factOf 230 = .ok (.if_icmp .ne 8, 3) := by decide +kernel
theorem dX9_factOf_233 : decode cX9_factOf 233 = .ok (.bipush 8, 2) := by decide +kernel
theorem dX9_factOf_235 : decode cX9_factOf 235 = .ok (.goto 4, 3) := by decide +kernel
theorem dX9_factOf_238 : decode cX9_factOf 238 = .ok (.iconst (-1), 1) := by decide +kernel
theorem dX9_factOf_239 : decode cX9_factOf 239 = .ok (.ireturn, 1) := by decide +kernel
theorem dX9_factOf_240 : decode cX9_factOf 240 = .ok (.aload_n 0, 1) := by decide +kernel
theorem dX9_factOf_241 : decode cX9_factOf 241 = .ok (.getfield 185, 3) := by decide +kernel
theorem dX9_factOf_244 : decode cX9_factOf 244 = .ok (.bipush 12, 2) := by decide +kernel
theorem dX9_factOf_246 : decode cX9_factOf 246 = .ok (.if_icmp .ne 8, 3) := by decide +kernel
theorem dX9_factOf_249 : decode cX9_factOf 249 = .ok (.bipush 9, 2) := by decide +kernel
theorem dX9_factOf_251 : decode cX9_factOf 251 = .ok (.goto 4, 3) := by decide +kernel
theorem dX9_factOf_254 : decode cX9_factOf 254 = .ok (.iconst (-1), 1) := by decide +kernel
theorem dX9_factOf_255 : decode cX9_factOf 255 = .ok (.ireturn, 1) := by decide +kernel
theorem dX9_factOf_256 : decode cX9_factOf 256 = .ok (.iconst (-1), 1) := by decide +kernel
theorem dX9_factOf_257 : decode cX9_factOf 257 = .ok (.ireturn, 1) := by decide +kernel
theorem dX10_init_0 : decode cX10_init 0 = .ok (.aload_n 0, 1) := by decide +kernel
theorem dX10_init_1 : decode cX10_init 1 = .ok (.invokespecial 3, 3) := by decide +kernel
theorem dX10_init_4 : decode cX10_init 4 = .ok (.aload_n 0, 1) := by decide +kernel
theorem dX10_init_5 : decode cX10_init 5 = .ok (.iconst 4, 1) := by decide +kernel
theorem dX10_init_6 : decode cX10_init 6 = .ok (.anewarray 9, 3) := by decide +kernel
theorem dX10_init_9 : decode cX10_init 9 = .ok (.putfield 11, 3) := by decide +kernel
theorem dX10_init_12 : decode cX10_init 12 = .ok (.aload_n 0, 1) := by decide +kernel
theorem dX10_init_13 : decode cX10_init 13 = .ok (.new 17, 3) := by decide +kernel
theorem dX10_init_16 : decode cX10_init 16 = .ok (.dup, 1) := by decide +kernel
theorem dX10_init_17 : decode cX10_init 17 = .ok (.invokespecial 19, 3) := by decide +kernel
theorem dX10_init_20 : decode cX10_init 20 = .ok (.putfield 20, 3) := by decide +kernel
theorem dX10_init_23 : decode cX10_init 23 = .ok (.aload_n 0, 1) := by decide +kernel
theorem dX10_init_24 : decode cX10_init 24 = .ok (.new 24, 3) := by decide +kernel
theorem dX10_init_27 : decode cX10_init 27 = .ok (.dup, 1) := by decide +kernel
theorem dX10_init_28 : decode cX10_init 28 = .ok (.invokespecial 26, 3) := by decide +kernel
theorem dX10_init_31 : decode cX10_init 31 = .ok (.putfield 27, 3) := by decide +kernel
theorem dX10_init_34 : decode cX10_init 34 = .ok (.aload_n 0, 1) := by decide +kernel
theorem dX10_init_35 : decode cX10_init 35 = .ok (.new 31, 3) := by decide +kernel
theorem dX10_init_38 : decode cX10_init 38 = .ok (.dup, 1) := by decide +kernel
theorem dX10_init_39 : decode cX10_init 39 = .ok (.invokespecial 33, 3) := by decide +kernel
theorem dX10_init_42 : decode cX10_init 42 = .ok (.putfield 34, 3) := by decide +kernel
theorem dX10_init_45 : decode cX10_init 45 = .ok (.aload_n 0, 1) := by decide +kernel
theorem dX10_init_46 : decode cX10_init 46 = .ok (.new 38, 3) := by decide +kernel
theorem dX10_init_49 : decode cX10_init 49 = .ok (.dup, 1) := by decide +kernel
theorem dX10_init_50 : decode cX10_init 50 = .ok (.invokespecial 40, 3) := by decide +kernel
theorem dX10_init_53 : decode cX10_init 53 = .ok (.putfield 41, 3) := by decide +kernel
theorem dX10_init_56 : decode cX10_init 56 = .ok (.aload_n 0, 1) := by decide +kernel
theorem dX10_init_57 : decode cX10_init 57 = .ok (.new 45, 3) := by decide +kernel
theorem dX10_init_60 : decode cX10_init 60 = .ok (.dup, 1) := by decide +kernel
theorem dX10_init_61 : decode cX10_init 61 = .ok (.invokespecial 47, 3) := by decide +kernel
theorem dX10_init_64 : decode cX10_init 64 = .ok (.putfield 48, 3) := by decide +kernel
theorem dX10_init_67 : decode cX10_init 67 = .ok (.aload_n 0, 1) := by decide +kernel
theorem dX10_init_68 : decode cX10_init 68 = .ok (.bipush 10, 2) := by decide +kernel
theorem dX10_init_70 : decode cX10_init 70 = .ok (.newarray .int, 2) := by decide +kernel
theorem dX10_init_72 : decode cX10_init 72 = .ok (.putfield 54, 3) := by decide +kernel
theorem dX10_init_75 : decode cX10_init 75 = .ok (.aload_n 0, 1) := by decide +kernel
theorem dX10_init_76 : decode cX10_init 76 = .ok (.aload_n 1, 1) := by decide +kernel
theorem dX10_init_77 : decode cX10_init 77 = .ok (.putfield 58, 3) := by decide +kernel
theorem dX10_init_80 : decode cX10_init 80 = .ok (.iconst 0, 1) := by decide +kernel
theorem dX10_init_81 : decode cX10_init 81 = .ok (.istore_n 2, 1) := by decide +kernel
theorem dX10_init_82 : decode cX10_init 82 = .ok (.iload_n 2, 1) := by decide +kernel
theorem dX10_init_83 : decode cX10_init 83 = .ok (.iconst 4, 1) := by decide +kernel
theorem dX10_init_84 : decode cX10_init 84 = .ok (.if_icmp .ge 22, 3) := by decide +kernel
theorem dX10_init_87 : decode cX10_init 87 = .ok (.aload_n 0, 1) := by decide +kernel
theorem dX10_init_88 : decode cX10_init 88 = .ok (.getfield 11, 3) := by decide +kernel
theorem dX10_init_91 : decode cX10_init 91 = .ok (.iload_n 2, 1) := by decide +kernel
theorem dX10_init_92 : decode cX10_init 92 = .ok (.new 9, 3) := by decide +kernel
theorem dX10_init_95 : decode cX10_init 95 = .ok (.dup, 1) := by decide +kernel
theorem dX10_init_96 : decode cX10_init 96 = .ok (.invokespecial 62, 3) := by decide +kernel
theorem dX10_init_99 : decode cX10_init 99 = .ok (.aastore, 1) := by decide +kernel
theorem dX10_init_100 : decode cX10_init 100 = .ok (.iinc 2 1, 3) := by decide +kernel
theorem dX10_init_103 : decode cX10_init 103 = .ok (.goto (-21), 3) := by decide +kernel
theorem dX10_init_106 : decode cX10_init 106 = .ok (.return_, 1) := by decide +kernel
theorem dX10_begin_0 : decode cX10_begin 0 = .ok (.aload_n 0, 1) := by decide +kernel
theorem dX10_begin_1 : decode cX10_begin 1 = .ok (.aload_n 1, 1) := by decide +kernel
theorem dX10_begin_2 : decode cX10_begin 2 = .ok (.putfield 58, 3) := by decide +kernel
theorem dX10_begin_5 : decode cX10_begin 5 = .ok (.aload_n 0, 1) := by decide +kernel
theorem dX10_begin_6 : decode cX10_begin 6 = .ok (.iconst 0, 1) := by decide +kernel
theorem dX10_begin_7 : decode cX10_begin 7 = .ok (.putfield 63, 3) := by decide +kernel
theorem dX10_begin_10 : decode cX10_begin 10 = .ok (.aload_n 0, 1) := by decide +kernel
theorem dX10_begin_11 : decode cX10_begin 11 = .ok (.iconst 0, 1) := by decide +kernel
theorem dX10_begin_12 : decode cX10_begin 12 = .ok (.putfield 67, 3) := by decide +kernel
theorem dX10_begin_15 : decode cX10_begin 15 = .ok (.aload_n 0, 1) := by decide +kernel
theorem dX10_begin_16 : decode cX10_begin 16 = .ok (.iconst 0, 1) := by decide +kernel
theorem dX10_begin_17 : decode cX10_begin 17 = .ok (.putfield 70, 3) := by decide +kernel
theorem dX10_begin_20 : decode cX10_begin 20 = .ok (.aload_n 0, 1) := by decide +kernel
theorem dX10_begin_21 : decode cX10_begin 21 = .ok (.aload_n 1, 1) := by decide +kernel
theorem dX10_begin_22 : decode cX10_begin 22 = .ok (.getfield 73, 3) := by decide +kernel
theorem dX10_begin_25 : decode cX10_begin 25 = .ok (.putfield 78, 3) := by decide +kernel
theorem dX10_begin_28 : decode cX10_begin 28 = .ok (.aload_n 0, 1) := by decide +kernel
theorem dX10_begin_29 : decode cX10_begin 29 = .ok (.iconst 0, 1) := by decide +kernel
theorem dX10_begin_30 : decode cX10_begin 30 = .ok (.putfield 81, 3) := by decide +kernel
theorem dX10_begin_33 : decode cX10_begin 33 = .ok (.aload_n 0, 1) := by decide +kernel
theorem dX10_begin_34 : decode cX10_begin 34 = .ok (.getfield 20, 3) := by decide +kernel
theorem dX10_begin_37 : decode cX10_begin 37 = .ok (.aload_n 1, 1) := by decide +kernel
theorem dX10_begin_38 : decode cX10_begin 38 = .ok (.invokevirtual 84, 3) := by decide +kernel
theorem dX10_begin_41 : decode cX10_begin 41 = .ok (.aload_n 0, 1) := by decide +kernel
theorem dX10_begin_42 : decode cX10_begin 42 = .ok (.getfield 27, 3) := by decide +kernel
theorem dX10_begin_45 : decode cX10_begin 45 = .ok (.iconst 0, 1) := by decide +kernel
theorem dX10_begin_46 : decode cX10_begin 46 = .ok (.putfield 88, 3) := by decide +kernel
theorem dX10_begin_49 : decode cX10_begin 49 = .ok (.aload_n 0, 1) := by decide +kernel
theorem dX10_begin_50 : decode cX10_begin 50 = .ok (.getfield 34, 3) := by decide +kernel
theorem dX10_begin_53 : decode cX10_begin 53 = .ok (.iconst 0, 1) := by decide +kernel
theorem dX10_begin_54 : decode cX10_begin 54 = .ok (.putfield 91, 3) := by decide +kernel
theorem dX10_begin_57 : decode cX10_begin 57 = .ok (.aload_n 0, 1) := by decide +kernel
theorem dX10_begin_58 : decode cX10_begin 58 = .ok (.getfield 41, 3) := by decide +kernel
theorem dX10_begin_61 : decode cX10_begin 61 = .ok (.iconst 0, 1) := by decide +kernel
theorem dX10_begin_62 : decode cX10_begin 62 = .ok (.putfield 92, 3) := by decide +kernel
theorem dX10_begin_65 : decode cX10_begin 65 = .ok (.aload_n 0, 1) := by decide +kernel
theorem dX10_begin_66 : decode cX10_begin 66 = .ok (.getfield 48, 3) := by decide +kernel
theorem dX10_begin_69 : decode cX10_begin 69 = .ok (.invokevirtual 93, 3) := by decide +kernel
theorem dX10_begin_72 : decode cX10_begin 72 = .ok (.iconst 0, 1) := by decide +kernel
theorem dX10_begin_73 : decode cX10_begin 73 = .ok (.istore_n 2, 1) := by decide +kernel
theorem dX10_begin_74 : decode cX10_begin 74 = .ok (.iload_n 2, 1) := by decide +kernel
theorem dX10_begin_75 : decode cX10_begin 75 = .ok (.iconst 4, 1) := by decide +kernel
theorem dX10_begin_76 : decode cX10_begin 76 = .ok (.if_icmp .ge 24, 3) := by decide +kernel
theorem dX10_begin_79 : decode cX10_begin 79 = .ok (.aload_n 0, 1) := by decide +kernel
theorem dX10_begin_80 : decode cX10_begin 80 = .ok (.getfield 11, 3) := by decide +kernel
theorem dX10_begin_83 : decode cX10_begin 83 = .ok (.iload_n 2, 1) := by decide +kernel
theorem dX10_begin_84 : decode cX10_begin 84 = .ok (.aaload, 1) := by decide +kernel
theorem dX10_begin_85 : decode cX10_begin 85 = .ok (.aload_n 1, 1) := by decide +kernel
theorem dX10_begin_86 : decode cX10_begin 86 = .ok (.getfield 96, 3) := by decide +kernel
theorem dX10_begin_89 : decode cX10_begin 89 = .ok (.iload_n 2, 1) := by decide +kernel
theorem dX10_begin_90 : decode cX10_begin 90 = .ok (.iaload, 1) := by decide +kernel
theorem dX10_begin_91 : decode cX10_begin 91 = .ok (.invokevirtual 99, 3) := by decide +kernel
theorem dX10_begin_94 : decode cX10_begin 94 = .ok (.iinc 2 1, 3) := by decide +kernel
theorem dX10_begin_97 : decode cX10_begin 97 = .ok (.goto (-23), 3) := by decide +kernel
theorem dX10_begin_100 : decode cX10_begin 100 = .ok (.aload_n 1, 1) := by decide +kernel
theorem dX10_begin_101 : decode cX10_begin 101 = .ok (.getfield 102, 3) := by decide +kernel
theorem dX10_begin_104 : decode cX10_begin 104 = .ok (.ifCond .le 12, 3) := by decide +kernel
theorem dX10_begin_107 : decode cX10_begin 107 = .ok (.aload_n 0, 1) := by decide +kernel
theorem dX10_begin_108 : decode cX10_begin 108 = .ok (.getfield 11, 3) := by decide +kernel
theorem dX10_begin_111 : decode cX10_begin 111 = .ok (.iconst 0, 1) := by decide +kernel
theorem dX10_begin_112 : decode cX10_begin 112 = .ok (.aaload, 1) := by decide +kernel
theorem dX10_begin_113 : decode cX10_begin 113 = .ok (.invokevirtual 105, 3) := by decide +kernel
theorem dX10_begin_116 : decode cX10_begin 116 = .ok (.return_, 1) := by decide +kernel
theorem dX10_copyFrom_0 : decode cX10_copyFrom 0 = .ok (.aload_n 0, 1) := by decide +kernel
theorem dX10_copyFrom_1 : decode cX10_copyFrom 1 = .ok (.aload_n 1, 1) := by decide +kernel
theorem dX10_copyFrom_2 : decode cX10_copyFrom 2 = .ok (.getfield 58, 3) := by decide +kernel
theorem dX10_copyFrom_5 : decode cX10_copyFrom 5 = .ok (.putfield 58, 3) := by decide +kernel
theorem dX10_copyFrom_8 : decode cX10_copyFrom 8 = .ok (.aload_n 0, 1) := by decide +kernel
theorem dX10_copyFrom_9 : decode cX10_copyFrom 9 = .ok (.aload_n 1, 1) := by decide +kernel
theorem dX10_copyFrom_10 : decode cX10_copyFrom 10 = .ok (.getfield 63, 3) := by decide +kernel
theorem dX10_copyFrom_13 : decode cX10_copyFrom 13 = .ok (.putfield 63, 3) := by decide +kernel
theorem dX10_copyFrom_16 : decode cX10_copyFrom 16 = .ok (.aload_n 0, 1) := by decide +kernel
theorem dX10_copyFrom_17 : decode cX10_copyFrom 17 = .ok (.aload_n 1, 1) := by decide +kernel
theorem dX10_copyFrom_18 : decode cX10_copyFrom 18 = .ok (.getfield 67, 3) := by decide +kernel
theorem dX10_copyFrom_21 : decode cX10_copyFrom 21 = .ok (.putfield 67, 3) := by decide +kernel
theorem dX10_copyFrom_24 : decode cX10_copyFrom 24 = .ok (.aload_n 0, 1) := by decide +kernel
theorem dX10_copyFrom_25 : decode cX10_copyFrom 25 = .ok (.aload_n 1, 1) := by decide +kernel
theorem dX10_copyFrom_26 : decode cX10_copyFrom 26 = .ok (.getfield 70, 3) := by decide +kernel
theorem dX10_copyFrom_29 : decode cX10_copyFrom 29 = .ok (.putfield 70, 3) := by decide +kernel
theorem dX10_copyFrom_32 : decode cX10_copyFrom 32 = .ok (.aload_n 0, 1) := by decide +kernel
theorem dX10_copyFrom_33 : decode cX10_copyFrom 33 = .ok (.aload_n 1, 1) := by decide +kernel
theorem dX10_copyFrom_34 : decode cX10_copyFrom 34 = .ok (.getfield 78, 3) := by decide +kernel
theorem dX10_copyFrom_37 : decode cX10_copyFrom 37 = .ok (.putfield 78, 3) := by decide +kernel
theorem dX10_copyFrom_40 : decode cX10_copyFrom 40 = .ok (.aload_n 0, 1) := by decide +kernel
theorem dX10_copyFrom_41 : decode cX10_copyFrom 41 = .ok (.aload_n 1, 1) := by decide +kernel
theorem dX10_copyFrom_42 : decode cX10_copyFrom 42 = .ok (.getfield 81, 3) := by decide +kernel
theorem dX10_copyFrom_45 : decode cX10_copyFrom 45 = .ok (.putfield 81, 3) := by decide +kernel
theorem dX10_copyFrom_48 : decode cX10_copyFrom 48 = .ok (.aload_n 0, 1) := by decide +kernel
theorem dX10_copyFrom_49 : decode cX10_copyFrom 49 = .ok (.getfield 20, 3) := by decide +kernel
theorem dX10_copyFrom_52 : decode cX10_copyFrom 52 = .ok (.aload_n 1, 1) := by decide +kernel
theorem dX10_copyFrom_53 : decode cX10_copyFrom 53 = .ok (.getfield 20, 3) := by decide +kernel
theorem dX10_copyFrom_56 : decode cX10_copyFrom 56 = .ok (.invokevirtual 108, 3) := by decide +kernel
theorem dX10_copyFrom_59 : decode cX10_copyFrom 59 = .ok (.aload_n 0, 1) := by decide +kernel
theorem dX10_copyFrom_60 : decode cX10_copyFrom 60 = .ok (.getfield 27, 3) := by decide +kernel
theorem dX10_copyFrom_63 : decode cX10_copyFrom 63 = .ok (.aload_n 1, 1) := by decide +kernel
theorem dX10_copyFrom_64 : decode cX10_copyFrom 64 = .ok (.getfield 27, 3) := by decide +kernel
theorem dX10_copyFrom_67 : decode cX10_copyFrom 67 = .ok (.invokevirtual 112, 3) := by decide +kernel
theorem dX10_copyFrom_70 : decode cX10_copyFrom 70 = .ok (.aload_n 0, 1) := by decide +kernel
theorem dX10_copyFrom_71 : decode cX10_copyFrom 71 = .ok (.getfield 34, 3) := by decide +kernel
theorem dX10_copyFrom_74 : decode cX10_copyFrom 74 = .ok (.aload_n 1, 1) := by decide +kernel
theorem dX10_copyFrom_75 : decode cX10_copyFrom 75 = .ok (.getfield 34, 3) := by decide +kernel
theorem dX10_copyFrom_78 : decode cX10_copyFrom 78 = .ok (.invokevirtual 115, 3) := by decide +kernel
theorem dX10_copyFrom_81 : decode cX10_copyFrom 81 = .ok (.aload_n 0, 1) := by decide +kernel
theorem dX10_copyFrom_82 : decode cX10_copyFrom 82 = .ok (.getfield 41, 3) := by decide +kernel
theorem dX10_copyFrom_85 : decode cX10_copyFrom 85 = .ok (.aload_n 1, 1) := by decide +kernel
theorem dX10_copyFrom_86 : decode cX10_copyFrom 86 = .ok (.getfield 41, 3) := by decide +kernel
theorem dX10_copyFrom_89 : decode cX10_copyFrom 89 = .ok (.invokevirtual 118, 3) := by decide +kernel
theorem dX10_copyFrom_92 : decode cX10_copyFrom 92 = .ok (.aload_n 0, 1) := by decide +kernel
theorem dX10_copyFrom_93 : decode cX10_copyFrom 93 = .ok (.getfield 48, 3) := by decide +kernel
theorem dX10_copyFrom_96 : decode cX10_copyFrom 96 = .ok (.aload_n 1, 1) := by decide +kernel
theorem dX10_copyFrom_97 : decode cX10_copyFrom 97 = .ok (.getfield 48, 3) := by decide +kernel
theorem dX10_copyFrom_100 : decode cX10_copyFrom 100 = .ok (.invokevirtual 121, 3) := by decide +kernel
theorem dX10_copyFrom_103 : decode cX10_copyFrom 103 = .ok (.iconst 0, 1) := by decide +kernel
theorem dX10_copyFrom_104 : decode cX10_copyFrom 104 = .ok (.istore_n 2, 1) := by decide +kernel
theorem dX10_copyFrom_105 : decode cX10_copyFrom 105 = .ok (.iload_n 2, 1) := by decide +kernel
theorem dX10_copyFrom_106 : decode cX10_copyFrom 106 = .ok (.iconst 4, 1) := by decide +kernel
theorem dX10_copyFrom_107 : decode cX10_copyFrom 107 = .ok (.if_icmp .ge 24, 3) := by decide +kernel
theorem dX10_copyFrom_110 : decode cX10_copyFrom 110 = .ok (.aload_n 0, 1) := by decide +kernel
theorem dX10_copyFrom_111 : decode cX10_copyFrom 111 = .ok (.getfield 11, 3) := by decide +kernel
theorem dX10_copyFrom_114 : decode cX10_copyFrom 114 = .ok (.iload_n 2, 1) := by decide +kernel
theorem dX10_copyFrom_115 : decode cX10_copyFrom 115 = .ok (.aaload, 1) := by decide +kernel
theorem dX10_copyFrom_116 : decode cX10_copyFrom 116 = .ok (.aload_n 1, 1) := by decide +kernel
theorem dX10_copyFrom_117 : decode cX10_copyFrom 117 = .ok (.getfield 11, 3) := by decide +kernel
theorem dX10_copyFrom_120 : decode cX10_copyFrom 120 = .ok (.iload_n 2, 1) := by decide +kernel
theorem dX10_copyFrom_121 : decode cX10_copyFrom 121 = .ok (.aaload, 1) := by decide +kernel
theorem dX10_copyFrom_122 : decode cX10_copyFrom 122 = .ok (.invokevirtual 124, 3) := by decide +kernel
theorem dX10_copyFrom_125 : decode cX10_copyFrom 125 = .ok (.iinc 2 1, 3) := by decide +kernel
theorem dX10_copyFrom_128 : decode cX10_copyFrom 128 = .ok (.goto (-23), 3) := by decide +kernel
theorem dX10_copyFrom_131 : decode cX10_copyFrom 131 = .ok (.return_, 1) := by decide +kernel
theorem dX10_isFinished_0 : decode cX10_isFinished 0 = .ok (.aload_n 0, 1) := by decide +kernel
theorem dX10_isFinished_1 : decode cX10_isFinished 1 = .ok (.getfield 70, 3) := by decide +kernel
theorem dX10_isFinished_4 : decode cX10_isFinished 4 = .ok (.aload_n 0, 1) := by decide +kernel
theorem dX10_isFinished_5 : decode cX10_isFinished 5 = .ok (.getfield 20, 3) := by decide +kernel
theorem dX10_isFinished_8 : decode cX10_isFinished 8 = .ok (.getfield 127, 3) := by decide +kernel
theorem dX10_isFinished_11 : decode cX10_isFinished 11 = .ok (.if_icmp .lt 7, 3) := by decide +kernel
theorem dX10_isFinished_14 : decode cX10_isFinished 14 = .ok (.iconst 1, 1) := by decide +kernel
theorem dX10_isFinished_15 : decode cX10_isFinished 15 = .ok (.goto 4, 3) := by decide +kernel
theorem dX10_isFinished_18 : decode cX10_isFinished 18 = .ok (.iconst 0, 1) := by decide +kernel
theorem dX10_isFinished_19 : decode cX10_isFinished 19 = .ok (.ireturn, 1) := by decide +kernel
theorem dX10_alive_0 : decode cX10_alive 0 = .ok (.iconst 0, 1) := by decide +kernel
theorem dX10_alive_1 : decode cX10_alive 1 = .ok (.istore_n 1, 1) := by decide +kernel
theorem dX10_alive_2 : decode cX10_alive 2 = .ok (.iconst 0, 1) := by decide +kernel
theorem dX10_alive_3 : decode cX10_alive 3 = .ok (.istore_n 2, 1) := by decide +kernel
theorem dX10_alive_4 : decode cX10_alive 4 = .ok (.iload_n 2, 1) := by decide +kernel
theorem dX10_alive_5 : decode cX10_alive 5 = .ok (.aload_n 0, 1) := by decide +kernel
theorem dX10_alive_6 : decode cX10_alive 6 = .ok (.getfield 58, 3) := by decide +kernel
theorem dX10_alive_9 : decode cX10_alive 9 = .ok (.getfield 102, 3) := by decide +kernel
theorem dX10_alive_12 : decode cX10_alive 12 = .ok (.if_icmp .ge 24, 3) := by decide +kernel
theorem dX10_alive_15 : decode cX10_alive 15 = .ok (.aload_n 0, 1) := by decide +kernel
theorem dX10_alive_16 : decode cX10_alive 16 = .ok (.getfield 11, 3) := by decide +kernel
theorem dX10_alive_19 : decode cX10_alive 19 = .ok (.iload_n 2, 1) := by decide +kernel
theorem dX10_alive_20 : decode cX10_alive 20 = .ok (.aaload, 1) := by decide +kernel
theorem dX10_alive_21 : decode cX10_alive 21 = .ok (.invokevirtual 130, 3) := by decide +kernel
theorem dX10_alive_24 : decode cX10_alive 24 = .ok (.ifCond .eq 6, 3) := by decide +kernel
theorem dX10_alive_27 : decode cX10_alive 27 = .ok (.iinc 1 1, 3) := by decide +kernel
theorem dX10_alive_30 : decode cX10_alive 30 = .ok (.iinc 2 1, 3) := by decide +kernel
theorem dX10_alive_33 : decode cX10_alive 33 = .ok (.goto (-29), 3) := by decide +kernel
theorem dX10_alive_36 : decode cX10_alive 36 = .ok (.iload_n 1, 1) := by decide +kernel
theorem dX10_alive_37 : decode cX10_alive 37 = .ok (.ireturn, 1) := by decide +kernel
theorem dX10_flying_0 : decode cX10_flying 0 = .ok (.iconst 0, 1) := by decide +kernel
theorem dX10_flying_1 : decode cX10_flying 1 = .ok (.istore_n 1, 1) := by decide +kernel
theorem dX10_flying_2 : decode cX10_flying 2 = .ok (.iconst 0, 1) := by decide +kernel
theorem dX10_flying_3 : decode cX10_flying 3 = .ok (.istore_n 2, 1) := by decide +kernel
theorem dX10_flying_4 : decode cX10_flying 4 = .ok (.iload_n 2, 1) := by decide +kernel
theorem dX10_flying_5 : decode cX10_flying 5 = .ok (.aload_n 0, 1) := by decide +kernel
theorem dX10_flying_6 : decode cX10_flying 6 = .ok (.getfield 58, 3) := by decide +kernel
theorem dX10_flying_9 : decode cX10_flying 9 = .ok (.getfield 102, 3) := by decide +kernel
theorem dX10_flying_12 : decode cX10_flying 12 = .ok (.if_icmp .ge 21, 3) := by decide +kernel
theorem dX10_flying_15 : decode cX10_flying 15 = .ok (.iload_n 1, 1) := by decide +kernel
theorem dX10_flying_16 : decode cX10_flying 16 = .ok (.aload_n 0, 1) := by decide +kernel
theorem dX10_flying_17 : decode cX10_flying 17 = .ok (.getfield 11, 3) := by decide +kernel
theorem dX10_flying_20 : decode cX10_flying 20 = .ok (.iload_n 2, 1) := by decide +kernel
theorem dX10_flying_21 : decode cX10_flying 21 = .ok (.aaload, 1) := by decide +kernel
theorem dX10_flying_22 : decode cX10_flying 22 = .ok (.getfield 134, 3) := by decide +kernel
theorem dX10_flying_25 : decode cX10_flying 25 = .ok (.iadd, 1) := by decide +kernel
theorem dX10_flying_26 : decode cX10_flying 26 = .ok (.istore_n 1, 1) := by decide +kernel
theorem dX10_flying_27 : decode cX10_flying 27 = .ok (.iinc 2 1, 3) := by decide +kernel
theorem dX10_flying_30 : decode cX10_flying 30 = .ok (.goto (-26), 3) := by decide +kernel
theorem dX10_flying_33 : decode cX10_flying 33 = .ok (.iload_n 1, 1) := by decide +kernel
theorem dX10_flying_34 : decode cX10_flying 34 = .ok (.ireturn, 1) := by decide +kernel
theorem dX10_waitOn_0 : decode cX10_waitOn 0 = .ok (.aload_n 0, 1) := by decide +kernel
theorem dX10_waitOn_1 : decode cX10_waitOn 1 = .ok (.getfield 11, 3) := by decide +kernel
theorem dX10_waitOn_4 : decode cX10_waitOn 4 = .ok (.iload_n 1, 1) := by decide +kernel
theorem dX10_waitOn_5 : decode cX10_waitOn 5 = .ok (.aaload, 1) := by decide +kernel
theorem dX10_waitOn_6 : decode cX10_waitOn 6 = .ok (.astore_n 2, 1) := by decide +kernel
theorem dX10_waitOn_7 : decode cX10_waitOn 7 = .ok (.iconst 4, 1) := by decide +kernel
theorem dX10_waitOn_8 : decode cX10_waitOn 8 = .ok (.aload_n 2, 1) := by decide +kernel
theorem dX10_waitOn_9 : decode cX10_waitOn 9 = .ok (.getfield 137, 3) := by decide +kernel
theorem dX10_waitOn_12 : decode cX10_waitOn 12 = .ok (.imul, 1) := by decide +kernel
theorem dX10_waitOn_13 : decode cX10_waitOn 13 = .ok (.iconst 2, 1) := by decide +kernel
theorem dX10_waitOn_14 : decode cX10_waitOn 14 = .ok (.iadd, 1) := by decide +kernel
theorem dX10_waitOn_15 : decode cX10_waitOn 15 = .ok (.istore_n 3, 1) := by decide +kernel
theorem dX10_waitOn_16 : decode cX10_waitOn 16 = .ok (.aload_n 0, 1) := by decide +kernel
theorem dX10_waitOn_17 : decode cX10_waitOn 17 = .ok (.getfield 58, 3) := by decide +kernel
theorem dX10_waitOn_20 : decode cX10_waitOn 20 = .ok (.getfield 139, 3) := by decide +kernel
theorem dX10_waitOn_23 : decode cX10_waitOn 23 = .ok (.invokevirtual 143, 3) := by decide +kernel
theorem dX10_waitOn_26 : decode cX10_waitOn 26 = .ok (.ifCond .eq 59, 3) := by decide +kernel
theorem dX10_waitOn_29 : decode cX10_waitOn 29 = .ok (.aload_n 0, 1) := by decide +kernel
theorem dX10_waitOn_30 : decode cX10_waitOn 30 = .ok (.getfield 54, 3) := by decide +kernel
theorem dX10_waitOn_33 : decode cX10_waitOn 33 = .ok (.iconst 0, 1) := by decide +kernel
theorem dX10_waitOn_34 : decode cX10_waitOn 34 = .ok (.aload_n 0, 1) := by decide +kernel
theorem dX10_waitOn_35 : decode cX10_waitOn 35 = .ok (.getfield 63, 3) := by decide +kernel
theorem dX10_waitOn_38 : decode cX10_waitOn 38 = .ok (.iastore, 1) := by decide +kernel
theorem dX10_waitOn_39 : decode cX10_waitOn 39 = .ok (.aload_n 0, 1) := by decide +kernel
theorem dX10_waitOn_40 : decode cX10_waitOn 40 = .ok (.getfield 54, 3) := by decide +kernel
theorem dX10_waitOn_43 : decode cX10_waitOn 43 = .ok (.iconst 4, 1) := by decide +kernel
theorem dX10_waitOn_44 : decode cX10_waitOn 44 = .ok (.aload_n 2, 1) := by decide +kernel
theorem dX10_waitOn_45 : decode cX10_waitOn 45 = .ok (.getfield 137, 3) := by decide +kernel
theorem dX10_waitOn_48 : decode cX10_waitOn 48 = .ok (.iastore, 1) := by decide +kernel
theorem dX10_waitOn_49 : decode cX10_waitOn 49 = .ok (.aload_n 0, 1) := by decide +kernel
theorem dX10_waitOn_50 : decode cX10_waitOn 50 = .ok (.getfield 54, 3) := by decide +kernel
theorem dX10_waitOn_53 : decode cX10_waitOn 53 = .ok (.iconst 5, 1) := by decide +kernel
theorem dX10_waitOn_54 : decode cX10_waitOn 54 = .ok (.aload_n 2, 1) := by decide +kernel
theorem dX10_waitOn_55 : decode cX10_waitOn 55 = .ok (.getfield 146, 3) := by decide +kernel
theorem dX10_waitOn_58 : decode cX10_waitOn 58 = .ok (.iastore, 1) := by decide +kernel
theorem dX10_waitOn_59 : decode cX10_waitOn 59 = .ok (.aload_n 0, 1) := by decide +kernel
theorem dX10_waitOn_60 : decode cX10_waitOn 60 = .ok (.getfield 54, 3) := by decide +kernel
theorem dX10_waitOn_63 : decode cX10_waitOn 63 = .ok (.bipush 7, 2) := by decide +kernel
theorem dX10_waitOn_65 : decode cX10_waitOn 65 = .ok (.aload_n 2, 1) := by decide +kernel
theorem dX10_waitOn_66 : decode cX10_waitOn 66 = .ok (.getfield 149, 3) := by decide +kernel
theorem dX10_waitOn_69 : decode cX10_waitOn 69 = .ok (.iastore, 1) := by decide +kernel
theorem dX10_waitOn_70 : decode cX10_waitOn 70 = .ok (.aload_n 0, 1) := by decide +kernel
theorem dX10_waitOn_71 : decode cX10_waitOn 71 = .ok (.getfield 58, 3) := by decide +kernel
theorem dX10_waitOn_74 : decode cX10_waitOn 74 = .ok (.getfield 139, 3) := by decide +kernel
theorem dX10_waitOn_77 : decode cX10_waitOn 77 = .ok (.aload_n 0, 1) := by decide +kernel
theorem dX10_waitOn_78 : decode cX10_waitOn 78 = .ok (.getfield 54, 3) := by decide +kernel
theorem dX10_waitOn_81 : decode cX10_waitOn 81 = .ok (.invokevirtual 152, 3) := by decide +kernel
theorem dX10_waitOn_84 : decode cX10_waitOn 84 = .ok (.istore_n 3, 1) := by decide +kernel
theorem dX10_waitOn_85 : decode cX10_waitOn 85 = .ok (.iconst 1, 1) := by decide +kernel
theorem dX10_waitOn_86 : decode cX10_waitOn 86 = .ok (.bipush 99, 2) := by decide +kernel
theorem dX10_waitOn_88 : decode cX10_waitOn 88 = .ok (.iload_n 3, 1) := by decide +kernel
theorem dX10_waitOn_89 : decode cX10_waitOn 89 = .ok (.invokestatic 156, 3) := by decide +kernel
theorem dX10_waitOn_92 : decode cX10_waitOn 92 = .ok (.invokestatic 162, 3) := by decide +kernel
theorem dX10_waitOn_95 : decode cX10_waitOn 95 = .ok (.ireturn, 1) := by decide +kernel
theorem dX10_tryToken_0 : decode cX10_tryToken 0 = .ok (.aload_n 0, 1) := by decide +kernel
theorem dX10_tryToken_1 : decode cX10_tryToken 1 = .ok (.getfield 11, 3) := by decide +kernel
theorem dX10_tryToken_4 : decode cX10_tryToken 4 = .ok (.iload_n 1, 1) := by decide +kernel
theorem dX10_tryToken_5 : decode cX10_tryToken 5 = .ok (.aaload, 1) := by decide +kernel
theorem dX10_tryToken_6 : decode cX10_tryToken 6 = .ok (.invokevirtual 165, 3) := by decide +kernel
theorem dX10_tryToken_9 : decode cX10_tryToken 9 = .ok (.ifCond .eq 25, 3) := by decide +kernel
theorem dX10_tryToken_12 : decode cX10_tryToken 12 = .ok (.iload_n 2, 1) := by decide +kernel
theorem dX10_tryToken_13 : decode cX10_tryToken 13 = .ok (.aload_n 0, 1) := by decide +kernel
theorem dX10_tryToken_14 : decode cX10_tryToken 14 = .ok (.getfield 58, 3) := by decide +kernel
theorem dX10_tryToken_17 : decode cX10_tryToken 17 = .ok (.invokevirtual 168, 3) := by decide +kernel
theorem dX10_tryToken_20 : decode cX10_tryToken 20 = .ok (.if_icmp .ne 14, 3) := by decide +kernel
theorem dX10_tryToken_23 : decode cX10_tryToken 23 = .ok (.aload_n 0, 1) := by decide +kernel
theorem dX10_tryToken_24 : decode cX10_tryToken 24 = .ok (.getfield 11, 3) := by decide +kernel
theorem dX10_tryToken_27 : decode cX10_tryToken 27 = .ok (.iload_n 1, 1) := by decide +kernel
theorem dX10_tryToken_28 : decode cX10_tryToken 28 = .ok (.aaload, 1) := by decide +kernel
theorem dX10_tryToken_29 : decode cX10_tryToken 29 = .ok (.invokevirtual 105, 3) := by decide +kernel
theorem dX10_tryToken_32 : decode cX10_tryToken 32 = .ok (.iconst 1, 1) := by decide +kernel
theorem dX10_tryToken_33 : decode cX10_tryToken 33 = .ok (.ireturn, 1) := by decide +kernel
theorem dX10_tryToken_34 : decode cX10_tryToken 34 = .ok (.aload_n 0, 1) := by decide +kernel
theorem dX10_tryToken_35 : decode cX10_tryToken 35 = .ok (.getfield 20, 3) := by decide +kernel
theorem dX10_tryToken_38 : decode cX10_tryToken 38 = .ok (.getfield 172, 3) := by decide +kernel
theorem dX10_tryToken_41 : decode cX10_tryToken 41 = .ok (.iconst 0, 1) := by decide +kernel
theorem dX10_tryToken_42 : decode cX10_tryToken 42 = .ok (.dup2, 1) := by decide +kernel
theorem dX10_tryToken_43 : decode cX10_tryToken 43 = .ok (.iaload, 1) := by decide +kernel
theorem dX10_tryToken_44 : decode cX10_tryToken 44 = .ok (.iconst 1, 1) := by decide +kernel
theorem dX10_tryToken_45 : decode cX10_tryToken 45 = .ok (.iadd, 1) := by decide +kernel
theorem dX10_tryToken_46 : decode cX10_tryToken 46 = .ok (.iastore, 1) := by decide +kernel
theorem dX10_tryToken_47 : decode cX10_tryToken 47 = .ok (.iconst 0, 1) := by decide +kernel
theorem dX10_tryToken_48 : decode cX10_tryToken 48 = .ok (.ireturn, 1) := by decide +kernel
theorem dX10_bury_0 : decode cX10_bury 0 = .ok (.aload_n 0, 1) := by decide +kernel
theorem dX10_bury_1 : decode cX10_bury 1 = .ok (.getfield 11, 3) := by decide +kernel
theorem dX10_bury_4 : decode cX10_bury 4 = .ok (.iload_n 1, 1) := by decide +kernel
theorem dX10_bury_5 : decode cX10_bury 5 = .ok (.aaload, 1) := by decide +kernel
theorem dX10_bury_6 : decode cX10_bury 6 = .ok (.astore_n 2, 1) := by decide +kernel
theorem dX10_bury_7 : decode cX10_bury 7 = .ok (.aload_n 2, 1) := by decide +kernel
theorem dX10_bury_8 : decode cX10_bury 8 = .ok (.getfield 175, 3) := by decide +kernel
theorem dX10_bury_11 : decode cX10_bury 11 = .ok (.ifCond .eq 4, 3) := by decide +kernel
theorem dX10_bury_14 : decode cX10_bury 14 = .ok (.return_, 1) := by decide +kernel
theorem dX10_bury_15 : decode cX10_bury 15 = .ok (.aload_n 2, 1) := by decide +kernel
theorem dX10_bury_16 : decode cX10_bury 16 = .ok (.iconst 1, 1) := by decide +kernel
theorem dX10_bury_17 : decode cX10_bury 17 = .ok (.putfield 175, 3) := by decide +kernel
theorem dX10_bury_20 : decode cX10_bury 20 = .ok (.aload_n 0, 1) := by decide +kernel
theorem dX10_bury_21 : decode cX10_bury 21 = .ok (.getfield 48, 3) := by decide +kernel
theorem dX10_bury_24 : decode cX10_bury 24 = .ok (.iconst 2, 1) := by decide +kernel
theorem dX10_bury_25 : decode cX10_bury 25 = .ok (.iload_n 1, 1) := by decide +kernel
theorem dX10_bury_26 : decode cX10_bury 26 = .ok (.aload_n 0, 1) := by decide +kernel
theorem dX10_bury_27 : decode cX10_bury 27 = .ok (.getfield 63, 3) := by decide +kernel
theorem dX10_bury_30 : decode cX10_bury 30 = .ok (.invokevirtual 179, 3) := by decide +kernel
theorem dX10_bury_33 : decode cX10_bury 33 = .ok (.iconst 0, 1) := by decide +kernel
theorem dX10_bury_34 : decode cX10_bury 34 = .ok (.istore_n 3, 1) := by decide +kernel
theorem dX10_bury_35 : decode cX10_bury 35 = .ok (.iload_n 3, 1) := by decide +kernel
theorem dX10_bury_36 : decode cX10_bury 36 = .ok (.aload_n 0, 1) := by decide +kernel
theorem dX10_bury_37 : decode cX10_bury 37 = .ok (.getfield 27, 3) := by decide +kernel
theorem dX10_bury_40 : decode cX10_bury 40 = .ok (.getfield 88, 3) := by decide +kernel
theorem dX10_bury_43 : decode cX10_bury 43 = .ok (.if_icmp .ge 39, 3) := by decide +kernel
theorem dX10_bury_46 : decode cX10_bury 46 = .ok (.aload_n 0, 1) := by decide +kernel
theorem dX10_bury_47 : decode cX10_bury 47 = .ok (.getfield 27, 3) := by decide +kernel
theorem dX10_bury_50 : decode cX10_bury 50 = .ok (.getfield 183, 3) := by decide +kernel
theorem dX10_bury_53 : decode cX10_bury 53 = .ok (.iload_n 3, 1) := by decide +kernel
theorem dX10_bury_54 : decode cX10_bury 54 = .ok (.baload, 1) := by decide +kernel
theorem dX10_bury_55 : decode cX10_bury 55 = .ok (.ifCond .eq 21, 3) := by decide +kernel
theorem dX10_bury_58 : decode cX10_bury 58 = .ok (.aload_n 0, 1) := by decide +kernel
theorem dX10_bury_59 : decode cX10_bury 59 = .ok (.getfield 27, 3) := by decide +kernel
theorem dX10_bury_62 : decode cX10_bury 62 = .ok (.getfield 187, 3) := by decide +kernel
theorem dX10_bury_65 : decode cX10_bury 65 = .ok (.iload_n 3, 1) := by decide +kernel
theorem dX10_bury_66 : decode cX10_bury 66 = .ok (.iaload, 1) := by decide +kernel
theorem dX10_bury_67 : decode cX10_bury 67 = .ok (.iload_n 1, 1) := by decide +kernel
theorem dX10_bury_68 : decode cX10_bury 68 = .ok (.if_icmp .ne 8, 3) := by decide +kernel
theorem dX10_bury_71 : decode cX10_bury 71 = .ok (.aload_n 0, 1) := by decide +kernel
theorem dX10_bury_72 : decode cX10_bury 72 = .ok (.iload_n 3, 1) := by decide +kernel
theorem dX10_bury_73 : decode cX10_bury 73 = .ok (.invokevirtual 190, 3) := by decide +kernel
theorem dX10_bury_76 : decode cX10_bury 76 = .ok (.iinc 3 1, 3) := by decide +kernel
theorem dX10_bury_79 : decode cX10_bury 79 = .ok (.goto (-44), 3) := by decide +kernel
theorem dX10_bury_82 : decode cX10_bury 82 = .ok (.return_, 1) := by decide +kernel
theorem dX10_sendAgain_0 : decode cX10_sendAgain 0 = .ok (.aload_n 0, 1) := by decide +kernel
theorem dX10_sendAgain_1 : decode cX10_sendAgain 1 = .ok (.getfield 27, 3) := by decide +kernel
theorem dX10_sendAgain_4 : decode cX10_sendAgain 4 = .ok (.getfield 183, 3) := by decide +kernel
theorem dX10_sendAgain_7 : decode cX10_sendAgain 7 = .ok (.iload_n 1, 1) := by decide +kernel
theorem dX10_sendAgain_8 : decode cX10_sendAgain 8 = .ok (.iconst 0, 1) := by decide +kernel
theorem dX10_sendAgain_9 : decode cX10_sendAgain 9 = .ok (.bastore, 1) := by decide +kernel
theorem dX10_sendAgain_10 : decode cX10_sendAgain 10 = .ok (.aload_n 0, 1) := by decide +kernel
theorem dX10_sendAgain_11 : decode cX10_sendAgain 11 = .ok (.getfield 11, 3) := by decide +kernel
theorem dX10_sendAgain_14 : decode cX10_sendAgain 14 = .ok (.aload_n 0, 1) := by decide +kernel
theorem dX10_sendAgain_15 : decode cX10_sendAgain 15 = .ok (.getfield 27, 3) := by decide +kernel
theorem dX10_sendAgain_18 : decode cX10_sendAgain 18 = .ok (.getfield 187, 3) := by decide +kernel
theorem dX10_sendAgain_21 : decode cX10_sendAgain 21 = .ok (.iload_n 1, 1) := by decide +kernel
theorem dX10_sendAgain_22 : decode cX10_sendAgain 22 = .ok (.iaload, 1) := by decide +kernel
theorem dX10_sendAgain_23 : decode cX10_sendAgain 23 = .ok (.aaload, 1) := by decide +kernel
theorem dX10_sendAgain_24 : decode cX10_sendAgain 24 = .ok (.dup, 1) := by decide +kernel
theorem dX10_sendAgain_25 : decode cX10_sendAgain 25 = .ok (.getfield 134, 3) := by decide +kernel
theorem dX10_sendAgain_28 : decode cX10_sendAgain 28 = .ok (.iconst 1, 1) := by decide +kernel
theorem dX10_sendAgain_29 : decode cX10_sendAgain 29 = .ok (.isub, 1) := by decide +kernel
theorem dX10_sendAgain_30 : decode cX10_sendAgain 30 = .ok (.putfield 134, 3) := by decide +kernel
theorem dX10_sendAgain_33 : decode cX10_sendAgain 33 = .ok (.aload_n 0, 1) := by decide +kernel
theorem dX10_sendAgain_34 : decode cX10_sendAgain 34 = .ok (.getfield 41, 3) := by decide +kernel
theorem dX10_sendAgain_37 : decode cX10_sendAgain 37 = .ok (.aload_n 0, 1) := by decide +kernel
theorem dX10_sendAgain_38 : decode cX10_sendAgain 38 = .ok (.getfield 27, 3) := by decide +kernel
theorem dX10_sendAgain_41 : decode cX10_sendAgain 41 = .ok (.getfield 193, 3) := by decide +kernel
theorem dX10_sendAgain_44 : decode cX10_sendAgain 44 = .ok (.iload_n 1, 1) := by decide +kernel
theorem dX10_sendAgain_45 : decode cX10_sendAgain 45 = .ok (.iaload, 1) := by decide +kernel
theorem dX10_sendAgain_46 : decode cX10_sendAgain 46 = .ok (.aload_n 0, 1) := by decide +kernel
theorem dX10_sendAgain_47 : decode cX10_sendAgain 47 = .ok (.getfield 27, 3) := by decide +kernel
theorem dX10_sendAgain_50 : decode cX10_sendAgain 50 = .ok (.getfield 196, 3) := by decide +kernel
theorem dX10_sendAgain_53 : decode cX10_sendAgain 53 = .ok (.iload_n 1, 1) := by decide +kernel
theorem dX10_sendAgain_54 : decode cX10_sendAgain 54 = .ok (.iaload, 1) := by decide +kernel
theorem dX10_sendAgain_55 : decode cX10_sendAgain 55 = .ok (.invokevirtual 199, 3) := by decide +kernel
theorem dX10_sendAgain_58 : decode cX10_sendAgain 58 = .ok (.return_, 1) := by decide +kernel
theorem dX10_step_0 : decode cX10_step 0 = .ok (.aload_n 0, 1) := by decide +kernel
theorem dX10_step_1 : decode cX10_step 1 = .ok (.iconst 0, 1) := by decide +kernel
theorem dX10_step_2 : decode cX10_step 2 = .ok (.putfield 202, 3) := by decide +kernel
theorem dX10_step_5 : decode cX10_step 5 = .ok (.aload_n 0, 1) := by decide +kernel
theorem dX10_step_6 : decode cX10_step 6 = .ok (.iconst 0, 1) := by decide +kernel
theorem dX10_step_7 : decode cX10_step 7 = .ok (.putfield 205, 3) := by decide +kernel
theorem dX10_step_10 : decode cX10_step 10 = .ok (.aload_n 0, 1) := by decide +kernel
theorem dX10_step_11 : decode cX10_step 11 = .ok (.iconst 0, 1) := by decide +kernel
theorem dX10_step_12 : decode cX10_step 12 = .ok (.putfield 208, 3) := by decide +kernel
theorem dX10_step_15 : decode cX10_step 15 = .ok (.aload_n 0, 1) := by decide +kernel
theorem dX10_step_16 : decode cX10_step 16 = .ok (.invokevirtual 211, 3) := by decide +kernel
theorem dX10_step_19 : decode cX10_step 19 = .ok (.aload_n 0, 1) := by decide +kernel
theorem dX10_step_20 : decode cX10_step 20 = .ok (.invokevirtual 214, 3) := by decide +kernel
theorem dX10_step_23 : decode cX10_step 23 = .ok (.aload_n 0, 1) := by decide +kernel
theorem dX10_step_24 : decode cX10_step 24 = .ok (.invokevirtual 217, 3) := by decide +kernel
theorem dX10_step_27 : decode cX10_step 27 = .ok (.aload_n 0, 1) := by decide +kernel
theorem dX10_step_28 : decode cX10_step 28 = .ok (.getfield 34, 3) := by decide +kernel
theorem dX10_step_31 : decode cX10_step 31 = .ok (.aload_n 0, 1) := by decide +kernel
theorem dX10_step_32 : decode cX10_step 32 = .ok (.getfield 63, 3) := by decide +kernel
theorem dX10_step_35 : decode cX10_step 35 = .ok (.invokevirtual 220, 3) := by decide +kernel
theorem dX10_step_38 : decode cX10_step 38 = .ok (.iconst 0, 1) := by decide +kernel
theorem dX10_step_39 : decode cX10_step 39 = .ok (.istore_n 2, 1) := by decide +kernel
theorem dX10_step_40 : decode cX10_step 40 = .ok (.iload_n 2, 1) := by decide +kernel
theorem dX10_step_41 : decode cX10_step 41 = .ok (.aload_n 0, 1) := by decide +kernel
theorem dX10_step_42 : decode cX10_step 42 = .ok (.getfield 58, 3) := by decide +kernel
theorem dX10_step_45 : decode cX10_step 45 = .ok (.getfield 102, 3) := by decide +kernel
theorem dX10_step_48 : decode cX10_step 48 = .ok (.if_icmp .ge 14, 3) := by decide +kernel
theorem dX10_step_51 : decode cX10_step 51 = .ok (.aload_n 0, 1) := by decide +kernel
theorem dX10_step_52 : decode cX10_step 52 = .ok (.iload_n 2, 1) := by decide +kernel
theorem dX10_step_53 : decode cX10_step 53 = .ok (.invokevirtual 223, 3) := by decide +kernel
theorem dX10_step_56 : decode cX10_step 56 = .ok (.iinc 2 1, 3) := by decide +kernel
theorem dX10_step_59 : decode cX10_step 59 = .ok (.goto (-19), 3) := by decide +kernel
theorem dX10_step_62 : decode cX10_step 62 = .ok (.aload_n 0, 1) := by decide +kernel
theorem dX10_step_63 : decode cX10_step 63 = .ok (.getfield 27, 3) := by decide +kernel
theorem dX10_step_66 : decode cX10_step 66 = .ok (.aload_n 0, 1) := by decide +kernel
theorem dX10_step_67 : decode cX10_step 67 = .ok (.getfield 63, 3) := by decide +kernel
theorem dX10_step_70 : decode cX10_step 70 = .ok (.invokevirtual 226, 3) := by decide +kernel
theorem dX10_step_73 : decode cX10_step 73 = .ok (.aload_n 0, 1) := by decide +kernel
theorem dX10_step_74 : decode cX10_step 74 = .ok (.aload_n 1, 1) := by decide +kernel
theorem dX10_step_75 : decode cX10_step 75 = .ok (.invokevirtual 227, 3) := by decide +kernel
theorem dX10_step_78 : decode cX10_step 78 = .ok (.ifCond .eq 8, 3) := by decide +kernel
theorem dX10_step_81 : decode cX10_step 81 = .ok (.aload_n 0, 1) := by decide +kernel
theorem dX10_step_82 : decode cX10_step 82 = .ok (.aload_n 1, 1) := by decide +kernel
theorem dX10_step_83 : decode cX10_step 83 = .ok (.invokevirtual 231, 3) := by decide +kernel
theorem dX10_step_86 : decode cX10_step 86 = .ok (.aload_n 0, 1) := by decide +kernel
theorem dX10_step_87 : decode cX10_step 87 = .ok (.dup, 1) := by decide +kernel
theorem dX10_step_88 : decode cX10_step 88 = .ok (.getfield 63, 3) := by decide +kernel
theorem dX10_step_91 : decode cX10_step 91 = .ok (.iconst 1, 1) := by decide +kernel
theorem dX10_step_92 : decode cX10_step 92 = .ok (.iadd, 1) := by decide +kernel
theorem dX10_step_93 : decode cX10_step 93 = .ok (.putfield 63, 3) := by decide +kernel
theorem dX10_step_96 : decode cX10_step 96 = .ok (.return_, 1) := by decide +kernel
theorem dX10_joinTold_0 : decode cX10_joinTold 0 = .ok (.iconst 0, 1) := by decide +kernel
theorem dX10_joinTold_1 : decode cX10_joinTold 1 = .ok (.istore_n 1, 1) := by decide +kernel
theorem dX10_joinTold_2 : decode cX10_joinTold 2 = .ok (.iload_n 1, 1) := by decide +kernel
theorem dX10_joinTold_3 : decode cX10_joinTold 3 = .ok (.aload_n 0, 1) := by decide +kernel
theorem dX10_joinTold_4 : decode cX10_joinTold 4 = .ok (.getfield 58, 3) := by decide +kernel
theorem dX10_joinTold_7 : decode cX10_joinTold 7 = .ok (.getfield 102, 3) := by decide +kernel
theorem dX10_joinTold_10 : decode cX10_joinTold 10 = .ok (.if_icmp .ge 40, 3) := by decide +kernel
theorem dX10_joinTold_13 : decode cX10_joinTold 13 = .ok (.aload_n 0, 1) := by decide +kernel
theorem dX10_joinTold_14 : decode cX10_joinTold 14 = .ok (.getfield 58, 3) := by decide +kernel
theorem dX10_joinTold_17 : decode cX10_joinTold 17 = .ok (.getfield 235, 3) := by decide +kernel
theorem dX10_joinTold_20 : decode cX10_joinTold 20 = .ok (.iload_n 1, 1) := by decide +kernel
theorem dX10_joinTold_21 : decode cX10_joinTold 21 = .ok (.iaload, 1) := by decide +kernel
theorem dX10_joinTold_22 : decode cX10_joinTold 22 = .ok (.aload_n 0, 1) := by decide +kernel
theorem dX10_joinTold_23 : decode cX10_joinTold 23 = .ok (.getfield 63, 3) := by decide +kernel
theorem dX10_joinTold_26 : decode cX10_joinTold 26 = .ok (.if_icmp .ne 18, 3) := by decide +kernel
theorem dX10_joinTold_29 : decode cX10_joinTold 29 = .ok (.aload_n 0, 1) := by decide +kernel
theorem dX10_joinTold_30 : decode cX10_joinTold 30 = .ok (.iload_n 1, 1) := by decide +kernel
theorem dX10_joinTold_31 : decode cX10_joinTold 31 = .ok (.aload_n 0, 1) := by decide +kernel
theorem dX10_joinTold_32 : decode cX10_joinTold 32 = .ok (.getfield 58, 3) := by decide +kernel
theorem dX10_joinTold_35 : decode cX10_joinTold 35 = .ok (.getfield 238, 3) := by decide +kernel
theorem dX10_joinTold_38 : decode cX10_joinTold 38 = .ok (.iload_n 1, 1) := by decide +kernel
theorem dX10_joinTold_39 : decode cX10_joinTold 39 = .ok (.iaload, 1) := by decide +kernel
theorem dX10_joinTold_40 : decode cX10_joinTold 40 = .ok (.invokevirtual 241, 3) := by decide +kernel
theorem dX10_joinTold_43 : decode cX10_joinTold 43 = .ok (.pop, 1) := by decide +kernel
theorem dX10_joinTold_44 : decode cX10_joinTold 44 = .ok (.iinc 1 1, 3) := by decide +kernel
theorem dX10_joinTold_47 : decode cX10_joinTold 47 = .ok (.goto (-45), 3) := by decide +kernel
theorem dX10_joinTold_50 : decode cX10_joinTold 50 = .ok (.return_, 1) := by decide +kernel
theorem dX10_hearAnswers_0 : decode cX10_hearAnswers 0 = .ok (.iconst 0, 1) := by decide +kernel
theorem dX10_hearAnswers_1 : decode cX10_hearAnswers 1 = .ok (.istore_n 1, 1) := by decide +kernel
theorem dX10_hearAnswers_2 : decode cX10_hearAnswers 2 = .ok (.iload_n 1, 1) := by decide +kernel
theorem dX10_hearAnswers_3 : decode cX10_hearAnswers 3 = .ok (.aload_n 0, 1) := by decide +kernel
theorem dX10_hearAnswers_4 : decode cX10_hearAnswers 4 = .ok (.getfield 34, 3) := by decide +kernel
theorem dX10_hearAnswers_7 : decode cX10_hearAnswers 7 = .ok (.getfield 91, 3) := by decide +kernel
theorem dX10_hearAnswers_10 : decode cX10_hearAnswers 10 = .ok (.if_icmp .ge 101, 3) := by decide +kernel
theorem dX10_hearAnswers_13 : decode cX10_hearAnswers 13 = .ok (.aload_n 0, 1) := by decide +kernel
theorem dX10_hearAnswers_14 : decode cX10_hearAnswers 14 = .ok (.getfield 34, 3) := by decide +kernel
theorem dX10_hearAnswers_17 : decode cX10_hearAnswers 17 = .ok (.getfield 245, 3) := by decide +kernel
theorem dX10_hearAnswers_20 : decode cX10_hearAnswers 20 = .ok (.iload_n 1, 1) := by decide +kernel
theorem dX10_hearAnswers_21 : decode cX10_hearAnswers 21 = .ok (.iaload, 1) := by decide +kernel
theorem dX10_hearAnswers_22 : decode cX10_hearAnswers 22 = .ok (.aload_n 0, 1) := by decide +kernel
theorem dX10_hearAnswers_23 : decode cX10_hearAnswers 23 = .ok (.getfield 63, 3) := by decide +kernel
theorem dX10_hearAnswers_26 : decode cX10_hearAnswers 26 = .ok (.if_icmp .ne 79, 3) := by decide +kernel
theorem dX10_hearAnswers_29 : decode cX10_hearAnswers 29 = .ok (.aload_n 0, 1) := by decide +kernel
theorem dX10_hearAnswers_30 : decode cX10_hearAnswers 30 = .ok (.aload_n 0, 1) := by decide +kernel
theorem dX10_hearAnswers_31 : decode cX10_hearAnswers 31 = .ok (.getfield 70, 3) := by decide +kernel
theorem dX10_hearAnswers_34 : decode cX10_hearAnswers 34 = .ok (.aload_n 0, 1) := by decide +kernel
theorem dX10_hearAnswers_35 : decode cX10_hearAnswers 35 = .ok (.getfield 34, 3) := by decide +kernel
theorem dX10_hearAnswers_38 : decode cX10_hearAnswers 38 = .ok (.getfield 248, 3) := by decide +kernel
theorem dX10_hearAnswers_41 : decode cX10_hearAnswers 41 = .ok (.iload_n 1, 1) := by decide +kernel
theorem dX10_hearAnswers_42 : decode cX10_hearAnswers 42 = .ok (.iaload, 1) := by decide +kernel
theorem dX10_hearAnswers_43 : decode cX10_hearAnswers 43 = .ok (.invokestatic 162, 3) := by decide +kernel
theorem dX10_hearAnswers_46 : decode cX10_hearAnswers 46 = .ok (.putfield 70, 3) := by decide +kernel
theorem dX10_hearAnswers_49 : decode cX10_hearAnswers 49 = .ok (.aload_n 0, 1) := by decide +kernel
theorem dX10_hearAnswers_50 : decode cX10_hearAnswers 50 = .ok (.aload_n 0, 1) := by decide +kernel
theorem dX10_hearAnswers_51 : decode cX10_hearAnswers 51 = .ok (.getfield 78, 3) := by decide +kernel
theorem dX10_hearAnswers_54 : decode cX10_hearAnswers 54 = .ok (.aload_n 0, 1) := by decide +kernel
theorem dX10_hearAnswers_55 : decode cX10_hearAnswers 55 = .ok (.getfield 34, 3) := by decide +kernel
theorem dX10_hearAnswers_58 : decode cX10_hearAnswers 58 = .ok (.getfield 250, 3) := by decide +kernel
theorem dX10_hearAnswers_61 : decode cX10_hearAnswers 61 = .ok (.iload_n 1, 1) := by decide +kernel
theorem dX10_hearAnswers_62 : decode cX10_hearAnswers 62 = .ok (.iaload, 1) := by decide +kernel
theorem dX10_hearAnswers_63 : decode cX10_hearAnswers 63 = .ok (.invokestatic 162, 3) := by decide +kernel
theorem dX10_hearAnswers_66 : decode cX10_hearAnswers 66 = .ok (.putfield 78, 3) := by decide +kernel
theorem dX10_hearAnswers_69 : decode cX10_hearAnswers 69 = .ok (.aload_n 0, 1) := by decide +kernel
theorem dX10_hearAnswers_70 : decode cX10_hearAnswers 70 = .ok (.getfield 27, 3) := by decide +kernel
theorem dX10_hearAnswers_73 : decode cX10_hearAnswers 73 = .ok (.aload_n 0, 1) := by decide +kernel
theorem dX10_hearAnswers_74 : decode cX10_hearAnswers 74 = .ok (.getfield 34, 3) := by decide +kernel
theorem dX10_hearAnswers_77 : decode cX10_hearAnswers 77 = .ok (.getfield 252, 3) := by decide +kernel
theorem dX10_hearAnswers_80 : decode cX10_hearAnswers 80 = .ok (.iload_n 1, 1) := by decide +kernel
theorem dX10_hearAnswers_81 : decode cX10_hearAnswers 81 = .ok (.iaload, 1) := by decide +kernel
theorem dX10_hearAnswers_82 : decode cX10_hearAnswers 82 = .ok (.aload_n 0, 1) := by decide +kernel
theorem dX10_hearAnswers_83 : decode cX10_hearAnswers 83 = .ok (.getfield 34, 3) := by decide +kernel
theorem dX10_hearAnswers_86 : decode cX10_hearAnswers 86 = .ok (.getfield 253, 3) := by decide +kernel
theorem dX10_hearAnswers_89 : decode cX10_hearAnswers 89 = .ok (.iload_n 1, 1) := by decide +kernel
theorem dX10_hearAnswers_90 : decode cX10_hearAnswers 90 = .ok (.iaload, 1) := by decide +kernel
theorem dX10_hearAnswers_91 : decode cX10_hearAnswers 91 = .ok (.invokevirtual 256, 3) := by decide +kernel
theorem dX10_hearAnswers_94 : decode cX10_hearAnswers 94 = .ok (.istore_n 2, 1) := by decide +kernel
theorem dX10_hearAnswers_95 : decode cX10_hearAnswers 95 = .ok (.iload_n 2, 1) := by decide +kernel
theorem dX10_hearAnswers_96 : decode cX10_hearAnswers 96 = .ok (.iconst (-1), 1) := by decide +kernel
theorem dX10_hearAnswers_97 : decode cX10_hearAnswers 97 = .ok (.if_icmp .eq 8, 3) := by decide +kernel
theorem dX10_hearAnswers_100 : decode cX10_hearAnswers 100 = .ok (.aload_n 0, 1) := by decide +kernel
theorem dX10_hearAnswers_101 : decode cX10_hearAnswers 101 = .ok (.iload_n 2, 1) := by decide +kernel
theorem dX10_hearAnswers_102 : decode cX10_hearAnswers 102 = .ok (.invokevirtual 259, 3) := by decide +kernel
theorem dX10_hearAnswers_105 : decode cX10_hearAnswers 105 = .ok (.iinc 1 1, 3) := by decide +kernel
theorem dX10_hearAnswers_108 : decode cX10_hearAnswers 108 = .ok (.goto (-106), 3) := by decide +kernel
theorem dX10_hearAnswers_111 : decode cX10_hearAnswers 111 = .ok (.return_, 1) := by decide +kernel
theorem dX10_settle_0 : decode cX10_settle 0 = .ok (.aload_n 0, 1) := by decide +kernel
theorem dX10_settle_1 : decode cX10_settle 1 = .ok (.getfield 11, 3) := by decide +kernel
theorem dX10_settle_4 : decode cX10_settle 4 = .ok (.aload_n 0, 1) := by decide +kernel
theorem dX10_settle_5 : decode cX10_settle 5 = .ok (.getfield 27, 3) := by decide +kernel
theorem dX10_settle_8 : decode cX10_settle 8 = .ok (.getfield 187, 3) := by decide +kernel
theorem dX10_settle_11 : decode cX10_settle 11 = .ok (.iload_n 1, 1) := by decide +kernel
theorem dX10_settle_12 : decode cX10_settle 12 = .ok (.iaload, 1) := by decide +kernel
theorem dX10_settle_13 : decode cX10_settle 13 = .ok (.aaload, 1) := by decide +kernel
theorem dX10_settle_14 : decode cX10_settle 14 = .ok (.astore_n 2, 1) := by decide +kernel
theorem dX10_settle_15 : decode cX10_settle 15 = .ok (.aload_n 0, 1) := by decide +kernel
theorem dX10_settle_16 : decode cX10_settle 16 = .ok (.getfield 27, 3) := by decide +kernel
theorem dX10_settle_19 : decode cX10_settle 19 = .ok (.getfield 183, 3) := by decide +kernel
theorem dX10_settle_22 : decode cX10_settle 22 = .ok (.iload_n 1, 1) := by decide +kernel
theorem dX10_settle_23 : decode cX10_settle 23 = .ok (.iconst 0, 1) := by decide +kernel
theorem dX10_settle_24 : decode cX10_settle 24 = .ok (.bastore, 1) := by decide +kernel
theorem dX10_settle_25 : decode cX10_settle 25 = .ok (.aload_n 2, 1) := by decide +kernel
theorem dX10_settle_26 : decode cX10_settle 26 = .ok (.dup, 1) := by decide +kernel
theorem dX10_settle_27 : decode cX10_settle 27 = .ok (.getfield 134, 3) := by decide +kernel
theorem dX10_settle_30 : decode cX10_settle 30 = .ok (.iconst 1, 1) := by decide +kernel
theorem dX10_settle_31 : decode cX10_settle 31 = .ok (.isub, 1) := by decide +kernel
theorem dX10_settle_32 : decode cX10_settle 32 = .ok (.putfield 134, 3) := by decide +kernel
theorem dX10_settle_35 : decode cX10_settle 35 = .ok (.aload_n 2, 1) := by decide +kernel
theorem dX10_settle_36 : decode cX10_settle 36 = .ok (.iconst 0, 1) := by decide +kernel
theorem dX10_settle_37 : decode cX10_settle 37 = .ok (.putfield 149, 3) := by decide +kernel
theorem dX10_settle_40 : decode cX10_settle 40 = .ok (.iconst 0, 1) := by decide +kernel
theorem dX10_settle_41 : decode cX10_settle 41 = .ok (.istore_n 3, 1) := by decide +kernel
theorem dX10_settle_42 : decode cX10_settle 42 = .ok (.iconst 0, 1) := by decide +kernel
theorem dX10_settle_43 : decode cX10_settle 43 = .ok (.istore 4, 2) := by decide +kernel
theorem dX10_settle_45 : decode cX10_settle 45 = .ok (.iload 4, 2) := by decide +kernel
theorem dX10_settle_47 : decode cX10_settle 47 = .ok (.aload_n 0, 1) := by decide +kernel
theorem dX10_settle_48 : decode cX10_settle 48 = .ok (.getfield 58, 3) := by decide +kernel
theorem dX10_settle_51 : decode cX10_settle 51 = .ok (.getfield 102, 3) := by decide +kernel
theorem dX10_settle_54 : decode cX10_settle 54 = .ok (.if_icmp .ge 35, 3) := by decide +kernel
theorem dX10_settle_57 : decode cX10_settle 57 = .ok (.aload_n 0, 1) := by decide +kernel
theorem dX10_settle_58 : decode cX10_settle 58 = .ok (.getfield 11, 3) := by decide +kernel
theorem dX10_settle_61 : decode cX10_settle 61 = .ok (.iload 4, 2) := by decide +kernel
theorem dX10_settle_63 : decode cX10_settle 63 = .ok (.aaload, 1) := by decide +kernel
theorem dX10_settle_64 : decode cX10_settle 64 = .ok (.invokevirtual 130, 3) := by decide +kernel
theorem dX10_settle_67 : decode cX10_settle 67 = .ok (.ifCond .eq 16, 3) := by decide +kernel
theorem dX10_settle_70 : decode cX10_settle 70 = .ok (.iload_n 3, 1) := by decide +kernel
theorem dX10_settle_71 : decode cX10_settle 71 = .ok (.aload_n 0, 1) := by decide +kernel
theorem dX10_settle_72 : decode cX10_settle 72 = .ok (.getfield 11, 3) := by decide +kernel
theorem dX10_settle_75 : decode cX10_settle 75 = .ok (.iload 4, 2) := by decide +kernel
theorem dX10_settle_77 : decode cX10_settle 77 = .ok (.aaload, 1) := by decide +kernel
theorem dX10_settle_78 : decode cX10_settle 78 = .ok (.getfield 146, 3) := by decide +kernel
theorem dX10_settle_81 : decode cX10_settle 81 = .ok (.iadd, 1) := by decide +kernel
theorem dX10_settle_82 : decode cX10_settle 82 = .ok (.istore_n 3, 1) := by decide +kernel
theorem dX10_settle_83 : decode cX10_settle 83 = .ok (.iinc 4 1, 3) := by decide +kernel
theorem dX10_settle_86 : decode cX10_settle 86 = .ok (.goto (-41), 3) := by decide +kernel
theorem dX10_settle_89 : decode cX10_settle 89 = .ok (.iload_n 3, 1) := by decide +kernel
theorem dX10_settle_90 : decode cX10_settle 90 = .ok (.ifCond .le 12, 3) := by decide +kernel
theorem dX10_settle_93 : decode cX10_settle 93 = .ok (.aload_n 2, 1) := by decide +kernel
theorem dX10_settle_94 : decode cX10_settle 94 = .ok (.ldc_w 262, 3) := by decide +kernel
theorem dX10_settle_97 : decode cX10_settle 97 = .ok (.iload_n 3, 1) := by decide +kernel
theorem dX10_settle_98 : decode cX10_settle 98 = .ok (.idiv, 1) := by decide +kernel
theorem dX10_settle_99 : decode cX10_settle 99 = .ok (.invokevirtual 263, 3) := by decide +kernel
theorem dX10_settle_102 : decode cX10_settle 102 = .ok (.return_, 1) := by decide +kernel
theorem dX10_receive_0 : decode cX10_receive 0 = .ok (.iconst 0, 1) := by decide +kernel
theorem dX10_receive_1 : decode cX10_receive 1 = .ok (.istore_n 1, 1) := by decide +kernel
theorem dX10_receive_2 : decode cX10_receive 2 = .ok (.iconst 0, 1) := by decide +kernel
theorem dX10_receive_3 : decode cX10_receive 3 = .ok (.istore_n 2, 1) := by decide +kernel
theorem dX10_receive_4 : decode cX10_receive 4 = .ok (.iconst 0, 1) := by decide +kernel
theorem dX10_receive_5 : decode cX10_receive 5 = .ok (.istore_n 3, 1) := by decide +kernel
theorem dX10_receive_6 : decode cX10_receive 6 = .ok (.iload_n 3, 1) := by decide +kernel
theorem dX10_receive_7 : decode cX10_receive 7 = .ok (.aload_n 0, 1) := by decide +kernel
theorem dX10_receive_8 : decode cX10_receive 8 = .ok (.getfield 27, 3) := by decide +kernel
theorem dX10_receive_11 : decode cX10_receive 11 = .ok (.getfield 88, 3) := by decide +kernel
theorem dX10_receive_14 : decode cX10_receive 14 = .ok (.if_icmp .ge 99, 3) := by decide +kernel
theorem dX10_receive_17 : decode cX10_receive 17 = .ok (.aload_n 0, 1) := by decide +kernel
theorem dX10_receive_18 : decode cX10_receive 18 = .ok (.getfield 27, 3) := by decide +kernel
theorem dX10_receive_21 : decode cX10_receive 21 = .ok (.getfield 266, 3) := by decide +kernel
theorem dX10_receive_24 : decode cX10_receive 24 = .ok (.iload_n 3, 1) := by decide +kernel
theorem dX10_receive_25 : decode cX10_receive 25 = .ok (.iaload, 1) := by decide +kernel
theorem dX10_receive_26 : decode cX10_receive 26 = .ok (.aload_n 0, 1) := by decide +kernel
theorem dX10_receive_27 : decode cX10_receive 27 = .ok (.getfield 63, 3) := by decide +kernel
theorem dX10_receive_30 : decode cX10_receive 30 = .ok (.if_icmp .ne 77, 3) := by decide +kernel
theorem dX10_receive_33 : decode cX10_receive 33 = .ok (.aload_n 0, 1) := by decide +kernel
theorem dX10_receive_34 : decode cX10_receive 34 = .ok (.getfield 20, 3) := by decide +kernel
theorem dX10_receive_37 : decode cX10_receive 37 = .ok (.aload_n 0, 1) := by decide +kernel
theorem dX10_receive_38 : decode cX10_receive 38 = .ok (.getfield 27, 3) := by decide +kernel
theorem dX10_receive_41 : decode cX10_receive 41 = .ok (.getfield 193, 3) := by decide +kernel
theorem dX10_receive_44 : decode cX10_receive 44 = .ok (.iload_n 3, 1) := by decide +kernel
theorem dX10_receive_45 : decode cX10_receive 45 = .ok (.iaload, 1) := by decide +kernel
theorem dX10_receive_46 : decode cX10_receive 46 = .ok (.aload_n 0, 1) := by decide +kernel
theorem dX10_receive_47 : decode cX10_receive 47 = .ok (.getfield 27, 3) := by decide +kernel
theorem dX10_receive_50 : decode cX10_receive 50 = .ok (.getfield 196, 3) := by decide +kernel
theorem dX10_receive_53 : decode cX10_receive 53 = .ok (.iload_n 3, 1) := by decide +kernel
theorem dX10_receive_54 : decode cX10_receive 54 = .ok (.iaload, 1) := by decide +kernel
theorem dX10_receive_55 : decode cX10_receive 55 = .ok (.aload_n 0, 1) := by decide +kernel
theorem dX10_receive_56 : decode cX10_receive 56 = .ok (.getfield 27, 3) := by decide +kernel
theorem dX10_receive_59 : decode cX10_receive 59 = .ok (.getfield 267, 3) := by decide +kernel
theorem dX10_receive_62 : decode cX10_receive 62 = .ok (.iload_n 3, 1) := by decide +kernel
theorem dX10_receive_63 : decode cX10_receive 63 = .ok (.baload, 1) := by decide +kernel
theorem dX10_receive_64 : decode cX10_receive 64 = .ok (.invokevirtual 270, 3) := by decide +kernel
theorem dX10_receive_67 : decode cX10_receive 67 = .ok (.iload_n 1, 1) := by decide +kernel
theorem dX10_receive_68 : decode cX10_receive 68 = .ok (.aload_n 0, 1) := by decide +kernel
theorem dX10_receive_69 : decode cX10_receive 69 = .ok (.getfield 27, 3) := by decide +kernel
theorem dX10_receive_72 : decode cX10_receive 72 = .ok (.getfield 267, 3) := by decide +kernel
theorem dX10_receive_75 : decode cX10_receive 75 = .ok (.iload_n 3, 1) := by decide +kernel
theorem dX10_receive_76 : decode cX10_receive 76 = .ok (.baload, 1) := by decide +kernel
theorem dX10_receive_77 : decode cX10_receive 77 = .ok (.ifCond .eq 7, 3) := by decide +kernel
theorem dX10_receive_80 : decode cX10_receive 80 = .ok (.iconst 0, 1) := by decide +kernel
theorem dX10_receive_81 : decode cX10_receive 81 = .ok (.goto 4, 3) := by decide +kernel
theorem dX10_receive_84 : decode cX10_receive 84 = .ok (.iconst 1, 1) := by decide +kernel
theorem dX10_receive_85 : decode cX10_receive 85 = .ok (.iadd, 1) := by decide +kernel
theorem dX10_receive_86 : decode cX10_receive 86 = .ok (.istore_n 1, 1) := by decide +kernel
theorem dX10_receive_87 : decode cX10_receive 87 = .ok (.iload_n 2, 1) := by decide +kernel
theorem dX10_receive_88 : decode cX10_receive 88 = .ok (.aload_n 0, 1) := by decide +kernel
theorem dX10_receive_89 : decode cX10_receive 89 = .ok (.getfield 27, 3) := by decide +kernel
theorem dX10_receive_92 : decode cX10_receive 92 = .ok (.getfield 267, 3) := by decide +kernel
theorem dX10_receive_95 : decode cX10_receive 95 = .ok (.iload_n 3, 1) := by decide +kernel
theorem dX10_receive_96 : decode cX10_receive 96 = .ok (.baload, 1) := by decide +kernel
theorem dX10_receive_97 : decode cX10_receive 97 = .ok (.ifCond .eq 7, 3) := by decide +kernel
theorem dX10_receive_100 : decode cX10_receive 100 = .ok (.iconst 1, 1) := by decide +kernel
theorem dX10_receive_101 : decode cX10_receive 101 = .ok (.goto 4, 3) := by decide +kernel
theorem dX10_receive_104 : decode cX10_receive 104 = .ok (.iconst 0, 1) := by decide +kernel
theorem dX10_receive_105 : decode cX10_receive 105 = .ok (.iadd, 1) := by decide +kernel
theorem dX10_receive_106 : decode cX10_receive 106 = .ok (.istore_n 2, 1) := by decide +kernel
theorem dX10_receive_107 : decode cX10_receive 107 = .ok (.iinc 3 1, 3) := by decide +kernel
theorem dX10_receive_110 : decode cX10_receive 110 = .ok (.goto (-104), 3) := by decide +kernel
theorem dX10_receive_113 : decode cX10_receive 113 = .ok (.aload_n 0, 1) := by decide +kernel
theorem dX10_receive_114 : decode cX10_receive 114 = .ok (.getfield 20, 3) := by decide +kernel
theorem dX10_receive_117 : decode cX10_receive 117 = .ok (.invokevirtual 274, 3) := by decide +kernel
theorem dX10_receive_120 : decode cX10_receive 120 = .ok (.istore_n 3, 1) := by decide +kernel
theorem dX10_receive_121 : decode cX10_receive 121 = .ok (.aload_n 0, 1) := by decide +kernel
theorem dX10_receive_122 : decode cX10_receive 122 = .ok (.iload_n 3, 1) := by decide +kernel
theorem dX10_receive_123 : decode cX10_receive 123 = .ok (.invokevirtual 277, 3) := by decide +kernel
theorem dX10_receive_126 : decode cX10_receive 126 = .ok (.istore 4, 2) := by decide +kernel
theorem dX10_receive_128 : decode cX10_receive 128 = .ok (.aload_n 0, 1) := by decide +kernel
theorem dX10_receive_129 : decode cX10_receive 129 = .ok (.getfield 20, 3) := by decide +kernel
theorem dX10_receive_132 : decode cX10_receive 132 = .ok (.dup, 1) := by decide +kernel
theorem dX10_receive_133 : decode cX10_receive 133 = .ok (.getfield 281, 3) := by decide +kernel
theorem dX10_receive_136 : decode cX10_receive 136 = .ok (.iload 4, 2) := by decide +kernel
theorem dX10_receive_138 : decode cX10_receive 138 = .ok (.iadd, 1) := by decide +kernel
theorem dX10_receive_139 : decode cX10_receive 139 = .ok (.putfield 281, 3) := by decide +kernel
theorem dX10_receive_142 : decode cX10_receive 142 = .ok (.iload_n 1, 1) := by decide +kernel
theorem dX10_receive_143 : decode cX10_receive 143 = .ok (.ifCond .le 11, 3) := by decide +kernel
theorem dX10_receive_146 : decode cX10_receive 146 = .ok (.aload_n 0, 1) := by decide +kernel
theorem dX10_receive_147 : decode cX10_receive 147 = .ok (.iload_n 3, 1) := by decide +kernel
theorem dX10_receive_148 : decode cX10_receive 148 = .ok (.invokevirtual 284, 3) := by decide +kernel
theorem dX10_receive_151 : decode cX10_receive 151 = .ok (.goto 13, 3) := by decide +kernel
theorem dX10_receive_154 : decode cX10_receive 154 = .ok (.iload 4, 2) := by decide +kernel
theorem dX10_receive_156 : decode cX10_receive 156 = .ok (.ifCond .le 8, 3) := by decide +kernel
theorem dX10_receive_159 : decode cX10_receive 159 = .ok (.aload_n 0, 1) := by decide +kernel
theorem dX10_receive_160 : decode cX10_receive 160 = .ok (.iload_n 3, 1) := by decide +kernel
theorem dX10_receive_161 : decode cX10_receive 161 = .ok (.invokevirtual 287, 3) := by decide +kernel
theorem dX10_receive_164 : decode cX10_receive 164 = .ok (.iload_n 2, 1) := by decide +kernel
theorem dX10_receive_165 : decode cX10_receive 165 = .ok (.ifCond .le 7, 3) := by decide +kernel
theorem dX10_receive_168 : decode cX10_receive 168 = .ok (.aload_n 0, 1) := by decide +kernel
theorem dX10_receive_169 : decode cX10_receive 169 = .ok (.invokevirtual 290, 3) := by decide +kernel
theorem dX10_receive_172 : decode cX10_receive 172 = .ok (.return_, 1) := by decide +kernel
theorem dX10_answerRight_0 : decode cX10_answerRight 0 = .ok (.iconst 0, 1) := by decide +kernel
theorem dX10_answerRight_1 : decode cX10_answerRight 1 = .ok (.istore_n 2, 1) := by decide +kernel
theorem dX10_answerRight_2 : decode cX10_answerRight 2 = .ok (.iload_n 2, 1) := by decide +kernel
theorem dX10_answerRight_3 : decode cX10_answerRight 3 = .ok (.aload_n 0, 1) := by decide +kernel
theorem dX10_answerRight_4 : decode cX10_answerRight 4 = .ok (.getfield 27, 3) := by decide +kernel
theorem dX10_answerRight_7 : decode cX10_answerRight 7 = .ok (.getfield 88, 3) := by decide +kernel
theorem dX10_answerRight_10 : decode cX10_answerRight 10 = .ok (.if_icmp .ge 60, 3) := by decide +kernel
theorem dX10_answerRight_13 : decode cX10_answerRight 13 = .ok (.aload_n 0, 1) := by decide +kernel
theorem dX10_answerRight_14 : decode cX10_answerRight 14 = .ok (.getfield 27, 3) := by decide +kernel
theorem dX10_answerRight_17 : decode cX10_answerRight 17 = .ok (.getfield 266, 3) := by decide +kernel
theorem dX10_answerRight_20 : decode cX10_answerRight 20 = .ok (.iload_n 2, 1) := by decide +kernel
theorem dX10_answerRight_21 : decode cX10_answerRight 21 = .ok (.iaload, 1) := by decide +kernel
theorem dX10_answerRight_22 : decode cX10_answerRight 22 = .ok (.aload_n 0, 1) := by decide +kernel
theorem dX10_answerRight_23 : decode cX10_answerRight 23 = .ok (.getfield 63, 3) := by decide +kernel
theorem dX10_answerRight_26 : decode cX10_answerRight 26 = .ok (.if_icmp .ne 38, 3) := by decide +kernel
theorem dX10_answerRight_29 : decode cX10_answerRight 29 = .ok (.aload_n 0, 1) := by decide +kernel
theorem dX10_answerRight_30 : decode cX10_answerRight 30 = .ok (.getfield 27, 3) := by decide +kernel
theorem dX10_answerRight_33 : decode cX10_answerRight 33 = .ok (.getfield 267, 3) := by decide +kernel
theorem dX10_answerRight_36 : decode cX10_answerRight 36 = .ok (.iload_n 2, 1) := by decide +kernel
theorem dX10_answerRight_37 : decode cX10_answerRight 37 = .ok (.baload, 1) := by decide +kernel
theorem dX10_answerRight_38 : decode cX10_answerRight 38 = .ok (.ifCond .ne 26, 3) := by decide +kernel
theorem dX10_answerRight_41 : decode cX10_answerRight 41 = .ok (.aload_n 0, 1) := by decide +kernel
theorem dX10_answerRight_42 : decode cX10_answerRight 42 = .ok (.aload_n 0, 1) := by decide +kernel
theorem dX10_answerRight_43 : decode cX10_answerRight 43 = .ok (.getfield 27, 3) := by decide +kernel
theorem dX10_answerRight_46 : decode cX10_answerRight 46 = .ok (.getfield 187, 3) := by decide +kernel
theorem dX10_answerRight_49 : decode cX10_answerRight 49 = .ok (.iload_n 2, 1) := by decide +kernel
theorem dX10_answerRight_50 : decode cX10_answerRight 50 = .ok (.iaload, 1) := by decide +kernel
theorem dX10_answerRight_51 : decode cX10_answerRight 51 = .ok (.aload_n 0, 1) := by decide +kernel
theorem dX10_answerRight_52 : decode cX10_answerRight 52 = .ok (.getfield 27, 3) := by decide +kernel
theorem dX10_answerRight_55 : decode cX10_answerRight 55 = .ok (.getfield 293, 3) := by decide +kernel
theorem dX10_answerRight_58 : decode cX10_answerRight 58 = .ok (.iload_n 2, 1) := by decide +kernel
theorem dX10_answerRight_59 : decode cX10_answerRight 59 = .ok (.iaload, 1) := by decide +kernel
theorem dX10_answerRight_60 : decode cX10_answerRight 60 = .ok (.iload_n 1, 1) := by decide +kernel
theorem dX10_answerRight_61 : decode cX10_answerRight 61 = .ok (.invokevirtual 294, 3) := by decide +kernel
theorem dX10_answerRight_64 : decode cX10_answerRight 64 = .ok (.iinc 2 1, 3) := by decide +kernel
theorem dX10_answerRight_67 : decode cX10_answerRight 67 = .ok (.goto (-65), 3) := by decide +kernel
theorem dX10_answerRight_70 : decode cX10_answerRight 70 = .ok (.return_, 1) := by decide +kernel
theorem dX10_buryWrong_0 : decode cX10_buryWrong 0 = .ok (.iconst 0, 1) := by decide +kernel
theorem dX10_buryWrong_1 : decode cX10_buryWrong 1 = .ok (.istore_n 1, 1) := by decide +kernel
theorem dX10_buryWrong_2 : decode cX10_buryWrong 2 = .ok (.iload_n 1, 1) := by decide +kernel
theorem dX10_buryWrong_3 : decode cX10_buryWrong 3 = .ok (.aload_n 0, 1) := by decide +kernel
theorem dX10_buryWrong_4 : decode cX10_buryWrong 4 = .ok (.getfield 27, 3) := by decide +kernel
theorem dX10_buryWrong_7 : decode cX10_buryWrong 7 = .ok (.getfield 88, 3) := by decide +kernel
theorem dX10_buryWrong_10 : decode cX10_buryWrong 10 = .ok (.if_icmp .ge 50, 3) := by decide +kernel
theorem dX10_buryWrong_13 : decode cX10_buryWrong 13 = .ok (.aload_n 0, 1) := by decide +kernel
theorem dX10_buryWrong_14 : decode cX10_buryWrong 14 = .ok (.getfield 27, 3) := by decide +kernel
theorem dX10_buryWrong_17 : decode cX10_buryWrong 17 = .ok (.getfield 266, 3) := by decide +kernel
theorem dX10_buryWrong_20 : decode cX10_buryWrong 20 = .ok (.iload_n 1, 1) := by decide +kernel
theorem dX10_buryWrong_21 : decode cX10_buryWrong 21 = .ok (.iaload, 1) := by decide +kernel
theorem dX10_buryWrong_22 : decode cX10_buryWrong 22 = .ok (.aload_n 0, 1) := by decide +kernel
theorem dX10_buryWrong_23 : decode cX10_buryWrong 23 = .ok (.getfield 63, 3) := by decide +kernel
theorem dX10_buryWrong_26 : decode cX10_buryWrong 26 = .ok (.if_icmp .ne 28, 3) := by decide +kernel
theorem dX10_buryWrong_29 : decode cX10_buryWrong 29 = .ok (.aload_n 0, 1) := by decide +kernel
theorem dX10_buryWrong_30 : decode cX10_buryWrong 30 = .ok (.getfield 27, 3) := by decide +kernel
theorem dX10_buryWrong_33 : decode cX10_buryWrong 33 = .ok (.getfield 267, 3) := by decide +kernel
theorem dX10_buryWrong_36 : decode cX10_buryWrong 36 = .ok (.iload_n 1, 1) := by decide +kernel
theorem dX10_buryWrong_37 : decode cX10_buryWrong 37 = .ok (.baload, 1) := by decide +kernel
theorem dX10_buryWrong_38 : decode cX10_buryWrong 38 = .ok (.ifCond .eq 16, 3) := by decide +kernel
theorem dX10_buryWrong_41 : decode cX10_buryWrong 41 = .ok (.aload_n 0, 1) := by decide +kernel
theorem dX10_buryWrong_42 : decode cX10_buryWrong 42 = .ok (.aload_n 0, 1) := by decide +kernel
theorem dX10_buryWrong_43 : decode cX10_buryWrong 43 = .ok (.getfield 27, 3) := by decide +kernel
theorem dX10_buryWrong_46 : decode cX10_buryWrong 46 = .ok (.getfield 187, 3) := by decide +kernel
theorem dX10_buryWrong_49 : decode cX10_buryWrong 49 = .ok (.iload_n 1, 1) := by decide +kernel
theorem dX10_buryWrong_50 : decode cX10_buryWrong 50 = .ok (.iaload, 1) := by decide +kernel
theorem dX10_buryWrong_51 : decode cX10_buryWrong 51 = .ok (.invokevirtual 297, 3) := by decide +kernel
theorem dX10_buryWrong_54 : decode cX10_buryWrong 54 = .ok (.iinc 1 1, 3) := by decide +kernel
theorem dX10_buryWrong_57 : decode cX10_buryWrong 57 = .ok (.goto (-55), 3) := by decide +kernel
theorem dX10_buryWrong_60 : decode cX10_buryWrong 60 = .ok (.return_, 1) := by decide +kernel
theorem dX10_amountToRead_0 : decode cX10_amountToRead 0 = .ok (.iload_n 1, 1) := by decide +kernel
theorem dX10_amountToRead_1 : decode cX10_amountToRead 1 = .ok (.aload_n 0, 1) := by decide +kernel
theorem dX10_amountToRead_2 : decode cX10_amountToRead 2 = .ok (.getfield 20, 3) := by decide +kernel
theorem dX10_amountToRead_5 : decode cX10_amountToRead 5 = .ok (.getfield 281, 3) := by decide +kernel
theorem dX10_amountToRead_8 : decode cX10_amountToRead 8 = .ok (.isub, 1) := by decide +kernel
theorem dX10_amountToRead_9 : decode cX10_amountToRead 9 = .ok (.istore_n 2, 1) := by decide +kernel
theorem dX10_amountToRead_10 : decode cX10_amountToRead 10 = .ok (.aload_n 0, 1) := by decide +kernel
theorem dX10_amountToRead_11 : decode cX10_amountToRead 11 = .ok (.getfield 58, 3) := by decide +kernel
theorem dX10_amountToRead_14 : decode cX10_amountToRead 14 = .ok (.getfield 300, 3) := by decide +kernel
theorem dX10_amountToRead_17 : decode cX10_amountToRead 17 = .ok (.invokevirtual 143, 3) := by decide +kernel
theorem dX10_amountToRead_20 : decode cX10_amountToRead 20 = .ok (.ifCond .ne 5, 3) := by decide +kernel
theorem dX10_amountToRead_23 : decode cX10_amountToRead 23 = .ok (.iload_n 2, 1) := by decide +kernel
theorem dX10_amountToRead_24 : decode cX10_amountToRead 24 = .ok (.ireturn, 1) := by decide +kernel
theorem dX10_amountToRead_25 : decode cX10_amountToRead 25 = .ok (.aload_n 0, 1) := by decide +kernel
theorem dX10_amountToRead_26 : decode cX10_amountToRead 26 = .ok (.getfield 54, 3) := by decide +kernel
theorem dX10_amountToRead_29 : decode cX10_amountToRead 29 = .ok (.iconst 0, 1) := by decide +kernel
theorem dX10_amountToRead_30 : decode cX10_amountToRead 30 = .ok (.aload_n 0, 1) := by decide +kernel
theorem dX10_amountToRead_31 : decode cX10_amountToRead 31 = .ok (.getfield 63, 3) := by decide +kernel
theorem dX10_amountToRead_34 : decode cX10_amountToRead 34 = .ok (.iastore, 1) := by decide +kernel
theorem dX10_amountToRead_35 : decode cX10_amountToRead 35 = .ok (.aload_n 0, 1) := by decide +kernel
theorem dX10_amountToRead_36 : decode cX10_amountToRead 36 = .ok (.getfield 54, 3) := by decide +kernel
theorem dX10_amountToRead_39 : decode cX10_amountToRead 39 = .ok (.bipush 8, 2) := by decide +kernel
theorem dX10_amountToRead_41 : decode cX10_amountToRead 41 = .ok (.iload_n 2, 1) := by decide +kernel
theorem dX10_amountToRead_42 : decode cX10_amountToRead 42 = .ok (.iastore, 1) := by decide +kernel
theorem dX10_amountToRead_43 : decode cX10_amountToRead 43 = .ok (.aload_n 0, 1) := by decide +kernel
theorem dX10_amountToRead_44 : decode cX10_amountToRead 44 = .ok (.getfield 54, 3) := by decide +kernel
theorem dX10_amountToRead_47 : decode cX10_amountToRead 47 = .ok (.bipush 9, 2) := by decide +kernel
theorem dX10_amountToRead_49 : decode cX10_amountToRead 49 = .ok (.aload_n 0, 1) := by decide +kernel
theorem dX10_amountToRead_50 : decode cX10_amountToRead 50 = .ok (.getfield 20, 3) := by decide +kernel
theorem dX10_amountToRead_53 : decode cX10_amountToRead 53 = .ok (.getfield 303, 3) := by decide +kernel
theorem dX10_amountToRead_56 : decode cX10_amountToRead 56 = .ok (.iload_n 1, 1) := by decide +kernel
theorem dX10_amountToRead_57 : decode cX10_amountToRead 57 = .ok (.isub, 1) := by decide +kernel
theorem dX10_amountToRead_58 : decode cX10_amountToRead 58 = .ok (.iastore, 1) := by decide +kernel
theorem dX10_amountToRead_59 : decode cX10_amountToRead 59 = .ok (.iconst 0, 1) := by decide +kernel
theorem dX10_amountToRead_60 : decode cX10_amountToRead 60 = .ok (.iload_n 2, 1) := by decide +kernel
theorem dX10_amountToRead_61 : decode cX10_amountToRead 61 = .ok (.aload_n 0, 1) := by decide +kernel
theorem dX10_amountToRead_62 : decode cX10_amountToRead 62 = .ok (.getfield 58, 3) := by decide +kernel
theorem dX10_amountToRead_65 : decode cX10_amountToRead 65 = .ok (.getfield 300, 3) := by decide +kernel
theorem dX10_amountToRead_68 : decode cX10_amountToRead 68 = .ok (.aload_n 0, 1) := by decide +kernel
theorem dX10_amountToRead_69 : decode cX10_amountToRead 69 = .ok (.getfield 54, 3) := by decide +kernel
theorem dX10_amountToRead_72 : decode cX10_amountToRead 72 = .ok (.invokevirtual 152, 3) := by decide +kernel
theorem dX10_amountToRead_75 : decode cX10_amountToRead 75 = .ok (.invokestatic 156, 3) := by decide +kernel
theorem dX10_amountToRead_78 : decode cX10_amountToRead 78 = .ok (.invokestatic 162, 3) := by decide +kernel
theorem dX10_amountToRead_81 : decode cX10_amountToRead 81 = .ok (.ireturn, 1) := by decide +kernel
theorem dX10_answer_0 : decode cX10_answer 0 = .ok (.aload_n 0, 1) := by decide +kernel
theorem dX10_answer_1 : decode cX10_answer 1 = .ok (.getfield 20, 3) := by decide +kernel
theorem dX10_answer_4 : decode cX10_answer 4 = .ok (.getfield 281, 3) := by decide +kernel
theorem dX10_answer_7 : decode cX10_answer 7 = .ok (.aload_n 0, 1) := by decide +kernel
theorem dX10_answer_8 : decode cX10_answer 8 = .ok (.getfield 20, 3) := by decide +kernel
theorem dX10_answer_11 : decode cX10_answer 11 = .ok (.getfield 306, 3) := by decide +kernel
theorem dX10_answer_14 : decode cX10_answer 14 = .ok (.iadd, 1) := by decide +kernel
theorem dX10_answer_15 : decode cX10_answer 15 = .ok (.istore 4, 2) := by decide +kernel
theorem dX10_answer_17 : decode cX10_answer 17 = .ok (.aload_n 0, 1) := by decide +kernel
theorem dX10_answer_18 : decode cX10_answer 18 = .ok (.getfield 34, 3) := by decide +kernel
theorem dX10_answer_21 : decode cX10_answer 21 = .ok (.iload_n 1, 1) := by decide +kernel
theorem dX10_answer_22 : decode cX10_answer 22 = .ok (.iload_n 2, 1) := by decide +kernel
theorem dX10_answer_23 : decode cX10_answer 23 = .ok (.iload_n 3, 1) := by decide +kernel
theorem dX10_answer_24 : decode cX10_answer 24 = .ok (.iload 4, 2) := by decide +kernel
theorem dX10_answer_26 : decode cX10_answer 26 = .ok (.aload_n 0, 1) := by decide +kernel
theorem dX10_answer_27 : decode cX10_answer 27 = .ok (.getfield 63, 3) := by decide +kernel
theorem dX10_answer_30 : decode cX10_answer 30 = .ok (.aload_n 0, 1) := by decide +kernel
theorem dX10_answer_31 : decode cX10_answer 31 = .ok (.getfield 11, 3) := by decide +kernel
theorem dX10_answer_34 : decode cX10_answer 34 = .ok (.iload_n 1, 1) := by decide +kernel
theorem dX10_answer_35 : decode cX10_answer 35 = .ok (.aaload, 1) := by decide +kernel
theorem dX10_answer_36 : decode cX10_answer 36 = .ok (.getfield 137, 3) := by decide +kernel
theorem dX10_answer_39 : decode cX10_answer 39 = .ok (.iadd, 1) := by decide +kernel
theorem dX10_answer_40 : decode cX10_answer 40 = .ok (.invokevirtual 307, 3) := by decide +kernel
theorem dX10_answer_43 : decode cX10_answer 43 = .ok (.return_, 1) := by decide +kernel
theorem dX10_answerOnFirst_0 : decode cX10_answerOnFirst 0 = .ok (.iconst 0, 1) := by decide +kernel
theorem dX10_answerOnFirst_1 : decode cX10_answerOnFirst 1 = .ok (.istore_n 2, 1) := by decide +kernel
theorem dX10_answerOnFirst_2 : decode cX10_answerOnFirst 2 = .ok (.iload_n 2, 1) := by decide +kernel
theorem dX10_answerOnFirst_3 : decode cX10_answerOnFirst 3 = .ok (.aload_n 0, 1) := by decide +kernel
theorem dX10_answerOnFirst_4 : decode cX10_answerOnFirst 4 = .ok (.getfield 58, 3) := by decide +kernel
theorem dX10_answerOnFirst_7 : decode cX10_answerOnFirst 7 = .ok (.getfield 102, 3) := by decide +kernel
theorem dX10_answerOnFirst_10 : decode cX10_answerOnFirst 10 = .ok (.if_icmp .ge 29, 3) := by decide +kernel
theorem dX10_answerOnFirst_13 : decode cX10_answerOnFirst 13 = .ok (.aload_n 0, 1) := by decide +kernel
theorem dX10_answerOnFirst_14 : decode cX10_answerOnFirst 14 = .ok (.getfield 11, 3) := by decide +kernel
theorem dX10_answerOnFirst_17 : decode cX10_answerOnFirst 17 = .ok (.iload_n 2, 1) := by decide +kernel
theorem dX10_answerOnFirst_18 : decode cX10_answerOnFirst 18 = .ok (.aaload, 1) := by decide +kernel
theorem dX10_answerOnFirst_19 : decode cX10_answerOnFirst 19 = .ok (.invokevirtual 130, 3) := by decide +kernel
theorem dX10_answerOnFirst_22 : decode cX10_answerOnFirst 22 = .ok (.ifCond .eq 11, 3) := by decide +kernel
theorem dX10_answerOnFirst_25 : decode cX10_answerOnFirst 25 = .ok (.aload_n 0, 1) := by decide +kernel
theorem dX10_answerOnFirst_26 : decode cX10_answerOnFirst 26 = .ok (.iload_n 2, 1) := by decide +kernel
theorem dX10_answerOnFirst_27 : decode cX10_answerOnFirst 27 = .ok (.iconst (-1), 1) := by decide +kernel
theorem dX10_answerOnFirst_28 : decode cX10_answerOnFirst 28 = .ok (.iload_n 1, 1) := by decide +kernel
theorem dX10_answerOnFirst_29 : decode cX10_answerOnFirst 29 = .ok (.invokevirtual 294, 3) := by decide +kernel
theorem dX10_answerOnFirst_32 : decode cX10_answerOnFirst 32 = .ok (.return_, 1) := by decide +kernel
theorem dX10_answerOnFirst_33 : decode cX10_answerOnFirst 33 = .ok (.iinc 2 1, 3) := by decide +kernel
theorem dX10_answerOnFirst_36 : decode cX10_answerOnFirst 36 = .ok (.goto (-34), 3) := by decide +kernel
theorem dX10_answerOnFirst_39 : decode cX10_answerOnFirst 39 = .ok (.return_, 1) := by decide +kernel
theorem dX10_failLate_0 : decode cX10_failLate 0 = .ok (.aload_n 0, 1) := by decide +kernel
theorem dX10_failLate_1 : decode cX10_failLate 1 = .ok (.getfield 11, 3) := by decide +kernel
theorem dX10_failLate_4 : decode cX10_failLate 4 = .ok (.iload_n 1, 1) := by decide +kernel
theorem dX10_failLate_5 : decode cX10_failLate 5 = .ok (.aaload, 1) := by decide +kernel
theorem dX10_failLate_6 : decode cX10_failLate 6 = .ok (.getfield 134, 3) := by decide +kernel
theorem dX10_failLate_9 : decode cX10_failLate 9 = .ok (.ifCond .le 14, 3) := by decide +kernel
theorem dX10_failLate_12 : decode cX10_failLate 12 = .ok (.aload_n 0, 1) := by decide +kernel
theorem dX10_failLate_13 : decode cX10_failLate 13 = .ok (.getfield 27, 3) := by decide +kernel
theorem dX10_failLate_16 : decode cX10_failLate 16 = .ok (.iload_n 1, 1) := by decide +kernel
theorem dX10_failLate_17 : decode cX10_failLate 17 = .ok (.invokevirtual 310, 3) := by decide +kernel
theorem dX10_failLate_20 : decode cX10_failLate 20 = .ok (.goto 4, 3) := by decide +kernel
theorem dX10_failLate_23 : decode cX10_failLate 23 = .ok (.iconst (-1), 1) := by decide +kernel
theorem dX10_failLate_24 : decode cX10_failLate 24 = .ok (.istore_n 2, 1) := by decide +kernel
theorem dX10_failLate_25 : decode cX10_failLate 25 = .ok (.iload_n 2, 1) := by decide +kernel
theorem dX10_failLate_26 : decode cX10_failLate 26 = .ok (.iconst (-1), 1) := by decide +kernel
theorem dX10_failLate_27 : decode cX10_failLate 27 = .ok (.if_icmp .eq 25, 3) := by decide +kernel
theorem dX10_failLate_30 : decode cX10_failLate 30 = .ok (.aload_n 0, 1) := by decide +kernel
theorem dX10_failLate_31 : decode cX10_failLate 31 = .ok (.getfield 63, 3) := by decide +kernel
theorem dX10_failLate_34 : decode cX10_failLate 34 = .ok (.aload_n 0, 1) := by decide +kernel
theorem dX10_failLate_35 : decode cX10_failLate 35 = .ok (.getfield 27, 3) := by decide +kernel
theorem dX10_failLate_38 : decode cX10_failLate 38 = .ok (.getfield 313, 3) := by decide +kernel
theorem dX10_failLate_41 : decode cX10_failLate 41 = .ok (.iload_n 2, 1) := by decide +kernel
theorem dX10_failLate_42 : decode cX10_failLate 42 = .ok (.iaload, 1) := by decide +kernel
theorem dX10_failLate_43 : decode cX10_failLate 43 = .ok (.isub, 1) := by decide +kernel
theorem dX10_failLate_44 : decode cX10_failLate 44 = .ok (.aload_n 0, 1) := by decide +kernel
theorem dX10_failLate_45 : decode cX10_failLate 45 = .ok (.iload_n 1, 1) := by decide +kernel
theorem dX10_failLate_46 : decode cX10_failLate 46 = .ok (.invokevirtual 316, 3) := by decide +kernel
theorem dX10_failLate_49 : decode cX10_failLate 49 = .ok (.if_icmp .ge 4, 3) := by decide +kernel
theorem dX10_failLate_52 : decode cX10_failLate 52 = .ok (.return_, 1) := by decide +kernel
theorem dX10_failLate_53 : decode cX10_failLate 53 = .ok (.aload_n 0, 1) := by decide +kernel
theorem dX10_failLate_54 : decode cX10_failLate 54 = .ok (.getfield 11, 3) := by decide +kernel
theorem dX10_failLate_57 : decode cX10_failLate 57 = .ok (.iload_n 1, 1) := by decide +kernel
theorem dX10_failLate_58 : decode cX10_failLate 58 = .ok (.aaload, 1) := by decide +kernel
theorem dX10_failLate_59 : decode cX10_failLate 59 = .ok (.astore_n 3, 1) := by decide +kernel
theorem dX10_failLate_60 : decode cX10_failLate 60 = .ok (.aload_n 0, 1) := by decide +kernel
theorem dX10_failLate_61 : decode cX10_failLate 61 = .ok (.getfield 48, 3) := by decide +kernel
theorem dX10_failLate_64 : decode cX10_failLate 64 = .ok (.iconst 0, 1) := by decide +kernel
theorem dX10_failLate_65 : decode cX10_failLate 65 = .ok (.iload_n 1, 1) := by decide +kernel
theorem dX10_failLate_66 : decode cX10_failLate 66 = .ok (.aload_n 0, 1) := by decide +kernel
theorem dX10_failLate_67 : decode cX10_failLate 67 = .ok (.getfield 27, 3) := by decide +kernel
theorem dX10_failLate_70 : decode cX10_failLate 70 = .ok (.getfield 193, 3) := by decide +kernel
theorem dX10_failLate_73 : decode cX10_failLate 73 = .ok (.iload_n 2, 1) := by decide +kernel
theorem dX10_failLate_74 : decode cX10_failLate 74 = .ok (.iaload, 1) := by decide +kernel
theorem dX10_failLate_75 : decode cX10_failLate 75 = .ok (.invokevirtual 179, 3) := by decide +kernel
theorem dX10_failLate_78 : decode cX10_failLate 78 = .ok (.aload_n 0, 1) := by decide +kernel
theorem dX10_failLate_79 : decode cX10_failLate 79 = .ok (.iload_n 2, 1) := by decide +kernel
theorem dX10_failLate_80 : decode cX10_failLate 80 = .ok (.invokevirtual 190, 3) := by decide +kernel
theorem dX10_failLate_83 : decode cX10_failLate 83 = .ok (.aload_n 3, 1) := by decide +kernel
theorem dX10_failLate_84 : decode cX10_failLate 84 = .ok (.dup, 1) := by decide +kernel
theorem dX10_failLate_85 : decode cX10_failLate 85 = .ok (.getfield 149, 3) := by decide +kernel
theorem dX10_failLate_88 : decode cX10_failLate 88 = .ok (.iconst 1, 1) := by decide +kernel
theorem dX10_failLate_89 : decode cX10_failLate 89 = .ok (.iadd, 1) := by decide +kernel
theorem dX10_failLate_90 : decode cX10_failLate 90 = .ok (.putfield 149, 3) := by decide +kernel
theorem dX10_failLate_93 : decode cX10_failLate 93 = .ok (.aload_n 3, 1) := by decide +kernel
theorem dX10_failLate_94 : decode cX10_failLate 94 = .ok (.invokevirtual 319, 3) := by decide +kernel
theorem dX10_failLate_97 : decode cX10_failLate 97 = .ok (.aload_n 3, 1) := by decide +kernel
theorem dX10_failLate_98 : decode cX10_failLate 98 = .ok (.getfield 149, 3) := by decide +kernel
theorem dX10_failLate_101 : decode cX10_failLate 101 = .ok (.iconst 3, 1) := by decide +kernel
theorem dX10_failLate_102 : decode cX10_failLate 102 = .ok (.if_icmp .lt 8, 3) := by decide +kernel
theorem dX10_failLate_105 : decode cX10_failLate 105 = .ok (.aload_n 0, 1) := by decide +kernel
theorem dX10_failLate_106 : decode cX10_failLate 106 = .ok (.iload_n 1, 1) := by decide +kernel
theorem dX10_failLate_107 : decode cX10_failLate 107 = .ok (.invokevirtual 297, 3) := by decide +kernel
theorem dX10_failLate_110 : decode cX10_failLate 110 = .ok (.return_, 1) := by decide +kernel
theorem dX10_sendPieces_0 : decode cX10_sendPieces 0 = .ok (.aload_n 0, 1) := by decide +kernel
theorem dX10_sendPieces_1 : decode cX10_sendPieces 1 = .ok (.getfield 41, 3) := by decide +kernel
theorem dX10_sendPieces_4 : decode cX10_sendPieces 4 = .ok (.aload_n 0, 1) := by decide +kernel
theorem dX10_sendPieces_5 : decode cX10_sendPieces 5 = .ok (.getfield 70, 3) := by decide +kernel
theorem dX10_sendPieces_8 : decode cX10_sendPieces 8 = .ok (.invokevirtual 322, 3) := by decide +kernel
theorem dX10_sendPieces_11 : decode cX10_sendPieces 11 = .ok (.aload_n 0, 1) := by decide +kernel
theorem dX10_sendPieces_12 : decode cX10_sendPieces 12 = .ok (.getfield 78, 3) := by decide +kernel
theorem dX10_sendPieces_15 : decode cX10_sendPieces 15 = .ok (.aload_n 0, 1) := by decide +kernel
theorem dX10_sendPieces_16 : decode cX10_sendPieces 16 = .ok (.getfield 58, 3) := by decide +kernel
theorem dX10_sendPieces_19 : decode cX10_sendPieces 19 = .ok (.getfield 323, 3) := by decide +kernel
theorem dX10_sendPieces_22 : decode cX10_sendPieces 22 = .ok (.invokestatic 156, 3) := by decide +kernel
theorem dX10_sendPieces_25 : decode cX10_sendPieces 25 = .ok (.istore_n 2, 1) := by decide +kernel
theorem dX10_sendPieces_26 : decode cX10_sendPieces 26 = .ok (.iconst 0, 1) := by decide +kernel
theorem dX10_sendPieces_27 : decode cX10_sendPieces 27 = .ok (.istore_n 3, 1) := by decide +kernel
theorem dX10_sendPieces_28 : decode cX10_sendPieces 28 = .ok (.iload_n 3, 1) := by decide +kernel
theorem dX10_sendPieces_29 : decode cX10_sendPieces 29 = .ok (.sipush 512, 3) := by decide +kernel
theorem dX10_sendPieces_32 : decode cX10_sendPieces 32 = .ok (.if_icmp .ge 144, 3) := by decide +kernel
theorem dX10_sendPieces_35 : decode cX10_sendPieces 35 = .ok (.aload_n 0, 1) := by decide +kernel
theorem dX10_sendPieces_36 : decode cX10_sendPieces 36 = .ok (.getfield 27, 3) := by decide +kernel
theorem dX10_sendPieces_39 : decode cX10_sendPieces 39 = .ok (.getfield 88, 3) := by decide +kernel
theorem dX10_sendPieces_42 : decode cX10_sendPieces 42 = .ok (.sipush 512, 3) := by decide +kernel
theorem dX10_sendPieces_45 : decode cX10_sendPieces 45 = .ok (.if_icmp .ge 131, 3) := by decide +kernel
theorem dX10_sendPieces_48 : decode cX10_sendPieces 48 = .ok (.aload_n 0, 1) := by decide +kernel
theorem dX10_sendPieces_49 : decode cX10_sendPieces 49 = .ok (.getfield 41, 3) := by decide +kernel
theorem dX10_sendPieces_52 : decode cX10_sendPieces 52 = .ok (.getfield 92, 3) := by decide +kernel
theorem dX10_sendPieces_55 : decode cX10_sendPieces 55 = .ok (.ifCond .ne 13, 3) := by decide +kernel
theorem dX10_sendPieces_58 : decode cX10_sendPieces 58 = .ok (.aload_n 0, 1) := by decide +kernel
theorem dX10_sendPieces_59 : decode cX10_sendPieces 59 = .ok (.getfield 67, 3) := by decide +kernel
theorem dX10_sendPieces_62 : decode cX10_sendPieces 62 = .ok (.iload_n 2, 1) := by decide +kernel
theorem dX10_sendPieces_63 : decode cX10_sendPieces 63 = .ok (.if_icmp .lt 5, 3) := by decide +kernel
theorem dX10_sendPieces_66 : decode cX10_sendPieces 66 = .ok (.iconst 1, 1) := by decide +kernel
theorem dX10_sendPieces_67 : decode cX10_sendPieces 67 = .ok (.ireturn, 1) := by decide +kernel
theorem dX10_sendPieces_68 : decode cX10_sendPieces 68 = .ok (.aload_n 0, 1) := by decide +kernel
theorem dX10_sendPieces_69 : decode cX10_sendPieces 69 = .ok (.iconst (-1), 1) := by decide +kernel
theorem dX10_sendPieces_70 : decode cX10_sendPieces 70 = .ok (.invokevirtual 324, 3) := by decide +kernel
theorem dX10_sendPieces_73 : decode cX10_sendPieces 73 = .ok (.istore 4, 2) := by decide +kernel
theorem dX10_sendPieces_75 : decode cX10_sendPieces 75 = .ok (.iload 4, 2) := by decide +kernel
theorem dX10_sendPieces_77 : decode cX10_sendPieces 77 = .ok (.iconst (-1), 1) := by decide +kernel
theorem dX10_sendPieces_78 : decode cX10_sendPieces 78 = .ok (.if_icmp .ne 5, 3) := by decide +kernel
theorem dX10_sendPieces_81 : decode cX10_sendPieces 81 = .ok (.iconst 0, 1) := by decide +kernel
theorem dX10_sendPieces_82 : decode cX10_sendPieces 82 = .ok (.ireturn, 1) := by decide +kernel
theorem dX10_sendPieces_83 : decode cX10_sendPieces 83 = .ok (.aload_n 0, 1) := by decide +kernel
theorem dX10_sendPieces_84 : decode cX10_sendPieces 84 = .ok (.getfield 41, 3) := by decide +kernel
theorem dX10_sendPieces_87 : decode cX10_sendPieces 87 = .ok (.getfield 92, 3) := by decide +kernel
theorem dX10_sendPieces_90 : decode cX10_sendPieces 90 = .ok (.ifCond .le 38, 3) := by decide +kernel
theorem dX10_sendPieces_93 : decode cX10_sendPieces 93 = .ok (.aload_n 0, 1) := by decide +kernel
theorem dX10_sendPieces_94 : decode cX10_sendPieces 94 = .ok (.iload 4, 2) := by decide +kernel
theorem dX10_sendPieces_96 : decode cX10_sendPieces 96 = .ok (.aload_n 0, 1) := by decide +kernel
theorem dX10_sendPieces_97 : decode cX10_sendPieces 97 = .ok (.getfield 41, 3) := by decide +kernel
theorem dX10_sendPieces_100 : decode cX10_sendPieces 100 = .ok (.getfield 327, 3) := by decide +kernel
theorem dX10_sendPieces_103 : decode cX10_sendPieces 103 = .ok (.iconst 0, 1) := by decide +kernel
theorem dX10_sendPieces_104 : decode cX10_sendPieces 104 = .ok (.iaload, 1) := by decide +kernel
theorem dX10_sendPieces_105 : decode cX10_sendPieces 105 = .ok (.aload_n 0, 1) := by decide +kernel
theorem dX10_sendPieces_106 : decode cX10_sendPieces 106 = .ok (.getfield 41, 3) := by decide +kernel
theorem dX10_sendPieces_109 : decode cX10_sendPieces 109 = .ok (.getfield 328, 3) := by decide +kernel
theorem dX10_sendPieces_112 : decode cX10_sendPieces 112 = .ok (.iconst 0, 1) := by decide +kernel
theorem dX10_sendPieces_113 : decode cX10_sendPieces 113 = .ok (.iaload, 1) := by decide +kernel
theorem dX10_sendPieces_114 : decode cX10_sendPieces 114 = .ok (.aload_n 1, 1) := by decide +kernel
theorem dX10_sendPieces_115 : decode cX10_sendPieces 115 = .ok (.invokevirtual 329, 3) := by decide +kernel
theorem dX10_sendPieces_118 : decode cX10_sendPieces 118 = .ok (.aload_n 0, 1) := by decide +kernel
theorem dX10_sendPieces_119 : decode cX10_sendPieces 119 = .ok (.getfield 41, 3) := by decide +kernel
theorem dX10_sendPieces_122 : decode cX10_sendPieces 122 = .ok (.invokevirtual 333, 3) := by decide +kernel
theorem dX10_sendPieces_125 : decode cX10_sendPieces 125 = .ok (.goto 45, 3) := by decide +kernel
theorem dX10_sendPieces_128 : decode cX10_sendPieces 128 = .ok (.aload_n 0, 1) := by decide +kernel
theorem dX10_sendPieces_129 : decode cX10_sendPieces 129 = .ok (.getfield 58, 3) := by decide +kernel
theorem dX10_sendPieces_132 : decode cX10_sendPieces 132 = .ok (.getfield 336, 3) := by decide +kernel
theorem dX10_sendPieces_135 : decode cX10_sendPieces 135 = .ok (.iload_n 2, 1) := by decide +kernel
theorem dX10_sendPieces_136 : decode cX10_sendPieces 136 = .ok (.aload_n 0, 1) := by decide +kernel
theorem dX10_sendPieces_137 : decode cX10_sendPieces 137 = .ok (.getfield 67, 3) := by decide +kernel
theorem dX10_sendPieces_140 : decode cX10_sendPieces 140 = .ok (.isub, 1) := by decide +kernel
theorem dX10_sendPieces_141 : decode cX10_sendPieces 141 = .ok (.invokestatic 156, 3) := by decide +kernel
theorem dX10_sendPieces_144 : decode cX10_sendPieces 144 = .ok (.istore 5, 2) := by decide +kernel
theorem dX10_sendPieces_146 : decode cX10_sendPieces 146 = .ok (.aload_n 0, 1) := by decide +kernel
theorem dX10_sendPieces_147 : decode cX10_sendPieces 147 = .ok (.iload 4, 2) := by decide +kernel
theorem dX10_sendPieces_149 : decode cX10_sendPieces 149 = .ok (.aload_n 0, 1) := by decide +kernel
theorem dX10_sendPieces_150 : decode cX10_sendPieces 150 = .ok (.getfield 67, 3) := by decide +kernel
theorem dX10_sendPieces_153 : decode cX10_sendPieces 153 = .ok (.iload 5, 2) := by decide +kernel
theorem dX10_sendPieces_155 : decode cX10_sendPieces 155 = .ok (.aload_n 1, 1) := by decide +kernel
theorem dX10_sendPieces_156 : decode cX10_sendPieces 156 = .ok (.invokevirtual 329, 3) := by decide +kernel
theorem dX10_sendPieces_159 : decode cX10_sendPieces 159 = .ok (.aload_n 0, 1) := by decide +kernel
theorem dX10_sendPieces_160 : decode cX10_sendPieces 160 = .ok (.dup, 1) := by decide +kernel
theorem dX10_sendPieces_161 : decode cX10_sendPieces 161 = .ok (.getfield 67, 3) := by decide +kernel
theorem dX10_sendPieces_164 : decode cX10_sendPieces 164 = .ok (.iload 5, 2) := by decide +kernel
theorem dX10_sendPieces_166 : decode cX10_sendPieces 166 = .ok (.iadd, 1) := by decide +kernel
theorem dX10_sendPieces_167 : decode cX10_sendPieces 167 = .ok (.putfield 67, 3) := by decide +kernel
theorem dX10_sendPieces_170 : decode cX10_sendPieces 170 = .ok (.iinc 3 1, 3) := by decide +kernel
theorem dX10_sendPieces_173 : decode cX10_sendPieces 173 = .ok (.goto (-145), 3) := by decide +kernel
theorem dX10_sendPieces_176 : decode cX10_sendPieces 176 = .ok (.iconst 0, 1) := by decide +kernel
theorem dX10_sendPieces_177 : decode cX10_sendPieces 177 = .ok (.ireturn, 1) := by decide +kernel
theorem dX10_penalise_0 : decode cX10_penalise 0 = .ok (.aload_n 0, 1) := by decide +kernel
theorem dX10_penalise_1 : decode cX10_penalise 1 = .ok (.getfield 67, 3) := by decide +kernel
theorem dX10_penalise_4 : decode cX10_penalise 4 = .ok (.aload_n 0, 1) := by decide +kernel
theorem dX10_penalise_5 : decode cX10_penalise 5 = .ok (.getfield 78, 3) := by decide +kernel
theorem dX10_penalise_8 : decode cX10_penalise 8 = .ok (.if_icmp .ne 31, 3) := by decide +kernel
theorem dX10_penalise_11 : decode cX10_penalise 11 = .ok (.aload_n 0, 1) := by decide +kernel
theorem dX10_penalise_12 : decode cX10_penalise 12 = .ok (.getfield 67, 3) := by decide +kernel
theorem dX10_penalise_15 : decode cX10_penalise 15 = .ok (.aload_n 0, 1) := by decide +kernel
theorem dX10_penalise_16 : decode cX10_penalise 16 = .ok (.getfield 58, 3) := by decide +kernel
theorem dX10_penalise_19 : decode cX10_penalise 19 = .ok (.getfield 323, 3) := by decide +kernel
theorem dX10_penalise_22 : decode cX10_penalise 22 = .ok (.if_icmp .ge 17, 3) := by decide +kernel
theorem dX10_penalise_25 : decode cX10_penalise 25 = .ok (.aload_n 0, 1) := by decide +kernel
theorem dX10_penalise_26 : decode cX10_penalise 26 = .ok (.getfield 27, 3) := by decide +kernel
theorem dX10_penalise_29 : decode cX10_penalise 29 = .ok (.aload_n 0, 1) := by decide +kernel
theorem dX10_penalise_30 : decode cX10_penalise 30 = .ok (.getfield 70, 3) := by decide +kernel
theorem dX10_penalise_33 : decode cX10_penalise 33 = .ok (.invokevirtual 339, 3) := by decide +kernel
theorem dX10_penalise_36 : decode cX10_penalise 36 = .ok (.goto 4, 3) := by decide +kernel
theorem dX10_penalise_39 : decode cX10_penalise 39 = .ok (.iconst (-1), 1) := by decide +kernel
theorem dX10_penalise_40 : decode cX10_penalise 40 = .ok (.istore_n 2, 1) := by decide +kernel
theorem dX10_penalise_41 : decode cX10_penalise 41 = .ok (.iload_n 2, 1) := by decide +kernel
theorem dX10_penalise_42 : decode cX10_penalise 42 = .ok (.iconst (-1), 1) := by decide +kernel
theorem dX10_penalise_43 : decode cX10_penalise 43 = .ok (.if_icmp .ne 4, 3) := by decide +kernel
theorem dX10_penalise_46 : decode cX10_penalise 46 = .ok (.return_, 1) := by decide +kernel
theorem dX10_penalise_47 : decode cX10_penalise 47 = .ok (.aload_n 0, 1) := by decide +kernel
theorem dX10_penalise_48 : decode cX10_penalise 48 = .ok (.getfield 27, 3) := by decide +kernel
theorem dX10_penalise_51 : decode cX10_penalise 51 = .ok (.getfield 187, 3) := by decide +kernel
theorem dX10_penalise_54 : decode cX10_penalise 54 = .ok (.iload_n 2, 1) := by decide +kernel
theorem dX10_penalise_55 : decode cX10_penalise 55 = .ok (.iaload, 1) := by decide +kernel
theorem dX10_penalise_56 : decode cX10_penalise 56 = .ok (.istore_n 3, 1) := by decide +kernel
theorem dX10_penalise_57 : decode cX10_penalise 57 = .ok (.aload_n 0, 1) := by decide +kernel
theorem dX10_penalise_58 : decode cX10_penalise 58 = .ok (.iload_n 3, 1) := by decide +kernel
theorem dX10_penalise_59 : decode cX10_penalise 59 = .ok (.invokevirtual 324, 3) := by decide +kernel
theorem dX10_penalise_62 : decode cX10_penalise 62 = .ok (.istore 4, 2) := by decide +kernel
theorem dX10_penalise_64 : decode cX10_penalise 64 = .ok (.iload 4, 2) := by decide +kernel
theorem dX10_penalise_66 : decode cX10_penalise 66 = .ok (.iconst (-1), 1) := by decide +kernel
theorem dX10_penalise_67 : decode cX10_penalise 67 = .ok (.if_icmp .ne 4, 3) := by decide +kernel
theorem dX10_penalise_70 : decode cX10_penalise 70 = .ok (.return_, 1) := by decide +kernel
theorem dX10_penalise_71 : decode cX10_penalise 71 = .ok (.aload_n 0, 1) := by decide +kernel
theorem dX10_penalise_72 : decode cX10_penalise 72 = .ok (.iload 4, 2) := by decide +kernel
theorem dX10_penalise_74 : decode cX10_penalise 74 = .ok (.aload_n 0, 1) := by decide +kernel
theorem dX10_penalise_75 : decode cX10_penalise 75 = .ok (.getfield 27, 3) := by decide +kernel
theorem dX10_penalise_78 : decode cX10_penalise 78 = .ok (.getfield 193, 3) := by decide +kernel
theorem dX10_penalise_81 : decode cX10_penalise 81 = .ok (.iload_n 2, 1) := by decide +kernel
theorem dX10_penalise_82 : decode cX10_penalise 82 = .ok (.iaload, 1) := by decide +kernel
theorem dX10_penalise_83 : decode cX10_penalise 83 = .ok (.aload_n 0, 1) := by decide +kernel
theorem dX10_penalise_84 : decode cX10_penalise 84 = .ok (.getfield 27, 3) := by decide +kernel
theorem dX10_penalise_87 : decode cX10_penalise 87 = .ok (.getfield 196, 3) := by decide +kernel
theorem dX10_penalise_90 : decode cX10_penalise 90 = .ok (.iload_n 2, 1) := by decide +kernel
theorem dX10_penalise_91 : decode cX10_penalise 91 = .ok (.iaload, 1) := by decide +kernel
theorem dX10_penalise_92 : decode cX10_penalise 92 = .ok (.aload_n 1, 1) := by decide +kernel
theorem dX10_penalise_93 : decode cX10_penalise 93 = .ok (.invokevirtual 329, 3) := by decide +kernel
theorem dX10_penalise_96 : decode cX10_penalise 96 = .ok (.aload_n 0, 1) := by decide +kernel
theorem dX10_penalise_97 : decode cX10_penalise 97 = .ok (.getfield 11, 3) := by decide +kernel
theorem dX10_penalise_100 : decode cX10_penalise 100 = .ok (.iload_n 3, 1) := by decide +kernel
theorem dX10_penalise_101 : decode cX10_penalise 101 = .ok (.aaload, 1) := by decide +kernel
theorem dX10_penalise_102 : decode cX10_penalise 102 = .ok (.invokevirtual 319, 3) := by decide +kernel
theorem dX10_penalise_105 : decode cX10_penalise 105 = .ok (.aload_n 0, 1) := by decide +kernel
theorem dX10_penalise_106 : decode cX10_penalise 106 = .ok (.getfield 48, 3) := by decide +kernel
theorem dX10_penalise_109 : decode cX10_penalise 109 = .ok (.iconst 1, 1) := by decide +kernel
theorem dX10_penalise_110 : decode cX10_penalise 110 = .ok (.iload_n 3, 1) := by decide +kernel
theorem dX10_penalise_111 : decode cX10_penalise 111 = .ok (.aload_n 0, 1) := by decide +kernel
theorem dX10_penalise_112 : decode cX10_penalise 112 = .ok (.getfield 27, 3) := by decide +kernel
theorem dX10_penalise_115 : decode cX10_penalise 115 = .ok (.getfield 193, 3) := by decide +kernel
theorem dX10_penalise_118 : decode cX10_penalise 118 = .ok (.iload_n 2, 1) := by decide +kernel
theorem dX10_penalise_119 : decode cX10_penalise 119 = .ok (.iaload, 1) := by decide +kernel
theorem dX10_penalise_120 : decode cX10_penalise 120 = .ok (.invokevirtual 179, 3) := by decide +kernel
theorem dX10_penalise_123 : decode cX10_penalise 123 = .ok (.return_, 1) := by decide +kernel
theorem dX10_pick_0 : decode cX10_pick 0 = .ok (.iconst (-1), 1) := by decide +kernel
theorem dX10_pick_1 : decode cX10_pick 1 = .ok (.istore_n 2, 1) := by decide +kernel
theorem dX10_pick_2 : decode cX10_pick 2 = .ok (.iconst 0, 1) := by decide +kernel
theorem dX10_pick_3 : decode cX10_pick 3 = .ok (.istore_n 3, 1) := by decide +kernel
theorem dX10_pick_4 : decode cX10_pick 4 = .ok (.aload_n 0, 1) := by decide +kernel
theorem dX10_pick_5 : decode cX10_pick 5 = .ok (.getfield 54, 3) := by decide +kernel
theorem dX10_pick_8 : decode cX10_pick 8 = .ok (.iconst 0, 1) := by decide +kernel
theorem dX10_pick_9 : decode cX10_pick 9 = .ok (.aload_n 0, 1) := by decide +kernel
theorem dX10_pick_10 : decode cX10_pick 10 = .ok (.getfield 63, 3) := by decide +kernel
theorem dX10_pick_13 : decode cX10_pick 13 = .ok (.iastore, 1) := by decide +kernel
theorem dX10_pick_14 : decode cX10_pick 14 = .ok (.iconst 0, 1) := by decide +kernel
theorem dX10_pick_15 : decode cX10_pick 15 = .ok (.istore 4, 2) := by decide +kernel
theorem dX10_pick_17 : decode cX10_pick 17 = .ok (.iload 4, 2) := by decide +kernel
theorem dX10_pick_19 : decode cX10_pick 19 = .ok (.aload_n 0, 1) := by decide +kernel
theorem dX10_pick_20 : decode cX10_pick 20 = .ok (.getfield 58, 3) := by decide +kernel
theorem dX10_pick_23 : decode cX10_pick 23 = .ok (.getfield 102, 3) := by decide +kernel
theorem dX10_pick_26 : decode cX10_pick 26 = .ok (.if_icmp .ge 128, 3) := by decide +kernel
theorem dX10_pick_29 : decode cX10_pick 29 = .ok (.aload_n 0, 1) := by decide +kernel
theorem dX10_pick_30 : decode cX10_pick 30 = .ok (.getfield 11, 3) := by decide +kernel
theorem dX10_pick_33 : decode cX10_pick 33 = .ok (.iload 4, 2) := by decide +kernel
theorem dX10_pick_35 : decode cX10_pick 35 = .ok (.aaload, 1) := by decide +kernel
theorem dX10_pick_36 : decode cX10_pick 36 = .ok (.astore 5, 2) := by decide +kernel
theorem dX10_pick_38 : decode cX10_pick 38 = .ok (.iload 4, 2) := by decide +kernel
theorem dX10_pick_40 : decode cX10_pick 40 = .ok (.iload_n 1, 1) := by decide +kernel
theorem dX10_pick_41 : decode cX10_pick 41 = .ok (.if_icmp .eq 107, 3) := by decide +kernel
theorem dX10_pick_44 : decode cX10_pick 44 = .ok (.aload 5, 2) := by decide +kernel
theorem dX10_pick_46 : decode cX10_pick 46 = .ok (.invokevirtual 342, 3) := by decide +kernel
theorem dX10_pick_49 : decode cX10_pick 49 = .ok (.ifCond .eq 99, 3) := by decide +kernel
theorem dX10_pick_52 : decode cX10_pick 52 = .ok (.aload_n 0, 1) := by decide +kernel
theorem dX10_pick_53 : decode cX10_pick 53 = .ok (.getfield 54, 3) := by decide +kernel
theorem dX10_pick_56 : decode cX10_pick 56 = .ok (.iconst 1, 1) := by decide +kernel
theorem dX10_pick_57 : decode cX10_pick 57 = .ok (.iload 4, 2) := by decide +kernel
theorem dX10_pick_59 : decode cX10_pick 59 = .ok (.iastore, 1) := by decide +kernel
theorem dX10_pick_60 : decode cX10_pick 60 = .ok (.aload_n 0, 1) := by decide +kernel
theorem dX10_pick_61 : decode cX10_pick 61 = .ok (.getfield 54, 3) := by decide +kernel
theorem dX10_pick_64 : decode cX10_pick 64 = .ok (.iconst 4, 1) := by decide +kernel
theorem dX10_pick_65 : decode cX10_pick 65 = .ok (.aload 5, 2) := by decide +kernel
theorem dX10_pick_67 : decode cX10_pick 67 = .ok (.getfield 137, 3) := by decide +kernel
theorem dX10_pick_70 : decode cX10_pick 70 = .ok (.iastore, 1) := by decide +kernel
theorem dX10_pick_71 : decode cX10_pick 71 = .ok (.aload_n 0, 1) := by decide +kernel
theorem dX10_pick_72 : decode cX10_pick 72 = .ok (.getfield 54, 3) := by decide +kernel
theorem dX10_pick_75 : decode cX10_pick 75 = .ok (.iconst 5, 1) := by decide +kernel
theorem dX10_pick_76 : decode cX10_pick 76 = .ok (.aload 5, 2) := by decide +kernel
theorem dX10_pick_78 : decode cX10_pick 78 = .ok (.getfield 146, 3) := by decide +kernel
theorem dX10_pick_81 : decode cX10_pick 81 = .ok (.iastore, 1) := by decide +kernel
theorem dX10_pick_82 : decode cX10_pick 82 = .ok (.aload_n 0, 1) := by decide +kernel
theorem dX10_pick_83 : decode cX10_pick 83 = .ok (.getfield 54, 3) := by decide +kernel
theorem dX10_pick_86 : decode cX10_pick 86 = .ok (.bipush 6, 2) := by decide +kernel
theorem dX10_pick_88 : decode cX10_pick 88 = .ok (.aload 5, 2) := by decide +kernel
theorem dX10_pick_90 : decode cX10_pick 90 = .ok (.getfield 134, 3) := by decide +kernel
theorem dX10_pick_93 : decode cX10_pick 93 = .ok (.iastore, 1) := by decide +kernel
theorem dX10_pick_94 : decode cX10_pick 94 = .ok (.aload_n 0, 1) := by decide +kernel
theorem dX10_pick_95 : decode cX10_pick 95 = .ok (.getfield 58, 3) := by decide +kernel
theorem dX10_pick_98 : decode cX10_pick 98 = .ok (.getfield 345, 3) := by decide +kernel
theorem dX10_pick_101 : decode cX10_pick 101 = .ok (.invokevirtual 143, 3) := by decide +kernel
theorem dX10_pick_104 : decode cX10_pick 104 = .ok (.ifCond .eq 20, 3) := by decide +kernel
theorem dX10_pick_107 : decode cX10_pick 107 = .ok (.aload_n 0, 1) := by decide +kernel
theorem dX10_pick_108 : decode cX10_pick 108 = .ok (.getfield 58, 3) := by decide +kernel
theorem dX10_pick_111 : decode cX10_pick 111 = .ok (.getfield 345, 3) := by decide +kernel
theorem dX10_pick_114 : decode cX10_pick 114 = .ok (.aload_n 0, 1) := by decide +kernel
theorem dX10_pick_115 : decode cX10_pick 115 = .ok (.getfield 54, 3) := by decide +kernel
theorem dX10_pick_118 : decode cX10_pick 118 = .ok (.invokevirtual 152, 3) := by decide +kernel
theorem dX10_pick_121 : decode cX10_pick 121 = .ok (.goto 8, 3) := by decide +kernel
theorem dX10_pick_124 : decode cX10_pick 124 = .ok (.aload 5, 2) := by decide +kernel
theorem dX10_pick_126 : decode cX10_pick 126 = .ok (.getfield 137, 3) := by decide +kernel
theorem dX10_pick_129 : decode cX10_pick 129 = .ok (.istore 6, 2) := by decide +kernel
theorem dX10_pick_131 : decode cX10_pick 131 = .ok (.iload_n 2, 1) := by decide +kernel
theorem dX10_pick_132 : decode cX10_pick 132 = .ok (.iconst (-1), 1) := by decide +kernel
theorem dX10_pick_133 : decode cX10_pick 133 = .ok (.if_icmp .eq 9, 3) := by decide +kernel
theorem dX10_pick_136 : decode cX10_pick 136 = .ok (.iload 6, 2) := by decide +kernel
theorem dX10_pick_138 : decode cX10_pick 138 = .ok (.iload_n 3, 1) := by decide +kernel
theorem dX10_pick_139 : decode cX10_pick 139 = .ok (.if_icmp .ge 9, 3) := by decide +kernel
theorem dX10_pick_142 : decode cX10_pick 142 = .ok (.iload 4, 2) := by decide +kernel
theorem dX10_pick_144 : decode cX10_pick 144 = .ok (.istore_n 2, 1) := by decide +kernel
theorem dX10_pick_145 : decode cX10_pick 145 = .ok (.iload 6, 2) := by decide +kernel
theorem dX10_pick_147 : decode cX10_pick 147 = .ok (.istore_n 3, 1) := by decide +kernel
theorem dX10_pick_148 : decode cX10_pick 148 = .ok (.iinc 4 1, 3) := by decide +kernel
theorem dX10_pick_151 : decode cX10_pick 151 = .ok (.goto (-134), 3) := by decide +kernel
theorem dX10_pick_154 : decode cX10_pick 154 = .ok (.iload_n 2, 1) := by decide +kernel
theorem dX10_pick_155 : decode cX10_pick 155 = .ok (.ireturn, 1) := by decide +kernel
theorem dX10_send_0 : decode cX10_send 0 = .ok (.aload_n 0, 1) := by decide +kernel
theorem dX10_send_1 : decode cX10_send 1 = .ok (.getfield 11, 3) := by decide +kernel
theorem dX10_send_4 : decode cX10_send 4 = .ok (.iload_n 1, 1) := by decide +kernel
theorem dX10_send_5 : decode cX10_send 5 = .ok (.aaload, 1) := by decide +kernel
theorem dX10_send_6 : decode cX10_send 6 = .ok (.astore 5, 2) := by decide +kernel
theorem dX10_send_8 : decode cX10_send 8 = .ok (.aload_n 0, 1) := by decide +kernel
theorem dX10_send_9 : decode cX10_send 9 = .ok (.getfield 54, 3) := by decide +kernel
theorem dX10_send_12 : decode cX10_send 12 = .ok (.iconst 0, 1) := by decide +kernel
theorem dX10_send_13 : decode cX10_send 13 = .ok (.aload_n 0, 1) := by decide +kernel
theorem dX10_send_14 : decode cX10_send 14 = .ok (.getfield 63, 3) := by decide +kernel
theorem dX10_send_17 : decode cX10_send 17 = .ok (.iastore, 1) := by decide +kernel
theorem dX10_send_18 : decode cX10_send 18 = .ok (.aload_n 0, 1) := by decide +kernel
theorem dX10_send_19 : decode cX10_send 19 = .ok (.getfield 54, 3) := by decide +kernel
theorem dX10_send_22 : decode cX10_send 22 = .ok (.iconst 1, 1) := by decide +kernel
theorem dX10_send_23 : decode cX10_send 23 = .ok (.iload_n 1, 1) := by decide +kernel
theorem dX10_send_24 : decode cX10_send 24 = .ok (.iastore, 1) := by decide +kernel
theorem dX10_send_25 : decode cX10_send 25 = .ok (.aload_n 0, 1) := by decide +kernel
theorem dX10_send_26 : decode cX10_send 26 = .ok (.getfield 54, 3) := by decide +kernel
theorem dX10_send_29 : decode cX10_send 29 = .ok (.iconst 2, 1) := by decide +kernel
theorem dX10_send_30 : decode cX10_send 30 = .ok (.aload 5, 2) := by decide +kernel
theorem dX10_send_32 : decode cX10_send 32 = .ok (.getfield 348, 3) := by decide +kernel
theorem dX10_send_35 : decode cX10_send 35 = .ok (.iastore, 1) := by decide +kernel
theorem dX10_send_36 : decode cX10_send 36 = .ok (.aload_n 0, 1) := by decide +kernel
theorem dX10_send_37 : decode cX10_send 37 = .ok (.getfield 54, 3) := by decide +kernel
theorem dX10_send_40 : decode cX10_send 40 = .ok (.iconst 3, 1) := by decide +kernel
theorem dX10_send_41 : decode cX10_send 41 = .ok (.iload_n 2, 1) := by decide +kernel
theorem dX10_send_42 : decode cX10_send 42 = .ok (.iastore, 1) := by decide +kernel
theorem dX10_send_43 : decode cX10_send 43 = .ok (.aload_n 0, 1) := by decide +kernel
theorem dX10_send_44 : decode cX10_send 44 = .ok (.getfield 58, 3) := by decide +kernel
theorem dX10_send_47 : decode cX10_send 47 = .ok (.getfield 349, 3) := by decide +kernel
theorem dX10_send_50 : decode cX10_send 50 = .ok (.invokevirtual 143, 3) := by decide +kernel
theorem dX10_send_53 : decode cX10_send 53 = .ok (.ifCond .eq 24, 3) := by decide +kernel
theorem dX10_send_56 : decode cX10_send 56 = .ok (.aload_n 0, 1) := by decide +kernel
theorem dX10_send_57 : decode cX10_send 57 = .ok (.getfield 58, 3) := by decide +kernel
theorem dX10_send_60 : decode cX10_send 60 = .ok (.getfield 349, 3) := by decide +kernel
theorem dX10_send_63 : decode cX10_send 63 = .ok (.aload_n 0, 1) := by decide +kernel
theorem dX10_send_64 : decode cX10_send 64 = .ok (.getfield 54, 3) := by decide +kernel
theorem dX10_send_67 : decode cX10_send 67 = .ok (.invokevirtual 152, 3) := by decide +kernel
theorem dX10_send_70 : decode cX10_send 70 = .ok (.ifCond .eq 7, 3) := by decide +kernel
theorem dX10_send_73 : decode cX10_send 73 = .ok (.iconst 1, 1) := by decide +kernel
theorem dX10_send_74 : decode cX10_send 74 = .ok (.goto 4, 3) := by decide +kernel
theorem dX10_send_77 : decode cX10_send 77 = .ok (.iconst 0, 1) := by decide +kernel
theorem dX10_send_78 : decode cX10_send 78 = .ok (.istore 6, 2) := by decide +kernel
theorem dX10_send_80 : decode cX10_send 80 = .ok (.aload_n 0, 1) := by decide +kernel
theorem dX10_send_81 : decode cX10_send 81 = .ok (.getfield 202, 3) := by decide +kernel
theorem dX10_send_84 : decode cX10_send 84 = .ok (.ifCond .ne 9, 3) := by decide +kernel
theorem dX10_send_87 : decode cX10_send 87 = .ok (.aload_n 0, 1) := by decide +kernel
theorem dX10_send_88 : decode cX10_send 88 = .ok (.iload 6, 2) := by decide +kernel
theorem dX10_send_90 : decode cX10_send 90 = .ok (.putfield 208, 3) := by decide +kernel
theorem dX10_send_93 : decode cX10_send 93 = .ok (.aload 4, 2) := by decide +kernel
theorem dX10_send_95 : decode cX10_send 95 = .ok (.ifnull 33, 3) := by decide +kernel
theorem dX10_send_98 : decode cX10_send 98 = .ok (.aload 4, 2) := by decide +kernel
theorem dX10_send_100 : decode cX10_send 100 = .ok (.bipush 100, 2) := by decide +kernel
theorem dX10_send_102 : decode cX10_send 102 = .ok (.invokevirtual 352, 3) := by decide +kernel
theorem dX10_send_105 : decode cX10_send 105 = .ok (.aload_n 0, 1) := by decide +kernel
theorem dX10_send_106 : decode cX10_send 106 = .ok (.getfield 58, 3) := by decide +kernel
theorem dX10_send_109 : decode cX10_send 109 = .ok (.getfield 357, 3) := by decide +kernel
theorem dX10_send_112 : decode cX10_send 112 = .ok (.if_icmp .ge 16, 3) := by decide +kernel
theorem dX10_send_115 : decode cX10_send 115 = .ok (.iconst 1, 1) := by decide +kernel
theorem dX10_send_116 : decode cX10_send 116 = .ok (.istore 6, 2) := by decide +kernel
theorem dX10_send_118 : decode cX10_send 118 = .ok (.aload_n 0, 1) := by decide +kernel
theorem dX10_send_119 : decode cX10_send 119 = .ok (.dup, 1) := by decide +kernel
theorem dX10_send_120 : decode cX10_send 120 = .ok (.getfield 205, 3) := by decide +kernel
theorem dX10_send_123 : decode cX10_send 123 = .ok (.iconst 1, 1) := by decide +kernel
theorem dX10_send_124 : decode cX10_send 124 = .ok (.iadd, 1) := by decide +kernel
theorem dX10_send_125 : decode cX10_send 125 = .ok (.putfield 205, 3) := by decide +kernel
theorem dX10_send_128 : decode cX10_send 128 = .ok (.iload 6, 2) := by decide +kernel
theorem dX10_send_130 : decode cX10_send 130 = .ok (.ifCond .eq 7, 3) := by decide +kernel
theorem dX10_send_133 : decode cX10_send 133 = .ok (.iconst (-1), 1) := by decide +kernel
theorem dX10_send_134 : decode cX10_send 134 = .ok (.goto 13, 3) := by decide +kernel
theorem dX10_send_137 : decode cX10_send 137 = .ok (.aload_n 0, 1) := by decide +kernel
theorem dX10_send_138 : decode cX10_send 138 = .ok (.getfield 63, 3) := by decide +kernel
theorem dX10_send_141 : decode cX10_send 141 = .ok (.aload 5, 2) := by decide +kernel
theorem dX10_send_143 : decode cX10_send 143 = .ok (.getfield 137, 3) := by decide +kernel
theorem dX10_send_146 : decode cX10_send 146 = .ok (.iadd, 1) := by decide +kernel
theorem dX10_send_147 : decode cX10_send 147 = .ok (.istore 7, 2) := by decide +kernel
theorem dX10_send_149 : decode cX10_send 149 = .ok (.aload_n 0, 1) := by decide +kernel
theorem dX10_send_150 : decode cX10_send 150 = .ok (.getfield 27, 3) := by decide +kernel
theorem dX10_send_153 : decode cX10_send 153 = .ok (.iload_n 1, 1) := by decide +kernel
theorem dX10_send_154 : decode cX10_send 154 = .ok (.aload 5, 2) := by decide +kernel
theorem dX10_send_156 : decode cX10_send 156 = .ok (.getfield 348, 3) := by decide +kernel
theorem dX10_send_159 : decode cX10_send 159 = .ok (.iload_n 2, 1) := by decide +kernel
theorem dX10_send_160 : decode cX10_send 160 = .ok (.iload_n 3, 1) := by decide +kernel
theorem dX10_send_161 : decode cX10_send 161 = .ok (.aload_n 0, 1) := by decide +kernel
theorem dX10_send_162 : decode cX10_send 162 = .ok (.getfield 63, 3) := by decide +kernel
theorem dX10_send_165 : decode cX10_send 165 = .ok (.iload 7, 2) := by decide +kernel
theorem dX10_send_167 : decode cX10_send 167 = .ok (.aload 5, 2) := by decide +kernel
theorem dX10_send_169 : decode cX10_send 169 = .ok (.getfield 360, 3) := by decide +kernel
theorem dX10_send_172 : decode cX10_send 172 = .ok (.invokevirtual 363, 3) := by decide +kernel
theorem dX10_send_175 : decode cX10_send 175 = .ok (.aload 5, 2) := by decide +kernel
theorem dX10_send_177 : decode cX10_send 177 = .ok (.iconst 0, 1) := by decide +kernel
theorem dX10_send_178 : decode cX10_send 178 = .ok (.putfield 360, 3) := by decide +kernel
theorem dX10_send_181 : decode cX10_send 181 = .ok (.aload 5, 2) := by decide +kernel
theorem dX10_send_183 : decode cX10_send 183 = .ok (.dup, 1) := by decide +kernel
theorem dX10_send_184 : decode cX10_send 184 = .ok (.getfield 348, 3) := by decide +kernel
theorem dX10_send_187 : decode cX10_send 187 = .ok (.iconst 1, 1) := by decide +kernel
theorem dX10_send_188 : decode cX10_send 188 = .ok (.iadd, 1) := by decide +kernel
theorem dX10_send_189 : decode cX10_send 189 = .ok (.putfield 348, 3) := by decide +kernel
theorem dX10_send_192 : decode cX10_send 192 = .ok (.aload 5, 2) := by decide +kernel
theorem dX10_send_194 : decode cX10_send 194 = .ok (.dup, 1) := by decide +kernel
theorem dX10_send_195 : decode cX10_send 195 = .ok (.getfield 134, 3) := by decide +kernel
theorem dX10_send_198 : decode cX10_send 198 = .ok (.iconst 1, 1) := by decide +kernel
theorem dX10_send_199 : decode cX10_send 199 = .ok (.iadd, 1) := by decide +kernel
theorem dX10_send_200 : decode cX10_send 200 = .ok (.putfield 134, 3) := by decide +kernel
theorem dX10_send_203 : decode cX10_send 203 = .ok (.aload_n 0, 1) := by decide +kernel
theorem dX10_send_204 : decode cX10_send 204 = .ok (.dup, 1) := by decide +kernel
theorem dX10_send_205 : decode cX10_send 205 = .ok (.getfield 81, 3) := by decide +kernel
theorem dX10_send_208 : decode cX10_send 208 = .ok (.iload_n 3, 1) := by decide +kernel
theorem dX10_send_209 : decode cX10_send 209 = .ok (.iadd, 1) := by decide +kernel
theorem dX10_send_210 : decode cX10_send 210 = .ok (.putfield 81, 3) := by decide +kernel
theorem dX10_send_213 : decode cX10_send 213 = .ok (.aload_n 0, 1) := by decide +kernel
theorem dX10_send_214 : decode cX10_send 214 = .ok (.dup, 1) := by decide +kernel
theorem dX10_send_215 : decode cX10_send 215 = .ok (.getfield 202, 3) := by decide +kernel
theorem dX10_send_218 : decode cX10_send 218 = .ok (.iconst 1, 1) := by decide +kernel
theorem dX10_send_219 : decode cX10_send 219 = .ok (.iadd, 1) := by decide +kernel
theorem dX10_send_220 : decode cX10_send 220 = .ok (.putfield 202, 3) := by decide +kernel
theorem dX10_send_223 : decode cX10_send 223 = .ok (.return_, 1) := by decide +kernel
theorem dX11_init_0 : decode cX11_init 0 = .ok (.aload_n 0, 1) := by decide +kernel
theorem dX11_init_1 : decode cX11_init 1 = .ok (.invokespecial 1, 3) := by decide +kernel
theorem dX11_init_4 : decode cX11_init 4 = .ok (.aload_n 0, 1) := by decide +kernel
theorem dX11_init_5 : decode cX11_init 5 = .ok (.sipush 1600, 3) := by decide +kernel
theorem dX11_init_8 : decode cX11_init 8 = .ok (.newarray .int, 2) := by decide +kernel
theorem dX11_init_10 : decode cX11_init 10 = .ok (.putfield 9, 3) := by decide +kernel
theorem dX11_init_13 : decode cX11_init 13 = .ok (.aload_n 0, 1) := by decide +kernel
theorem dX11_init_14 : decode cX11_init 14 = .ok (.bipush 6, 2) := by decide +kernel
theorem dX11_init_16 : decode cX11_init 16 = .ok (.newarray .int, 2) := by decide +kernel
theorem dX11_init_18 : decode cX11_init 18 = .ok (.putfield 13, 3) := by decide +kernel
theorem dX11_init_21 : decode cX11_init 21 = .ok (.aload_n 0, 1) := by decide +kernel
theorem dX11_init_22 : decode cX11_init 22 = .ok (.new 16, 3) := by decide +kernel
theorem dX11_init_25 : decode cX11_init 25 = .ok (.dup, 1) := by decide +kernel
theorem dX11_init_26 : decode cX11_init 26 = .ok (.invokespecial 18, 3) := by decide +kernel
theorem dX11_init_29 : decode cX11_init 29 = .ok (.putfield 19, 3) := by decide +kernel
theorem dX11_init_32 : decode cX11_init 32 = .ok (.aload_n 0, 1) := by decide +kernel
theorem dX11_init_33 : decode cX11_init 33 = .ok (.new 23, 3) := by decide +kernel
theorem dX11_init_36 : decode cX11_init 36 = .ok (.dup, 1) := by decide +kernel
theorem dX11_init_37 : decode cX11_init 37 = .ok (.invokespecial 25, 3) := by decide +kernel
theorem dX11_init_40 : decode cX11_init 40 = .ok (.putfield 26, 3) := by decide +kernel
theorem dX11_init_43 : decode cX11_init 43 = .ok (.aload_n 0, 1) := by decide +kernel
theorem dX11_init_44 : decode cX11_init 44 = .ok (.new 23, 3) := by decide +kernel
theorem dX11_init_47 : decode cX11_init 47 = .ok (.dup, 1) := by decide +kernel
theorem dX11_init_48 : decode cX11_init 48 = .ok (.invokespecial 25, 3) := by decide +kernel
theorem dX11_init_51 : decode cX11_init 51 = .ok (.putfield 30, 3) := by decide +kernel
theorem dX11_init_54 : decode cX11_init 54 = .ok (.aload_n 0, 1) := by decide +kernel
theorem dX11_init_55 : decode cX11_init 55 = .ok (.new 33, 3) := by decide +kernel
theorem dX11_init_58 : decode cX11_init 58 = .ok (.dup, 1) := by decide +kernel
theorem dX11_init_59 : decode cX11_init 59 = .ok (.aload_n 0, 1) := by decide +kernel
theorem dX11_init_60 : decode cX11_init 60 = .ok (.getfield 9, 3) := by decide +kernel
theorem dX11_init_63 : decode cX11_init 63 = .ok (.aload_n 0, 1) := by decide +kernel
theorem dX11_init_64 : decode cX11_init 64 = .ok (.getfield 30, 3) := by decide +kernel
theorem dX11_init_67 : decode cX11_init 67 = .ok (.invokespecial 35, 3) := by decide +kernel
theorem dX11_init_70 : decode cX11_init 70 = .ok (.putfield 38, 3) := by decide +kernel
theorem dX11_init_73 : decode cX11_init 73 = .ok (.aload_n 0, 1) := by decide +kernel
theorem dX11_init_74 : decode cX11_init 74 = .ok (.new 42, 3) := by decide +kernel
theorem dX11_init_77 : decode cX11_init 77 = .ok (.dup, 1) := by decide +kernel
theorem dX11_init_78 : decode cX11_init 78 = .ok (.aload_n 0, 1) := by decide +kernel
theorem dX11_init_79 : decode cX11_init 79 = .ok (.getfield 26, 3) := by decide +kernel
theorem dX11_init_82 : decode cX11_init 82 = .ok (.invokespecial 44, 3) := by decide +kernel
theorem dX11_init_85 : decode cX11_init 85 = .ok (.putfield 47, 3) := by decide +kernel
theorem dX11_init_88 : decode cX11_init 88 = .ok (.aload_n 0, 1) := by decide +kernel
theorem dX11_init_89 : decode cX11_init 89 = .ok (.new 42, 3) := by decide +kernel
theorem dX11_init_92 : decode cX11_init 92 = .ok (.dup, 1) := by decide +kernel
theorem dX11_init_93 : decode cX11_init 93 = .ok (.aload_n 0, 1) := by decide +kernel
theorem dX11_init_94 : decode cX11_init 94 = .ok (.getfield 26, 3) := by decide +kernel
theorem dX11_init_97 : decode cX11_init 97 = .ok (.invokespecial 44, 3) := by decide +kernel
theorem dX11_init_100 : decode cX11_init 100 = .ok (.putfield 51, 3) := by decide +kernel
theorem dX11_init_103 : decode cX11_init 103 = .ok (.aload_n 0, 1) := by decide +kernel
theorem dX11_init_104 : decode cX11_init 104 = .ok (.bipush 20, 2) := by decide +kernel
theorem dX11_init_106 : decode cX11_init 106 = .ok (.anewarray 42, 3) := by decide +kernel
theorem dX11_init_109 : decode cX11_init 109 = .ok (.putfield 54, 3) := by decide +kernel
theorem dX11_init_112 : decode cX11_init 112 = .ok (.aload_n 0, 1) := by decide +kernel
theorem dX11_init_113 : decode cX11_init 113 = .ok (.bipush 48, 2) := by decide +kernel
theorem dX11_init_115 : decode cX11_init 115 = .ok (.newarray .int, 2) := by decide +kernel
theorem dX11_init_117 : decode cX11_init 117 = .ok (.putfield 58, 3) := by decide +kernel
theorem dX11_init_120 : decode cX11_init 120 = .ok (.aload_n 0, 1) := by decide +kernel
theorem dX11_init_121 : decode cX11_init 121 = .ok (.bipush 10, 2) := by decide +kernel
theorem dX11_init_123 : decode cX11_init 123 = .ok (.bipush 122, 2) := by decide +kernel
theorem dX11_init_125 : decode cX11_init 125 = .ok (.multianewarray 61 2, 4) := by decide +kernel
theorem dX11_init_129 : decode cX11_init 129 = .ok (.putfield 63, 3) := by decide +kernel
theorem dX11_init_132 : decode cX11_init 132 = .ok (.return_, 1) := by decide +kernel
theorem dX11_feed_0 : decode cX11_feed 0 = .ok (.aload_n 0, 1) := by decide +kernel
theorem dX11_feed_1 : decode cX11_feed 1 = .ok (.getfield 66, 3) := by decide +kernel
theorem dX11_feed_4 : decode cX11_feed 4 = .ok (.bipush 20, 2) := by decide +kernel
theorem dX11_feed_6 : decode cX11_feed 6 = .ok (.iadd, 1) := by decide +kernel
theorem dX11_feed_7 : decode cX11_feed 7 = .ok (.sipush 1600, 3) := by decide +kernel
theorem dX11_feed_10 : decode cX11_feed 10 = .ok (.if_icmp .le 9, 3) := by decide +kernel
theorem dX11_feed_13 : decode cX11_feed 13 = .ok (.aload_n 0, 1) := by decide +kernel
theorem dX11_feed_14 : decode cX11_feed 14 = .ok (.iconst 0, 1) := by decide +kernel
theorem dX11_feed_15 : decode cX11_feed 15 = .ok (.invokevirtual 70, 3) := by decide +kernel
theorem dX11_feed_18 : decode cX11_feed 18 = .ok (.ireturn, 1) := by decide +kernel
theorem dX11_feed_19 : decode cX11_feed 19 = .ok (.aload_n 0, 1) := by decide +kernel
theorem dX11_feed_20 : decode cX11_feed 20 = .ok (.iload_n 1, 1) := by decide +kernel
theorem dX11_feed_21 : decode cX11_feed 21 = .ok (.invokevirtual 74, 3) := by decide +kernel
theorem dX11_feed_24 : decode cX11_feed 24 = .ok (.aload_n 0, 1) := by decide +kernel
theorem dX11_feed_25 : decode cX11_feed 25 = .ok (.iload_n 2, 1) := by decide +kernel
theorem dX11_feed_26 : decode cX11_feed 26 = .ok (.invokevirtual 74, 3) := by decide +kernel
theorem dX11_feed_29 : decode cX11_feed 29 = .ok (.aload_n 0, 1) := by decide +kernel
theorem dX11_feed_30 : decode cX11_feed 30 = .ok (.iload_n 3, 1) := by decide +kernel
theorem dX11_feed_31 : decode cX11_feed 31 = .ok (.invokevirtual 74, 3) := by decide +kernel
theorem dX11_feed_34 : decode cX11_feed 34 = .ok (.aload_n 0, 1) := by decide +kernel
theorem dX11_feed_35 : decode cX11_feed 35 = .ok (.iload 4, 2) := by decide +kernel
theorem dX11_feed_37 : decode cX11_feed 37 = .ok (.invokevirtual 74, 3) := by decide +kernel
theorem dX11_feed_40 : decode cX11_feed 40 = .ok (.aload_n 0, 1) := by decide +kernel
theorem dX11_feed_41 : decode cX11_feed 41 = .ok (.iload 5, 2) := by decide +kernel
theorem dX11_feed_43 : decode cX11_feed 43 = .ok (.invokevirtual 74, 3) := by decide +kernel
theorem dX11_feed_46 : decode cX11_feed 46 = .ok (.aload_n 0, 1) := by decide +kernel
theorem dX11_feed_47 : decode cX11_feed 47 = .ok (.getfield 66, 3) := by decide +kernel
theorem dX11_feed_50 : decode cX11_feed 50 = .ok (.ireturn, 1) := by decide +kernel
theorem dX11_putNumber_0 : decode cX11_putNumber 0 = .ok (.bipush 24, 2) := by decide +kernel
theorem dX11_putNumber_2 : decode cX11_putNumber 2 = .ok (.istore_n 2, 1) := by decide +kernel
theorem dX11_putNumber_3 : decode cX11_putNumber 3 = .ok (.iload_n 2, 1) := by decide +kernel
theorem dX11_putNumber_4 : decode cX11_putNumber 4 = .ok (.ifCond .lt 45, 3) := by decide +kernel
theorem dX11_putNumber_7 : decode cX11_putNumber 7 = .ok (.aload_n 0, 1) := by decide +kernel
theorem dX11_putNumber_8 : decode cX11_putNumber 8 = .ok (.getfield 66, 3) := by decide +kernel
theorem dX11_putNumber_11 : decode cX11_putNumber 11 = .ok (.sipush 1600, 3) := by decide +kernel
theorem dX11_putNumber_14 : decode cX11_putNumber 14 = .ok (.if_icmp .ge 35, 3) := by decide +kernel
theorem dX11_putNumber_17 : decode cX11_putNumber 17 = .ok (.aload_n 0, 1) := by decide +kernel
theorem dX11_putNumber_18 : decode cX11_putNumber 18 = .ok (.getfield 9, 3) := by decide +kernel
theorem dX11_putNumber_21 : decode cX11_putNumber 21 = .ok (.aload_n 0, 1) := by decide +kernel
theorem dX11_putNumber_22 : decode cX11_putNumber 22 = .ok (.getfield 66, 3) := by decide +kernel
theorem dX11_putNumber_25 : decode cX11_putNumber 25 = .ok (.iload_n 1, 1) := by decide +kernel
theorem dX11_putNumber_26 : decode cX11_putNumber 26 = .ok (.iload_n 2, 1) := by decide +kernel
theorem dX11_putNumber_27 : decode cX11_putNumber 27 = .ok (.ishr, 1) := by decide +kernel
theorem dX11_putNumber_28 : decode cX11_putNumber 28 = .ok (.sipush 255, 3) := by decide +kernel
theorem dX11_putNumber_31 : decode cX11_putNumber 31 = .ok (.iand, 1) := by decide +kernel
theorem dX11_putNumber_32 : decode cX11_putNumber 32 = .ok (.iastore, 1) := by decide +kernel
theorem dX11_putNumber_33 : decode cX11_putNumber 33 = .ok (.aload_n 0, 1) := by decide +kernel
theorem dX11_putNumber_34 : decode cX11_putNumber 34 = .ok (.dup, 1) := by decide +kernel
theorem dX11_putNumber_35 : decode cX11_putNumber 35 = .ok (.getfield 66, 3) := by decide +kernel
theorem dX11_putNumber_38 : decode cX11_putNumber 38 = .ok (.iconst 1, 1) := by decide +kernel
theorem dX11_putNumber_39 : decode cX11_putNumber 39 = .ok (.iadd, 1) := by decide +kernel
theorem dX11_putNumber_40 : decode cX11_putNumber 40 = .ok (.putfield 66, 3) := by decide +kernel
theorem dX11_putNumber_43 : decode cX11_putNumber 43 = .ok (.iinc 2 (-8), 3) := by decide +kernel
theorem dX11_putNumber_46 : decode cX11_putNumber 46 = .ok (.goto (-43), 3) := by decide +kernel
theorem dX11_putNumber_49 : decode cX11_putNumber 49 = .ok (.return_, 1) := by decide +kernel
theorem dX11_end_0 : decode cX11_end 0 = .ok (.iload_n 1, 1) := by decide +kernel
theorem dX11_end_1 : decode cX11_end 1 = .ok (.ifCond .lt 11, 3) := by decide +kernel
theorem dX11_end_4 : decode cX11_end 4 = .ok (.iload_n 1, 1) := by decide +kernel
theorem dX11_end_5 : decode cX11_end 5 = .ok (.aload_n 0, 1) := by decide +kernel
theorem dX11_end_6 : decode cX11_end 6 = .ok (.getfield 66, 3) := by decide +kernel
theorem dX11_end_9 : decode cX11_end 9 = .ok (.if_icmp .le 15, 3) := by decide +kernel
theorem dX11_end_12 : decode cX11_end 12 = .ok (.aload_n 0, 1) := by decide +kernel
theorem dX11_end_13 : decode cX11_end 13 = .ok (.getfield 13, 3) := by decide +kernel
theorem dX11_end_16 : decode cX11_end 16 = .ok (.iconst 0, 1) := by decide +kernel
theorem dX11_end_17 : decode cX11_end 17 = .ok (.dup2, 1) := by decide +kernel
theorem dX11_end_18 : decode cX11_end 18 = .ok (.iaload, 1) := by decide +kernel
theorem dX11_end_19 : decode cX11_end 19 = .ok (.iconst 1, 1) := by decide +kernel
theorem dX11_end_20 : decode cX11_end 20 = .ok (.iadd, 1) := by decide +kernel
theorem dX11_end_21 : decode cX11_end 21 = .ok (.iastore, 1) := by decide +kernel
theorem dX11_end_22 : decode cX11_end 22 = .ok (.iconst 0, 1) := by decide +kernel
theorem dX11_end_23 : decode cX11_end 23 = .ok (.ireturn, 1) := by decide +kernel
theorem dX11_end_24 : decode cX11_end 24 = .ok (.aload_n 0, 1) := by decide +kernel
theorem dX11_end_25 : decode cX11_end 25 = .ok (.iload_n 1, 1) := by decide +kernel
theorem dX11_end_26 : decode cX11_end 26 = .ok (.putfield 66, 3) := by decide +kernel
theorem dX11_end_29 : decode cX11_end 29 = .ok (.iconst 1, 1) := by decide +kernel
theorem dX11_end_30 : decode cX11_end 30 = .ok (.ireturn, 1) := by decide +kernel
theorem dX11_stream_0 : decode cX11_stream 0 = .ok (.aload_n 0, 1) := by decide +kernel
theorem dX11_stream_1 : decode cX11_stream 1 = .ok (.getfield 38, 3) := by decide +kernel
theorem dX11_stream_4 : decode cX11_stream 4 = .ok (.aload_n 0, 1) := by decide +kernel
theorem dX11_stream_5 : decode cX11_stream 5 = .ok (.getfield 66, 3) := by decide +kernel
theorem dX11_stream_8 : decode cX11_stream 8 = .ok (.aload_n 0, 1) := by decide +kernel
theorem dX11_stream_9 : decode cX11_stream 9 = .ok (.getfield 30, 3) := by decide +kernel
theorem dX11_stream_12 : decode cX11_stream 12 = .ok (.invokevirtual 78, 3) := by decide +kernel
theorem dX11_stream_15 : decode cX11_stream 15 = .ok (.aload_n 0, 1) := by decide +kernel
theorem dX11_stream_16 : decode cX11_stream 16 = .ok (.iconst 0, 1) := by decide +kernel
theorem dX11_stream_17 : decode cX11_stream 17 = .ok (.putfield 66, 3) := by decide +kernel
theorem dX11_stream_20 : decode cX11_stream 20 = .ok (.aload_n 0, 1) := by decide +kernel
theorem dX11_stream_21 : decode cX11_stream 21 = .ok (.getfield 38, 3) := by decide +kernel
theorem dX11_stream_24 : decode cX11_stream 24 = .ok (.getfield 82, 3) := by decide +kernel
theorem dX11_stream_27 : decode cX11_stream 27 = .ok (.ifCond .eq 9, 3) := by decide +kernel
theorem dX11_stream_30 : decode cX11_stream 30 = .ok (.aload_n 0, 1) := by decide +kernel
theorem dX11_stream_31 : decode cX11_stream 31 = .ok (.iconst 1, 1) := by decide +kernel
theorem dX11_stream_32 : decode cX11_stream 32 = .ok (.invokevirtual 70, 3) := by decide +kernel
theorem dX11_stream_35 : decode cX11_stream 35 = .ok (.ireturn, 1) := by decide +kernel
theorem dX11_stream_36 : decode cX11_stream 36 = .ok (.aload_n 0, 1) := by decide +kernel
theorem dX11_stream_37 : decode cX11_stream 37 = .ok (.getfield 30, 3) := by decide +kernel
theorem dX11_stream_40 : decode cX11_stream 40 = .ok (.astore_n 1, 1) := by decide +kernel
theorem dX11_stream_41 : decode cX11_stream 41 = .ok (.aload_n 0, 1) := by decide +kernel
theorem dX11_stream_42 : decode cX11_stream 42 = .ok (.aload_n 0, 1) := by decide +kernel
theorem dX11_stream_43 : decode cX11_stream 43 = .ok (.getfield 26, 3) := by decide +kernel
theorem dX11_stream_46 : decode cX11_stream 46 = .ok (.putfield 30, 3) := by decide +kernel
theorem dX11_stream_49 : decode cX11_stream 49 = .ok (.aload_n 0, 1) := by decide +kernel
theorem dX11_stream_50 : decode cX11_stream 50 = .ok (.aload_n 1, 1) := by decide +kernel
theorem dX11_stream_51 : decode cX11_stream 51 = .ok (.putfield 26, 3) := by decide +kernel
theorem dX11_stream_54 : decode cX11_stream 54 = .ok (.aload_n 0, 1) := by decide +kernel
theorem dX11_stream_55 : decode cX11_stream 55 = .ok (.iconst 1, 1) := by decide +kernel
theorem dX11_stream_56 : decode cX11_stream 56 = .ok (.putfield 85, 3) := by decide +kernel
theorem dX11_stream_59 : decode cX11_stream 59 = .ok (.aload_n 0, 1) := by decide +kernel
theorem dX11_stream_60 : decode cX11_stream 60 = .ok (.getfield 47, 3) := by decide +kernel
theorem dX11_stream_63 : decode cX11_stream 63 = .ok (.aload_n 0, 1) := by decide +kernel
theorem dX11_stream_64 : decode cX11_stream 64 = .ok (.getfield 26, 3) := by decide +kernel
theorem dX11_stream_67 : decode cX11_stream 67 = .ok (.invokevirtual 89, 3) := by decide +kernel
theorem dX11_stream_70 : decode cX11_stream 70 = .ok (.aload_n 0, 1) := by decide +kernel
theorem dX11_stream_71 : decode cX11_stream 71 = .ok (.iconst 0, 1) := by decide +kernel
theorem dX11_stream_72 : decode cX11_stream 72 = .ok (.putfield 92, 3) := by decide +kernel
theorem dX11_stream_75 : decode cX11_stream 75 = .ok (.aload_n 0, 1) := by decide +kernel
theorem dX11_stream_76 : decode cX11_stream 76 = .ok (.iconst 0, 1) := by decide +kernel
theorem dX11_stream_77 : decode cX11_stream 77 = .ok (.putfield 95, 3) := by decide +kernel
theorem dX11_stream_80 : decode cX11_stream 80 = .ok (.aload_n 0, 1) := by decide +kernel
theorem dX11_stream_81 : decode cX11_stream 81 = .ok (.getfield 26, 3) := by decide +kernel
theorem dX11_stream_84 : decode cX11_stream 84 = .ok (.getfield 98, 3) := by decide +kernel
theorem dX11_stream_87 : decode cX11_stream 87 = .ok (.ireturn, 1) := by decide +kernel
theorem dX11_fault_0 : decode cX11_fault 0 = .ok (.iload_n 1, 1) := by decide +kernel
theorem dX11_fault_1 : decode cX11_fault 1 = .ok (.ifCond .ne 11, 3) := by decide +kernel
theorem dX11_fault_4 : decode cX11_fault 4 = .ok (.aload_n 0, 1) := by decide +kernel
theorem dX11_fault_5 : decode cX11_fault 5 = .ok (.getfield 38, 3) := by decide +kernel
theorem dX11_fault_8 : decode cX11_fault 8 = .ok (.getfield 82, 3) := by decide +kernel
theorem dX11_fault_11 : decode cX11_fault 11 = .ok (.ireturn, 1) := by decide +kernel
theorem dX11_fault_12 : decode cX11_fault 12 = .ok (.iload_n 1, 1) := by decide +kernel
theorem dX11_fault_13 : decode cX11_fault 13 = .ok (.iconst 1, 1) := by decide +kernel
theorem dX11_fault_14 : decode cX11_fault 14 = .ok (.if_icmp .ne 23, 3) := by decide +kernel
theorem dX11_fault_17 : decode cX11_fault 17 = .ok (.aload_n 0, 1) := by decide +kernel
theorem dX11_fault_18 : decode cX11_fault 18 = .ok (.getfield 38, 3) := by decide +kernel
theorem dX11_fault_21 : decode cX11_fault 21 = .ok (.getfield 82, 3) := by decide +kernel
theorem dX11_fault_24 : decode cX11_fault 24 = .ok (.ifCond .eq 13, 3) := by decide +kernel
theorem dX11_fault_27 : decode cX11_fault 27 = .ok (.aload_n 0, 1) := by decide +kernel
theorem dX11_fault_28 : decode cX11_fault 28 = .ok (.getfield 38, 3) := by decide +kernel
theorem dX11_fault_31 : decode cX11_fault 31 = .ok (.getfield 101, 3) := by decide +kernel
theorem dX11_fault_34 : decode cX11_fault 34 = .ok (.goto 4, 3) := by decide +kernel
theorem dX11_fault_37 : decode cX11_fault 37 = .ok (.iconst (-1), 1) := by decide +kernel
theorem dX11_fault_38 : decode cX11_fault 38 = .ok (.ireturn, 1) := by decide +kernel
theorem dX11_refuse_0 : decode cX11_refuse 0 = .ok (.aload_n 0, 1) := by decide +kernel
theorem dX11_refuse_1 : decode cX11_refuse 1 = .ok (.getfield 13, 3) := by decide +kernel
theorem dX11_refuse_4 : decode cX11_refuse 4 = .ok (.iload_n 1, 1) := by decide +kernel
theorem dX11_refuse_5 : decode cX11_refuse 5 = .ok (.dup2, 1) := by decide +kernel
theorem dX11_refuse_6 : decode cX11_refuse 6 = .ok (.iaload, 1) := by decide +kernel
theorem dX11_refuse_7 : decode cX11_refuse 7 = .ok (.iconst 1, 1) := by decide +kernel
theorem dX11_refuse_8 : decode cX11_refuse 8 = .ok (.iadd, 1) := by decide +kernel
theorem dX11_refuse_9 : decode cX11_refuse 9 = .ok (.iastore, 1) := by decide +kernel
theorem dX11_refuse_10 : decode cX11_refuse 10 = .ok (.iconst (-1), 1) := by decide +kernel
theorem dX11_refuse_11 : decode cX11_refuse 11 = .ok (.ireturn, 1) := by decide +kernel
theorem dX11_has_0 : decode cX11_has 0 = .ok (.iload_n 1, 1) := by decide +kernel
theorem dX11_has_1 : decode cX11_has 1 = .ok (.bipush 16, 2) := by decide +kernel
theorem dX11_has_3 : decode cX11_has 3 = .ok (.if_icmp .ne 11, 3) := by decide +kernel
theorem dX11_has_6 : decode cX11_has 6 = .ok (.aload_n 0, 1) := by decide +kernel
theorem dX11_has_7 : decode cX11_has 7 = .ok (.getfield 19, 3) := by decide +kernel
theorem dX11_has_10 : decode cX11_has 10 = .ok (.getfield 104, 3) := by decide +kernel
theorem dX11_has_13 : decode cX11_has 13 = .ok (.ireturn, 1) := by decide +kernel
theorem dX11_has_14 : decode cX11_has 14 = .ok (.iload_n 1, 1) := by decide +kernel
theorem dX11_has_15 : decode cX11_has 15 = .ok (.ifCond .lt 9, 3) := by decide +kernel
theorem dX11_has_18 : decode cX11_has 18 = .ok (.iload_n 1, 1) := by decide +kernel
theorem dX11_has_19 : decode cX11_has 19 = .ok (.bipush 16, 2) := by decide +kernel
theorem dX11_has_21 : decode cX11_has 21 = .ok (.if_icmp .le 5, 3) := by decide +kernel
theorem dX11_has_24 : decode cX11_has 24 = .ok (.iconst (-1), 1) := by decide +kernel
theorem dX11_has_25 : decode cX11_has 25 = .ok (.ireturn, 1) := by decide +kernel
theorem dX11_has_26 : decode cX11_has 26 = .ok (.aload_n 0, 1) := by decide +kernel
theorem dX11_has_27 : decode cX11_has 27 = .ok (.getfield 85, 3) := by decide +kernel
theorem dX11_has_30 : decode cX11_has 30 = .ok (.ifCond .eq 11, 3) := by decide +kernel
theorem dX11_has_33 : decode cX11_has 33 = .ok (.aload_n 0, 1) := by decide +kernel
theorem dX11_has_34 : decode cX11_has 34 = .ok (.iload_n 1, 1) := by decide +kernel
theorem dX11_has_35 : decode cX11_has 35 = .ok (.invokevirtual 107, 3) := by decide +kernel
theorem dX11_has_38 : decode cX11_has 38 = .ok (.goto 4, 3) := by decide +kernel
theorem dX11_has_41 : decode cX11_has 41 = .ok (.iconst 0, 1) := by decide +kernel
theorem dX11_has_42 : decode cX11_has 42 = .ok (.ireturn, 1) := by decide +kernel
theorem dX11_countOf_0 : decode cX11_countOf 0 = .ok (.iload_n 1, 1) := by decide +kernel
theorem dX11_countOf_1 : decode cX11_countOf 1 = .ok (.tableswitch 214 0 14 #[75, 83, 91, 99, 107, 115, 123, 131, 142, 153, 161, 172, 190, 198, 209], 75) := by decide +kernel
theorem dX11_countOf_76 : decode cX11_countOf 76 = .ok (.aload_n 0, 1) := by decide +kernel
theorem dX11_countOf_77 : decode cX11_countOf 77 = .ok (.getfield 26, 3) := by decide +kernel
theorem dX11_countOf_80 : decode cX11_countOf 80 = .ok (.getfield 110, 3) := by decide +kernel
theorem dX11_countOf_83 : decode cX11_countOf 83 = .ok (.ireturn, 1) := by decide +kernel
theorem dX11_countOf_84 : decode cX11_countOf 84 = .ok (.aload_n 0, 1) := by decide +kernel
theorem dX11_countOf_85 : decode cX11_countOf 85 = .ok (.getfield 26, 3) := by decide +kernel
theorem dX11_countOf_88 : decode cX11_countOf 88 = .ok (.getfield 113, 3) := by decide +kernel
theorem dX11_countOf_91 : decode cX11_countOf 91 = .ok (.ireturn, 1) := by decide +kernel
theorem dX11_countOf_92 : decode cX11_countOf 92 = .ok (.aload_n 0, 1) := by decide +kernel
theorem dX11_countOf_93 : decode cX11_countOf 93 = .ok (.getfield 47, 3) := by decide +kernel
theorem dX11_countOf_96 : decode cX11_countOf 96 = .ok (.invokevirtual 116, 3) := by decide +kernel
theorem dX11_countOf_99 : decode cX11_countOf 99 = .ok (.ireturn, 1) := by decide +kernel
theorem dX11_countOf_100 : decode cX11_countOf 100 = .ok (.aload_n 0, 1) := by decide +kernel
theorem dX11_countOf_101 : decode cX11_countOf 101 = .ok (.getfield 47, 3) := by decide +kernel
theorem dX11_countOf_104 : decode cX11_countOf 104 = .ok (.getfield 120, 3) := by decide +kernel
theorem dX11_countOf_107 : decode cX11_countOf 107 = .ok (.ireturn, 1) := by decide +kernel
theorem dX11_countOf_108 : decode cX11_countOf 108 = .ok (.aload_n 0, 1) := by decide +kernel
theorem dX11_countOf_109 : decode cX11_countOf 109 = .ok (.getfield 47, 3) := by decide +kernel
theorem dX11_countOf_112 : decode cX11_countOf 112 = .ok (.getfield 123, 3) := by decide +kernel
theorem dX11_countOf_115 : decode cX11_countOf 115 = .ok (.ireturn, 1) := by decide +kernel
theorem dX11_countOf_116 : decode cX11_countOf 116 = .ok (.aload_n 0, 1) := by decide +kernel
theorem dX11_countOf_117 : decode cX11_countOf 117 = .ok (.getfield 47, 3) := by decide +kernel
theorem dX11_countOf_120 : decode cX11_countOf 120 = .ok (.getfield 126, 3) := by decide +kernel
theorem dX11_countOf_123 : decode cX11_countOf 123 = .ok (.ireturn, 1) := by decide +kernel
theorem dX11_countOf_124 : decode cX11_countOf 124 = .ok (.aload_n 0, 1) := by decide +kernel
theorem dX11_countOf_125 : decode cX11_countOf 125 = .ok (.getfield 47, 3) := by decide +kernel
theorem dX11_countOf_128 : decode cX11_countOf 128 = .ok (.getfield 129, 3) := by decide +kernel
theorem dX11_countOf_131 : decode cX11_countOf 131 = .ok (.ireturn, 1) := by decide +kernel
theorem dX11_countOf_132 : decode cX11_countOf 132 = .ok (.aload_n 0, 1) := by decide +kernel
theorem dX11_countOf_133 : decode cX11_countOf 133 = .ok (.getfield 47, 3) := by decide +kernel
theorem dX11_countOf_136 : decode cX11_countOf 136 = .ok (.getfield 132, 3) := by decide +kernel
theorem dX11_countOf_139 : decode cX11_countOf 139 = .ok (.getfield 136, 3) := by decide +kernel
theorem dX11_countOf_142 : decode cX11_countOf 142 = .ok (.ireturn, 1) := by decide +kernel
theorem dX11_countOf_143 : decode cX11_countOf 143 = .ok (.aload_n 0, 1) := by decide +kernel
theorem dX11_countOf_144 : decode cX11_countOf 144 = .ok (.getfield 47, 3) := by decide +kernel
theorem dX11_countOf_147 : decode cX11_countOf 147 = .ok (.getfield 132, 3) := by decide +kernel
theorem dX11_countOf_150 : decode cX11_countOf 150 = .ok (.getfield 141, 3) := by decide +kernel
theorem dX11_countOf_153 : decode cX11_countOf 153 = .ok (.ireturn, 1) := by decide +kernel
theorem dX11_countOf_154 : decode cX11_countOf 154 = .ok (.aload_n 0, 1) := by decide +kernel
theorem dX11_countOf_155 : decode cX11_countOf 155 = .ok (.getfield 47, 3) := by decide +kernel
theorem dX11_countOf_158 : decode cX11_countOf 158 = .ok (.invokevirtual 144, 3) := by decide +kernel
theorem dX11_countOf_161 : decode cX11_countOf 161 = .ok (.ireturn, 1) := by decide +kernel
theorem dX11_countOf_162 : decode cX11_countOf 162 = .ok (.aload_n 0, 1) := by decide +kernel
theorem dX11_countOf_163 : decode cX11_countOf 163 = .ok (.getfield 47, 3) := by decide +kernel
theorem dX11_countOf_166 : decode cX11_countOf 166 = .ok (.getfield 147, 3) := by decide +kernel
theorem dX11_countOf_169 : decode cX11_countOf 169 = .ok (.getfield 151, 3) := by decide +kernel
theorem dX11_countOf_172 : decode cX11_countOf 172 = .ok (.ireturn, 1) := by decide +kernel
theorem dX11_countOf_173 : decode cX11_countOf 173 = .ok (.aload_n 0, 1) := by decide +kernel
theorem dX11_countOf_174 : decode cX11_countOf 174 = .ok (.getfield 47, 3) := by decide +kernel
theorem dX11_countOf_177 : decode cX11_countOf 177 = .ok (.getfield 156, 3) := by decide +kernel
theorem dX11_countOf_180 : decode cX11_countOf 180 = .ok (.aload_n 0, 1) := by decide +kernel
theorem dX11_countOf_181 : decode cX11_countOf 181 = .ok (.getfield 47, 3) := by decide +kernel
theorem dX11_countOf_184 : decode cX11_countOf 184 = .ok (.getfield 126, 3) := by decide +kernel
theorem dX11_countOf_187 : decode cX11_countOf 187 = .ok (.invokevirtual 160, 3) := by decide +kernel
theorem dX11_countOf_190 : decode cX11_countOf 190 = .ok (.ireturn, 1) := by decide +kernel
theorem dX11_countOf_191 : decode cX11_countOf 191 = .ok (.aload_n 0, 1) := by decide +kernel
theorem dX11_countOf_192 : decode cX11_countOf 192 = .ok (.getfield 47, 3) := by decide +kernel
theorem dX11_countOf_195 : decode cX11_countOf 195 = .ok (.getfield 165, 3) := by decide +kernel
theorem dX11_countOf_198 : decode cX11_countOf 198 = .ok (.ireturn, 1) := by decide +kernel
theorem dX11_countOf_199 : decode cX11_countOf 199 = .ok (.aload_n 0, 1) := by decide +kernel
theorem dX11_countOf_200 : decode cX11_countOf 200 = .ok (.getfield 47, 3) := by decide +kernel
theorem dX11_countOf_203 : decode cX11_countOf 203 = .ok (.getfield 168, 3) := by decide +kernel
theorem dX11_countOf_206 : decode cX11_countOf 206 = .ok (.getfield 172, 3) := by decide +kernel
theorem dX11_countOf_209 : decode cX11_countOf 209 = .ok (.ireturn, 1) := by decide +kernel
theorem dX11_countOf_210 : decode cX11_countOf 210 = .ok (.aload_n 0, 1) := by decide +kernel
theorem dX11_countOf_211 : decode cX11_countOf 211 = .ok (.getfield 92, 3) := by decide +kernel
theorem dX11_countOf_214 : decode cX11_countOf 214 = .ok (.ireturn, 1) := by decide +kernel
theorem dX11_countOf_215 : decode cX11_countOf 215 = .ok (.aload_n 0, 1) := by decide +kernel
theorem dX11_countOf_216 : decode cX11_countOf 216 = .ok (.getfield 95, 3) := by decide +kernel
theorem dX11_countOf_219 : decode cX11_countOf 219 = .ok (.ireturn, 1) := by decide +kernel
theorem dX11_isPath_0 : decode cX11_isPath 0 = .ok (.aload_n 0, 1) := by decide +kernel
theorem dX11_isPath_1 : decode cX11_isPath 1 = .ok (.getfield 85, 3) := by decide +kernel
theorem dX11_isPath_4 : decode cX11_isPath 4 = .ok (.ifCond .eq 22, 3) := by decide +kernel
theorem dX11_isPath_7 : decode cX11_isPath 7 = .ok (.iload_n 1, 1) := by decide +kernel
theorem dX11_isPath_8 : decode cX11_isPath 8 = .ok (.ifCond .lt 18, 3) := by decide +kernel
theorem dX11_isPath_11 : decode cX11_isPath 11 = .ok (.iload_n 1, 1) := by decide +kernel
theorem dX11_isPath_12 : decode cX11_isPath 12 = .ok (.aload_n 0, 1) := by decide +kernel
theorem dX11_isPath_13 : decode cX11_isPath 13 = .ok (.getfield 26, 3) := by decide +kernel
theorem dX11_isPath_16 : decode cX11_isPath 16 = .ok (.getfield 113, 3) := by decide +kernel
theorem dX11_isPath_19 : decode cX11_isPath 19 = .ok (.if_icmp .ge 7, 3) := by decide +kernel
theorem dX11_isPath_22 : decode cX11_isPath 22 = .ok (.iconst 1, 1) := by decide +kernel
theorem dX11_isPath_23 : decode cX11_isPath 23 = .ok (.goto 4, 3) := by decide +kernel
theorem dX11_isPath_26 : decode cX11_isPath 26 = .ok (.iconst 0, 1) := by decide +kernel
theorem dX11_isPath_27 : decode cX11_isPath 27 = .ok (.ireturn, 1) := by decide +kernel
theorem dX11_letter_0 : decode cX11_letter 0 = .ok (.aload_n 0, 1) := by decide +kernel
theorem dX11_letter_1 : decode cX11_letter 1 = .ok (.iload_n 1, 1) := by decide +kernel
theorem dX11_letter_2 : decode cX11_letter 2 = .ok (.invokevirtual 175, 3) := by decide +kernel
theorem dX11_letter_5 : decode cX11_letter 5 = .ok (.ifCond .eq 13, 3) := by decide +kernel
theorem dX11_letter_8 : decode cX11_letter 8 = .ok (.iload_n 2, 1) := by decide +kernel
theorem dX11_letter_9 : decode cX11_letter 9 = .ok (.ifCond .lt 9, 3) := by decide +kernel
theorem dX11_letter_12 : decode cX11_letter 12 = .ok (.iload_n 2, 1) := by decide +kernel
theorem dX11_letter_13 : decode cX11_letter 13 = .ok (.bipush 6, 2) := by decide +kernel
theorem dX11_letter_15 : decode cX11_letter 15 = .ok (.if_icmp .lt 5, 3) := by decide +kernel
theorem dX11_letter_18 : decode cX11_letter 18 = .ok (.iconst (-1), 1) := by decide +kernel
theorem dX11_letter_19 : decode cX11_letter 19 = .ok (.ireturn, 1) := by decide +kernel
theorem dX11_letter_20 : decode cX11_letter 20 = .ok (.aload_n 0, 1) := by decide +kernel
theorem dX11_letter_21 : decode cX11_letter 21 = .ok (.getfield 26, 3) := by decide +kernel
theorem dX11_letter_24 : decode cX11_letter 24 = .ok (.getfield 179, 3) := by decide +kernel
theorem dX11_letter_27 : decode cX11_letter 27 = .ok (.iload_n 1, 1) := by decide +kernel
theorem dX11_letter_28 : decode cX11_letter 28 = .ok (.iaload, 1) := by decide +kernel
theorem dX11_letter_29 : decode cX11_letter 29 = .ok (.iload_n 2, 1) := by decide +kernel
theorem dX11_letter_30 : decode cX11_letter 30 = .ok (.invokestatic 182, 3) := by decide +kernel
theorem dX11_letter_33 : decode cX11_letter 33 = .ok (.ireturn, 1) := by decide +kernel
theorem dX11_path_0 : decode cX11_path 0 = .ok (.aload_n 0, 1) := by decide +kernel
theorem dX11_path_1 : decode cX11_path 1 = .ok (.iload_n 1, 1) := by decide +kernel
theorem dX11_path_2 : decode cX11_path 2 = .ok (.invokevirtual 175, 3) := by decide +kernel
theorem dX11_path_5 : decode cX11_path 5 = .ok (.ifCond .ne 5, 3) := by decide +kernel
theorem dX11_path_8 : decode cX11_path 8 = .ok (.iconst (-1), 1) := by decide +kernel
theorem dX11_path_9 : decode cX11_path 9 = .ok (.ireturn, 1) := by decide +kernel
theorem dX11_path_10 : decode cX11_path 10 = .ok (.aload_n 0, 1) := by decide +kernel
theorem dX11_path_11 : decode cX11_path 11 = .ok (.getfield 47, 3) := by decide +kernel
theorem dX11_path_14 : decode cX11_path 14 = .ok (.getfield 186, 3) := by decide +kernel
theorem dX11_path_17 : decode cX11_path 17 = .ok (.iload_n 1, 1) := by decide +kernel
theorem dX11_path_18 : decode cX11_path 18 = .ok (.aaload, 1) := by decide +kernel
theorem dX11_path_19 : decode cX11_path 19 = .ok (.astore_n 3, 1) := by decide +kernel
theorem dX11_path_20 : decode cX11_path 20 = .ok (.iload_n 2, 1) := by decide +kernel
theorem dX11_path_21 : decode cX11_path 21 = .ok (.tableswitch 124 0 8 #[51, 56, 69, 82, 87, 92, 97, 102, 115], 51) := by decide +kernel
theorem dX11_path_72 : decode cX11_path 72 = .ok (.aload_n 3, 1) := by decide +kernel
theorem dX11_path_73 : decode cX11_path 73 = .ok (.getfield 190, 3) := by decide +kernel
theorem dX11_path_76 : decode cX11_path 76 = .ok (.ireturn, 1) := by decide +kernel
theorem dX11_path_77 : decode cX11_path 77 = .ok (.aload_n 3, 1) := by decide +kernel
theorem dX11_path_78 : decode cX11_path 78 = .ok (.getfield 195, 3) := by decide +kernel
theorem dX11_path_81 : decode cX11_path 81 = .ok (.ifCond .eq 7, 3) := by decide +kernel
theorem dX11_path_84 : decode cX11_path 84 = .ok (.iconst 1, 1) := by decide +kernel
theorem dX11_path_85 : decode cX11_path 85 = .ok (.goto 4, 3) := by decide +kernel
theorem dX11_path_88 : decode cX11_path 88 = .ok (.iconst 0, 1) := by decide +kernel
theorem dX11_path_89 : decode cX11_path 89 = .ok (.ireturn, 1) := by decide +kernel
theorem dX11_path_90 : decode cX11_path 90 = .ok (.aload_n 3, 1) := by decide +kernel
theorem dX11_path_91 : decode cX11_path 91 = .ok (.getfield 198, 3) := by decide +kernel
theorem dX11_path_94 : decode cX11_path 94 = .ok (.ifCond .eq 7, 3) := by decide +kernel
theorem dX11_path_97 : decode cX11_path 97 = .ok (.iconst 1, 1) := by decide +kernel
theorem dX11_path_98 : decode cX11_path 98 = .ok (.goto 4, 3) := by decide +kernel
theorem dX11_path_101 : decode cX11_path 101 = .ok (.iconst 0, 1) := by decide +kernel
theorem dX11_path_102 : decode cX11_path 102 = .ok (.ireturn, 1) := by decide +kernel
theorem dX11_path_103 : decode cX11_path 103 = .ok (.aload_n 3, 1) := by decide +kernel
theorem dX11_path_104 : decode cX11_path 104 = .ok (.getfield 201, 3) := by decide +kernel
theorem dX11_path_107 : decode cX11_path 107 = .ok (.ireturn, 1) := by decide +kernel
theorem dX11_path_108 : decode cX11_path 108 = .ok (.aload_n 3, 1) := by decide +kernel
theorem dX11_path_109 : decode cX11_path 109 = .ok (.getfield 204, 3) := by decide +kernel
theorem dX11_path_112 : decode cX11_path 112 = .ok (.ireturn, 1) := by decide +kernel
theorem dX11_path_113 : decode cX11_path 113 = .ok (.aload_n 3, 1) := by decide +kernel
theorem dX11_path_114 : decode cX11_path 114 = .ok (.getfield 207, 3) := by decide +kernel
theorem dX11_path_117 : decode cX11_path 117 = .ok (.ireturn, 1) := by decide +kernel
theorem dX11_path_118 : decode cX11_path 118 = .ok (.aload_n 3, 1) := by decide +kernel
theorem dX11_path_119 : decode cX11_path 119 = .ok (.getfield 209, 3) := by decide +kernel
theorem dX11_path_122 : decode cX11_path 122 = .ok (.ireturn, 1) := by decide +kernel
theorem dX11_path_123 : decode cX11_path 123 = .ok (.aload_n 3, 1) := by decide +kernel
theorem dX11_path_124 : decode cX11_path 124 = .ok (.getfield 210, 3) := by decide +kernel
theorem dX11_path_127 : decode cX11_path 127 = .ok (.ifCond .eq 7, 3) := by decide +kernel
theorem dX11_path_130 : decode cX11_path 130 = .ok (.iconst 1, 1) := by decide +kernel
theorem dX11_path_131 : decode cX11_path 131 = .ok (.goto 4, 3) := by decide +kernel
theorem dX11_path_134 : decode cX11_path 134 = .ok (.iconst 0, 1) := by decide +kernel
theorem dX11_path_135 : decode cX11_path 135 = .ok (.ireturn, 1) := by decide +kernel
theorem dX11_path_136 : decode cX11_path 136 = .ok (.aload_n 0, 1) := by decide +kernel
theorem dX11_path_137 : decode cX11_path 137 = .ok (.getfield 47, 3) := by decide +kernel
theorem dX11_path_140 : decode cX11_path 140 = .ok (.iload_n 1, 1) := by decide +kernel
theorem dX11_path_141 : decode cX11_path 141 = .ok (.invokevirtual 213, 3) := by decide +kernel
theorem dX11_path_144 : decode cX11_path 144 = .ok (.ireturn, 1) := by decide +kernel
theorem dX11_path_145 : decode cX11_path 145 = .ok (.iconst (-1), 1) := by decide +kernel
theorem dX11_path_146 : decode cX11_path 146 = .ok (.ireturn, 1) := by decide +kernel
theorem dX11_segment_0 : decode cX11_segment 0 = .ok (.aload_n 0, 1) := by decide +kernel
theorem dX11_segment_1 : decode cX11_segment 1 = .ok (.getfield 85, 3) := by decide +kernel
theorem dX11_segment_4 : decode cX11_segment 4 = .ok (.ifCond .ne 5, 3) := by decide +kernel
theorem dX11_segment_7 : decode cX11_segment 7 = .ok (.iconst (-1), 1) := by decide +kernel
theorem dX11_segment_8 : decode cX11_segment 8 = .ok (.ireturn, 1) := by decide +kernel
theorem dX11_segment_9 : decode cX11_segment 9 = .ok (.aload_n 0, 1) := by decide +kernel
theorem dX11_segment_10 : decode cX11_segment 10 = .ok (.getfield 47, 3) := by decide +kernel
theorem dX11_segment_13 : decode cX11_segment 13 = .ok (.getfield 216, 3) := by decide +kernel
theorem dX11_segment_16 : decode cX11_segment 16 = .ok (.astore_n 3, 1) := by decide +kernel
theorem dX11_segment_17 : decode cX11_segment 17 = .ok (.aload_n 3, 1) := by decide +kernel
theorem dX11_segment_18 : decode cX11_segment 18 = .ok (.iload_n 1, 1) := by decide +kernel
theorem dX11_segment_19 : decode cX11_segment 19 = .ok (.invokevirtual 220, 3) := by decide +kernel
theorem dX11_segment_22 : decode cX11_segment 22 = .ok (.istore 4, 2) := by decide +kernel
theorem dX11_segment_24 : decode cX11_segment 24 = .ok (.iload 4, 2) := by decide +kernel
theorem dX11_segment_26 : decode cX11_segment 26 = .ok (.iconst (-1), 1) := by decide +kernel
theorem dX11_segment_27 : decode cX11_segment 27 = .ok (.if_icmp .ne 5, 3) := by decide +kernel
theorem dX11_segment_30 : decode cX11_segment 30 = .ok (.iconst (-1), 1) := by decide +kernel
theorem dX11_segment_31 : decode cX11_segment 31 = .ok (.ireturn, 1) := by decide +kernel
theorem dX11_segment_32 : decode cX11_segment 32 = .ok (.iload_n 2, 1) := by decide +kernel
theorem dX11_segment_33 : decode cX11_segment 33 = .ok (.tableswitch 101 0 5 #[39, 47, 55, 63, 71, 79], 39) := by decide +kernel
theorem dX11_segment_72 : decode cX11_segment 72 = .ok (.aload_n 3, 1) := by decide +kernel
theorem dX11_segment_73 : decode cX11_segment 73 = .ok (.getfield 225, 3) := by decide +kernel
theorem dX11_segment_76 : decode cX11_segment 76 = .ok (.iload 4, 2) := by decide +kernel
theorem dX11_segment_78 : decode cX11_segment 78 = .ok (.iaload, 1) := by decide +kernel
theorem dX11_segment_79 : decode cX11_segment 79 = .ok (.ireturn, 1) := by decide +kernel
theorem dX11_segment_80 : decode cX11_segment 80 = .ok (.aload_n 3, 1) := by decide +kernel
theorem dX11_segment_81 : decode cX11_segment 81 = .ok (.getfield 228, 3) := by decide +kernel
theorem dX11_segment_84 : decode cX11_segment 84 = .ok (.iload 4, 2) := by decide +kernel
theorem dX11_segment_86 : decode cX11_segment 86 = .ok (.iaload, 1) := by decide +kernel
theorem dX11_segment_87 : decode cX11_segment 87 = .ok (.ireturn, 1) := by decide +kernel
theorem dX11_segment_88 : decode cX11_segment 88 = .ok (.aload_n 3, 1) := by decide +kernel
theorem dX11_segment_89 : decode cX11_segment 89 = .ok (.getfield 231, 3) := by decide +kernel
theorem dX11_segment_92 : decode cX11_segment 92 = .ok (.iload 4, 2) := by decide +kernel
theorem dX11_segment_94 : decode cX11_segment 94 = .ok (.iaload, 1) := by decide +kernel
theorem dX11_segment_95 : decode cX11_segment 95 = .ok (.ireturn, 1) := by decide +kernel
theorem dX11_segment_96 : decode cX11_segment 96 = .ok (.aload_n 3, 1) := by decide +kernel
theorem dX11_segment_97 : decode cX11_segment 97 = .ok (.getfield 234, 3) := by decide +kernel
theorem dX11_segment_100 : decode cX11_segment 100 = .ok (.iload 4, 2) := by decide +kernel
theorem dX11_segment_102 : decode cX11_segment 102 = .ok (.iaload, 1) := by decide +kernel
theorem dX11_segment_103 : decode cX11_segment 103 = .ok (.ireturn, 1) := by decide +kernel
theorem dX11_segment_104 : decode cX11_segment 104 = .ok (.aload_n 3, 1) := by decide +kernel
theorem dX11_segment_105 : decode cX11_segment 105 = .ok (.getfield 237, 3) := by decide +kernel
theorem dX11_segment_108 : decode cX11_segment 108 = .ok (.iload 4, 2) := by decide +kernel
theorem dX11_segment_110 : decode cX11_segment 110 = .ok (.iaload, 1) := by decide +kernel
theorem dX11_segment_111 : decode cX11_segment 111 = .ok (.ireturn, 1) := by decide +kernel
theorem dX11_segment_112 : decode cX11_segment 112 = .ok (.aload_n 0, 1) := by decide +kernel
theorem dX11_segment_113 : decode cX11_segment 113 = .ok (.getfield 26, 3) := by decide +kernel
theorem dX11_segment_116 : decode cX11_segment 116 = .ok (.aload_n 3, 1) := by decide +kernel
theorem dX11_segment_117 : decode cX11_segment 117 = .ok (.getfield 231, 3) := by decide +kernel
theorem dX11_segment_120 : decode cX11_segment 120 = .ok (.iload 4, 2) := by decide +kernel
theorem dX11_segment_122 : decode cX11_segment 122 = .ok (.iaload, 1) := by decide +kernel
theorem dX11_segment_123 : decode cX11_segment 123 = .ok (.aload_n 3, 1) := by decide +kernel
theorem dX11_segment_124 : decode cX11_segment 124 = .ok (.getfield 234, 3) := by decide +kernel
theorem dX11_segment_127 : decode cX11_segment 127 = .ok (.iload 4, 2) := by decide +kernel
theorem dX11_segment_129 : decode cX11_segment 129 = .ok (.iaload, 1) := by decide +kernel
theorem dX11_segment_130 : decode cX11_segment 130 = .ok (.invokevirtual 240, 3) := by decide +kernel
theorem dX11_segment_133 : decode cX11_segment 133 = .ok (.ireturn, 1) := by decide +kernel
theorem dX11_segment_134 : decode cX11_segment 134 = .ok (.iconst (-1), 1) := by decide +kernel
theorem dX11_segment_135 : decode cX11_segment 135 = .ok (.ireturn, 1) := by decide +kernel
theorem dX11_octet_0 : decode cX11_octet 0 = .ok (.aload_n 0, 1) := by decide +kernel
theorem dX11_octet_1 : decode cX11_octet 1 = .ok (.getfield 85, 3) := by decide +kernel
theorem dX11_octet_4 : decode cX11_octet 4 = .ok (.ifCond .eq 18, 3) := by decide +kernel
theorem dX11_octet_7 : decode cX11_octet 7 = .ok (.iload_n 1, 1) := by decide +kernel
theorem dX11_octet_8 : decode cX11_octet 8 = .ok (.ifCond .lt 14, 3) := by decide +kernel
theorem dX11_octet_11 : decode cX11_octet 11 = .ok (.iload_n 1, 1) := by decide +kernel
theorem dX11_octet_12 : decode cX11_octet 12 = .ok (.aload_n 0, 1) := by decide +kernel
theorem dX11_octet_13 : decode cX11_octet 13 = .ok (.getfield 26, 3) := by decide +kernel
theorem dX11_octet_16 : decode cX11_octet 16 = .ok (.getfield 110, 3) := by decide +kernel
theorem dX11_octet_19 : decode cX11_octet 19 = .ok (.if_icmp .lt 5, 3) := by decide +kernel
theorem dX11_octet_22 : decode cX11_octet 22 = .ok (.iconst (-1), 1) := by decide +kernel
theorem dX11_octet_23 : decode cX11_octet 23 = .ok (.ireturn, 1) := by decide +kernel
theorem dX11_octet_24 : decode cX11_octet 24 = .ok (.iload_n 1, 1) := by decide +kernel
theorem dX11_octet_25 : decode cX11_octet 25 = .ok (.aload_n 0, 1) := by decide +kernel
theorem dX11_octet_26 : decode cX11_octet 26 = .ok (.getfield 47, 3) := by decide +kernel
theorem dX11_octet_29 : decode cX11_octet 29 = .ok (.getfield 132, 3) := by decide +kernel
theorem dX11_octet_32 : decode cX11_octet 32 = .ok (.getfield 141, 3) := by decide +kernel
theorem dX11_octet_35 : decode cX11_octet 35 = .ok (.if_icmp .ge 5, 3) := by decide +kernel
theorem dX11_octet_38 : decode cX11_octet 38 = .ok (.iconst 2, 1) := by decide +kernel
theorem dX11_octet_39 : decode cX11_octet 39 = .ok (.ireturn, 1) := by decide +kernel
theorem dX11_octet_40 : decode cX11_octet 40 = .ok (.aload_n 0, 1) := by decide +kernel
theorem dX11_octet_41 : decode cX11_octet 41 = .ok (.getfield 47, 3) := by decide +kernel
theorem dX11_octet_44 : decode cX11_octet 44 = .ok (.getfield 132, 3) := by decide +kernel
theorem dX11_octet_47 : decode cX11_octet 47 = .ok (.getfield 243, 3) := by decide +kernel
theorem dX11_octet_50 : decode cX11_octet 50 = .ok (.iload_n 1, 1) := by decide +kernel
theorem dX11_octet_51 : decode cX11_octet 51 = .ok (.baload, 1) := by decide +kernel
theorem dX11_octet_52 : decode cX11_octet 52 = .ok (.ireturn, 1) := by decide +kernel
theorem dX11_refusals_0 : decode cX11_refusals 0 = .ok (.iload_n 1, 1) := by decide +kernel
theorem dX11_refusals_1 : decode cX11_refusals 1 = .ok (.ifCond .lt 8, 3) := by decide +kernel
theorem dX11_refusals_4 : decode cX11_refusals 4 = .ok (.iload_n 1, 1) := by decide +kernel
theorem dX11_refusals_5 : decode cX11_refusals 5 = .ok (.iconst 3, 1) := by decide +kernel
theorem dX11_refusals_6 : decode cX11_refusals 6 = .ok (.if_icmp .le 5, 3) := by decide +kernel
theorem dX11_refusals_9 : decode cX11_refusals 9 = .ok (.iconst (-1), 1) := by decide +kernel
theorem dX11_refusals_10 : decode cX11_refusals 10 = .ok (.ireturn, 1) := by decide +kernel
theorem dX11_refusals_11 : decode cX11_refusals 11 = .ok (.aload_n 0, 1) := by decide +kernel
theorem dX11_refusals_12 : decode cX11_refusals 12 = .ok (.getfield 85, 3) := by decide +kernel
theorem dX11_refusals_15 : decode cX11_refusals 15 = .ok (.ifCond .eq 18, 3) := by decide +kernel
theorem dX11_refusals_18 : decode cX11_refusals 18 = .ok (.aload_n 0, 1) := by decide +kernel
theorem dX11_refusals_19 : decode cX11_refusals 19 = .ok (.getfield 47, 3) := by decide +kernel
theorem dX11_refusals_22 : decode cX11_refusals 22 = .ok (.getfield 132, 3) := by decide +kernel
theorem dX11_refusals_25 : decode cX11_refusals 25 = .ok (.getfield 247, 3) := by decide +kernel
theorem dX11_refusals_28 : decode cX11_refusals 28 = .ok (.iload_n 1, 1) := by decide +kernel
theorem dX11_refusals_29 : decode cX11_refusals 29 = .ok (.iaload, 1) := by decide +kernel
theorem dX11_refusals_30 : decode cX11_refusals 30 = .ok (.goto 4, 3) := by decide +kernel
theorem dX11_refusals_33 : decode cX11_refusals 33 = .ok (.iconst 0, 1) := by decide +kernel
theorem dX11_refusals_34 : decode cX11_refusals 34 = .ok (.ireturn, 1) := by decide +kernel
theorem dX11_later_0 : decode cX11_later 0 = .ok (.iload_n 1, 1) := by decide +kernel
theorem dX11_later_1 : decode cX11_later 1 = .ok (.ifCond .lt 27, 3) := by decide +kernel
theorem dX11_later_4 : decode cX11_later 4 = .ok (.iload_n 1, 1) := by decide +kernel
theorem dX11_later_5 : decode cX11_later 5 = .ok (.sipush 200, 3) := by decide +kernel
theorem dX11_later_8 : decode cX11_later 8 = .ok (.if_icmp .gt 20, 3) := by decide +kernel
theorem dX11_later_11 : decode cX11_later 11 = .ok (.aload_n 0, 1) := by decide +kernel
theorem dX11_later_12 : decode cX11_later 12 = .ok (.iload_n 1, 1) := by decide +kernel
theorem dX11_later_13 : decode cX11_later 13 = .ok (.invokevirtual 248, 3) := by decide +kernel
theorem dX11_later_16 : decode cX11_later 16 = .ok (.ifCond .eq 12, 3) := by decide +kernel
theorem dX11_later_19 : decode cX11_later 19 = .ok (.iload_n 2, 1) := by decide +kernel
theorem dX11_later_20 : decode cX11_later 20 = .ok (.ifCond .lt 8, 3) := by decide +kernel
theorem dX11_later_23 : decode cX11_later 23 = .ok (.iload_n 2, 1) := by decide +kernel
theorem dX11_later_24 : decode cX11_later 24 = .ok (.iconst 4, 1) := by decide +kernel
theorem dX11_later_25 : decode cX11_later 25 = .ok (.if_icmp .le 5, 3) := by decide +kernel
theorem dX11_later_28 : decode cX11_later 28 = .ok (.iconst (-1), 1) := by decide +kernel
theorem dX11_later_29 : decode cX11_later 29 = .ok (.ireturn, 1) := by decide +kernel
theorem dX11_later_30 : decode cX11_later 30 = .ok (.aload_n 0, 1) := by decide +kernel
theorem dX11_later_31 : decode cX11_later 31 = .ok (.getfield 51, 3) := by decide +kernel
theorem dX11_later_34 : decode cX11_later 34 = .ok (.aload_n 0, 1) := by decide +kernel
theorem dX11_later_35 : decode cX11_later 35 = .ok (.getfield 47, 3) := by decide +kernel
theorem dX11_later_38 : decode cX11_later 38 = .ok (.invokevirtual 251, 3) := by decide +kernel
theorem dX11_later_41 : decode cX11_later 41 = .ok (.iconst 0, 1) := by decide +kernel
theorem dX11_later_42 : decode cX11_later 42 = .ok (.istore_n 3, 1) := by decide +kernel
theorem dX11_later_43 : decode cX11_later 43 = .ok (.iload_n 3, 1) := by decide +kernel
theorem dX11_later_44 : decode cX11_later 44 = .ok (.iload_n 1, 1) := by decide +kernel
theorem dX11_later_45 : decode cX11_later 45 = .ok (.if_icmp .ge 17, 3) := by decide +kernel
theorem dX11_later_48 : decode cX11_later 48 = .ok (.aload_n 0, 1) := by decide +kernel
theorem dX11_later_49 : decode cX11_later 49 = .ok (.getfield 51, 3) := by decide +kernel
theorem dX11_later_52 : decode cX11_later 52 = .ok (.aconst_null, 1) := by decide +kernel
theorem dX11_later_53 : decode cX11_later 53 = .ok (.invokevirtual 255, 3) := by decide +kernel
theorem dX11_later_56 : decode cX11_later 56 = .ok (.iinc 3 1, 3) := by decide +kernel
theorem dX11_later_59 : decode cX11_later 59 = .ok (.goto (-16), 3) := by decide +kernel
theorem dX11_later_62 : decode cX11_later 62 = .ok (.iload_n 2, 1) := by decide +kernel
theorem dX11_later_63 : decode cX11_later 63 = .ok (.tableswitch 64 0 3 #[29, 37, 45, 56], 29) := by decide +kernel
theorem dX11_later_92 : decode cX11_later 92 = .ok (.aload_n 0, 1) := by decide +kernel
theorem dX11_later_93 : decode cX11_later 93 = .ok (.getfield 51, 3) := by decide +kernel
theorem dX11_later_96 : decode cX11_later 96 = .ok (.getfield 123, 3) := by decide +kernel
theorem dX11_later_99 : decode cX11_later 99 = .ok (.ireturn, 1) := by decide +kernel
theorem dX11_later_100 : decode cX11_later 100 = .ok (.aload_n 0, 1) := by decide +kernel
theorem dX11_later_101 : decode cX11_later 101 = .ok (.getfield 51, 3) := by decide +kernel
theorem dX11_later_104 : decode cX11_later 104 = .ok (.getfield 126, 3) := by decide +kernel
theorem dX11_later_107 : decode cX11_later 107 = .ok (.ireturn, 1) := by decide +kernel
theorem dX11_later_108 : decode cX11_later 108 = .ok (.aload_n 0, 1) := by decide +kernel
theorem dX11_later_109 : decode cX11_later 109 = .ok (.getfield 51, 3) := by decide +kernel
theorem dX11_later_112 : decode cX11_later 112 = .ok (.getfield 132, 3) := by decide +kernel
theorem dX11_later_115 : decode cX11_later 115 = .ok (.getfield 141, 3) := by decide +kernel
theorem dX11_later_118 : decode cX11_later 118 = .ok (.ireturn, 1) := by decide +kernel
theorem dX11_later_119 : decode cX11_later 119 = .ok (.aload_n 0, 1) := by decide +kernel
theorem dX11_later_120 : decode cX11_later 120 = .ok (.getfield 51, 3) := by decide +kernel
theorem dX11_later_123 : decode cX11_later 123 = .ok (.invokevirtual 144, 3) := by decide +kernel
theorem dX11_later_126 : decode cX11_later 126 = .ok (.ireturn, 1) := by decide +kernel
theorem dX11_later_127 : decode cX11_later 127 = .ok (.aload_n 0, 1) := by decide +kernel
theorem dX11_later_128 : decode cX11_later 128 = .ok (.getfield 51, 3) := by decide +kernel
theorem dX11_later_131 : decode cX11_later 131 = .ok (.getfield 165, 3) := by decide +kernel
theorem dX11_later_134 : decode cX11_later 134 = .ok (.ireturn, 1) := by decide +kernel
theorem dX11_canGo_0 : decode cX11_canGo 0 = .ok (.aload_n 0, 1) := by decide +kernel
theorem dX11_canGo_1 : decode cX11_canGo 1 = .ok (.getfield 85, 3) := by decide +kernel
theorem dX11_canGo_4 : decode cX11_canGo 4 = .ok (.ifCond .eq 22, 3) := by decide +kernel
theorem dX11_canGo_7 : decode cX11_canGo 7 = .ok (.aload_n 0, 1) := by decide +kernel
theorem dX11_canGo_8 : decode cX11_canGo 8 = .ok (.getfield 47, 3) := by decide +kernel
theorem dX11_canGo_11 : decode cX11_canGo 11 = .ok (.getfield 120, 3) := by decide +kernel
theorem dX11_canGo_14 : decode cX11_canGo 14 = .ok (.iload_n 1, 1) := by decide +kernel
theorem dX11_canGo_15 : decode cX11_canGo 15 = .ok (.iadd, 1) := by decide +kernel
theorem dX11_canGo_16 : decode cX11_canGo 16 = .ok (.sipush 999, 3) := by decide +kernel
theorem dX11_canGo_19 : decode cX11_canGo 19 = .ok (.if_icmp .gt 7, 3) := by decide +kernel
theorem dX11_canGo_22 : decode cX11_canGo 22 = .ok (.iconst 1, 1) := by decide +kernel
theorem dX11_canGo_23 : decode cX11_canGo 23 = .ok (.goto 4, 3) := by decide +kernel
theorem dX11_canGo_26 : decode cX11_canGo 26 = .ok (.iconst 0, 1) := by decide +kernel
theorem dX11_canGo_27 : decode cX11_canGo 27 = .ok (.ireturn, 1) := by decide +kernel
theorem dX11_finish_0 : decode cX11_finish 0 = .ok (.aload_n 0, 1) := by decide +kernel
theorem dX11_finish_1 : decode cX11_finish 1 = .ok (.getfield 85, 3) := by decide +kernel
theorem dX11_finish_4 : decode cX11_finish 4 = .ok (.ifCond .ne 5, 3) := by decide +kernel
theorem dX11_finish_7 : decode cX11_finish 7 = .ok (.iconst (-1), 1) := by decide +kernel
theorem dX11_finish_8 : decode cX11_finish 8 = .ok (.ireturn, 1) := by decide +kernel
theorem dX11_finish_9 : decode cX11_finish 9 = .ok (.aload_n 0, 1) := by decide +kernel
theorem dX11_finish_10 : decode cX11_finish 10 = .ok (.getfield 51, 3) := by decide +kernel
theorem dX11_finish_13 : decode cX11_finish 13 = .ok (.aload_n 0, 1) := by decide +kernel
theorem dX11_finish_14 : decode cX11_finish 14 = .ok (.getfield 47, 3) := by decide +kernel
theorem dX11_finish_17 : decode cX11_finish 17 = .ok (.invokevirtual 251, 3) := by decide +kernel
theorem dX11_finish_20 : decode cX11_finish 20 = .ok (.aload_n 0, 1) := by decide +kernel
theorem dX11_finish_21 : decode cX11_finish 21 = .ok (.sipush 200, 3) := by decide +kernel
theorem dX11_finish_24 : decode cX11_finish 24 = .ok (.invokevirtual 259, 3) := by decide +kernel
theorem dX11_finish_27 : decode cX11_finish 27 = .ok (.ireturn, 1) := by decide +kernel
theorem dX11_ticksToFinish_0 : decode cX11_ticksToFinish 0 = .ok (.iconst 0, 1) := by decide +kernel
theorem dX11_ticksToFinish_1 : decode cX11_ticksToFinish 1 = .ok (.istore_n 2, 1) := by decide +kernel
theorem dX11_ticksToFinish_2 : decode cX11_ticksToFinish 2 = .ok (.iload_n 2, 1) := by decide +kernel
theorem dX11_ticksToFinish_3 : decode cX11_ticksToFinish 3 = .ok (.iload_n 1, 1) := by decide +kernel
theorem dX11_ticksToFinish_4 : decode cX11_ticksToFinish 4 = .ok (.if_icmp .gt 49, 3) := by decide +kernel
theorem dX11_ticksToFinish_7 : decode cX11_ticksToFinish 7 = .ok (.aload_n 0, 1) := by decide +kernel
theorem dX11_ticksToFinish_8 : decode cX11_ticksToFinish 8 = .ok (.getfield 51, 3) := by decide +kernel
theorem dX11_ticksToFinish_11 : decode cX11_ticksToFinish 11 = .ok (.invokevirtual 262, 3) := by decide +kernel
theorem dX11_ticksToFinish_14 : decode cX11_ticksToFinish 14 = .ok (.ifCond .eq 5, 3) := by decide +kernel
theorem dX11_ticksToFinish_17 : decode cX11_ticksToFinish 17 = .ok (.iload_n 2, 1) := by decide +kernel
theorem dX11_ticksToFinish_18 : decode cX11_ticksToFinish 18 = .ok (.ireturn, 1) := by decide +kernel
theorem dX11_ticksToFinish_19 : decode cX11_ticksToFinish 19 = .ok (.iload_n 2, 1) := by decide +kernel
theorem dX11_ticksToFinish_20 : decode cX11_ticksToFinish 20 = .ok (.iload_n 1, 1) := by decide +kernel
theorem dX11_ticksToFinish_21 : decode cX11_ticksToFinish 21 = .ok (.if_icmp .eq 16, 3) := by decide +kernel
theorem dX11_ticksToFinish_24 : decode cX11_ticksToFinish 24 = .ok (.aload_n 0, 1) := by decide +kernel
theorem dX11_ticksToFinish_25 : decode cX11_ticksToFinish 25 = .ok (.getfield 51, 3) := by decide +kernel
theorem dX11_ticksToFinish_28 : decode cX11_ticksToFinish 28 = .ok (.getfield 120, 3) := by decide +kernel
theorem dX11_ticksToFinish_31 : decode cX11_ticksToFinish 31 = .ok (.sipush 999, 3) := by decide +kernel
theorem dX11_ticksToFinish_34 : decode cX11_ticksToFinish 34 = .ok (.if_icmp .lt 5, 3) := by decide +kernel
theorem dX11_ticksToFinish_37 : decode cX11_ticksToFinish 37 = .ok (.iconst (-1), 1) := by decide +kernel
theorem dX11_ticksToFinish_38 : decode cX11_ticksToFinish 38 = .ok (.ireturn, 1) := by decide +kernel
theorem dX11_ticksToFinish_39 : decode cX11_ticksToFinish 39 = .ok (.aload_n 0, 1) := by decide +kernel
theorem dX11_ticksToFinish_40 : decode cX11_ticksToFinish 40 = .ok (.getfield 51, 3) := by decide +kernel
theorem dX11_ticksToFinish_43 : decode cX11_ticksToFinish 43 = .ok (.aconst_null, 1) := by decide +kernel
theorem dX11_ticksToFinish_44 : decode cX11_ticksToFinish 44 = .ok (.invokevirtual 255, 3) := by decide +kernel
theorem dX11_ticksToFinish_47 : decode cX11_ticksToFinish 47 = .ok (.iinc 2 1, 3) := by decide +kernel
theorem dX11_ticksToFinish_50 : decode cX11_ticksToFinish 50 = .ok (.goto (-48), 3) := by decide +kernel
theorem dX11_ticksToFinish_53 : decode cX11_ticksToFinish 53 = .ok (.iconst (-1), 1) := by decide +kernel
theorem dX11_ticksToFinish_54 : decode cX11_ticksToFinish 54 = .ok (.ireturn, 1) := by decide +kernel
theorem dX11_without_0 : decode cX11_without 0 = .ok (.aload_n 0, 1) := by decide +kernel
theorem dX11_without_1 : decode cX11_without 1 = .ok (.iload_n 1, 1) := by decide +kernel
theorem dX11_without_2 : decode cX11_without 2 = .ok (.invokevirtual 175, 3) := by decide +kernel
theorem dX11_without_5 : decode cX11_without 5 = .ok (.ifCond .ne 5, 3) := by decide +kernel
theorem dX11_without_8 : decode cX11_without 8 = .ok (.iconst (-1), 1) := by decide +kernel
theorem dX11_without_9 : decode cX11_without 9 = .ok (.ireturn, 1) := by decide +kernel
theorem dX11_without_10 : decode cX11_without 10 = .ok (.aload_n 0, 1) := by decide +kernel
theorem dX11_without_11 : decode cX11_without 11 = .ok (.getfield 51, 3) := by decide +kernel
theorem dX11_without_14 : decode cX11_without 14 = .ok (.aload_n 0, 1) := by decide +kernel
theorem dX11_without_15 : decode cX11_without 15 = .ok (.getfield 47, 3) := by decide +kernel
theorem dX11_without_18 : decode cX11_without 18 = .ok (.invokevirtual 251, 3) := by decide +kernel
theorem dX11_without_21 : decode cX11_without 21 = .ok (.aload_n 0, 1) := by decide +kernel
theorem dX11_without_22 : decode cX11_without 22 = .ok (.getfield 51, 3) := by decide +kernel
theorem dX11_without_25 : decode cX11_without 25 = .ok (.iload_n 1, 1) := by decide +kernel
theorem dX11_without_26 : decode cX11_without 26 = .ok (.invokevirtual 266, 3) := by decide +kernel
theorem dX11_without_29 : decode cX11_without 29 = .ok (.aload_n 0, 1) := by decide +kernel
theorem dX11_without_30 : decode cX11_without 30 = .ok (.sipush 200, 3) := by decide +kernel
theorem dX11_without_33 : decode cX11_without 33 = .ok (.invokevirtual 259, 3) := by decide +kernel
theorem dX11_without_36 : decode cX11_without 36 = .ok (.ireturn, 1) := by decide +kernel
theorem dX11_alone_0 : decode cX11_alone 0 = .ok (.aload_n 0, 1) := by decide +kernel
theorem dX11_alone_1 : decode cX11_alone 1 = .ok (.iload_n 1, 1) := by decide +kernel
theorem dX11_alone_2 : decode cX11_alone 2 = .ok (.invokevirtual 175, 3) := by decide +kernel
theorem dX11_alone_5 : decode cX11_alone 5 = .ok (.ifCond .ne 5, 3) := by decide +kernel
theorem dX11_alone_8 : decode cX11_alone 8 = .ok (.iconst (-1), 1) := by decide +kernel
theorem dX11_alone_9 : decode cX11_alone 9 = .ok (.ireturn, 1) := by decide +kernel
theorem dX11_alone_10 : decode cX11_alone 10 = .ok (.aload_n 0, 1) := by decide +kernel
theorem dX11_alone_11 : decode cX11_alone 11 = .ok (.getfield 51, 3) := by decide +kernel
theorem dX11_alone_14 : decode cX11_alone 14 = .ok (.aload_n 0, 1) := by decide +kernel
theorem dX11_alone_15 : decode cX11_alone 15 = .ok (.getfield 47, 3) := by decide +kernel
theorem dX11_alone_18 : decode cX11_alone 18 = .ok (.invokevirtual 251, 3) := by decide +kernel
theorem dX11_alone_21 : decode cX11_alone 21 = .ok (.iconst 0, 1) := by decide +kernel
theorem dX11_alone_22 : decode cX11_alone 22 = .ok (.istore_n 2, 1) := by decide +kernel
theorem dX11_alone_23 : decode cX11_alone 23 = .ok (.iload_n 2, 1) := by decide +kernel
theorem dX11_alone_24 : decode cX11_alone 24 = .ok (.aload_n 0, 1) := by decide +kernel
theorem dX11_alone_25 : decode cX11_alone 25 = .ok (.getfield 26, 3) := by decide +kernel
theorem dX11_alone_28 : decode cX11_alone 28 = .ok (.getfield 113, 3) := by decide +kernel
theorem dX11_alone_31 : decode cX11_alone 31 = .ok (.if_icmp .ge 22, 3) := by decide +kernel
theorem dX11_alone_34 : decode cX11_alone 34 = .ok (.iload_n 2, 1) := by decide +kernel
theorem dX11_alone_35 : decode cX11_alone 35 = .ok (.iload_n 1, 1) := by decide +kernel
theorem dX11_alone_36 : decode cX11_alone 36 = .ok (.if_icmp .eq 11, 3) := by decide +kernel
theorem dX11_alone_39 : decode cX11_alone 39 = .ok (.aload_n 0, 1) := by decide +kernel
theorem dX11_alone_40 : decode cX11_alone 40 = .ok (.getfield 51, 3) := by decide +kernel
theorem dX11_alone_43 : decode cX11_alone 43 = .ok (.iload_n 2, 1) := by decide +kernel
theorem dX11_alone_44 : decode cX11_alone 44 = .ok (.invokevirtual 266, 3) := by decide +kernel
theorem dX11_alone_47 : decode cX11_alone 47 = .ok (.iinc 2 1, 3) := by decide +kernel
theorem dX11_alone_50 : decode cX11_alone 50 = .ok (.goto (-27), 3) := by decide +kernel
theorem dX11_alone_53 : decode cX11_alone 53 = .ok (.aload_n 0, 1) := by decide +kernel
theorem dX11_alone_54 : decode cX11_alone 54 = .ok (.sipush 200, 3) := by decide +kernel
theorem dX11_alone_57 : decode cX11_alone 57 = .ok (.invokevirtual 259, 3) := by decide +kernel
theorem dX11_alone_60 : decode cX11_alone 60 = .ok (.ireturn, 1) := by decide +kernel
theorem dX11_window_0 : decode cX11_window 0 = .ok (.iload_n 1, 1) := by decide +kernel
theorem dX11_window_1 : decode cX11_window 1 = .ok (.iconst 1, 1) := by decide +kernel
theorem dX11_window_2 : decode cX11_window 2 = .ok (.if_icmp .lt 18, 3) := by decide +kernel
theorem dX11_window_5 : decode cX11_window 5 = .ok (.iload_n 1, 1) := by decide +kernel
theorem dX11_window_6 : decode cX11_window 6 = .ok (.sipush 200, 3) := by decide +kernel
theorem dX11_window_9 : decode cX11_window 9 = .ok (.if_icmp .gt 11, 3) := by decide +kernel
theorem dX11_window_12 : decode cX11_window 12 = .ok (.aload_n 0, 1) := by decide +kernel
theorem dX11_window_13 : decode cX11_window 13 = .ok (.iload_n 1, 1) := by decide +kernel
theorem dX11_window_14 : decode cX11_window 14 = .ok (.invokevirtual 248, 3) := by decide +kernel
theorem dX11_window_17 : decode cX11_window 17 = .ok (.ifCond .ne 5, 3) := by decide +kernel
theorem dX11_window_20 : decode cX11_window 20 = .ok (.iconst (-1), 1) := by decide +kernel
theorem dX11_window_21 : decode cX11_window 21 = .ok (.ireturn, 1) := by decide +kernel
theorem dX11_window_22 : decode cX11_window 22 = .ok (.aload_n 0, 1) := by decide +kernel
theorem dX11_window_23 : decode cX11_window 23 = .ok (.getfield 26, 3) := by decide +kernel
theorem dX11_window_26 : decode cX11_window 26 = .ok (.getfield 269, 3) := by decide +kernel
theorem dX11_window_29 : decode cX11_window 29 = .ok (.istore_n 2, 1) := by decide +kernel
theorem dX11_window_30 : decode cX11_window 30 = .ok (.iload_n 2, 1) := by decide +kernel
theorem dX11_window_31 : decode cX11_window 31 = .ok (.bipush 99, 2) := by decide +kernel
theorem dX11_window_33 : decode cX11_window 33 = .ok (.if_icmp .gt 42, 3) := by decide +kernel
theorem dX11_window_36 : decode cX11_window 36 = .ok (.aload_n 0, 1) := by decide +kernel
theorem dX11_window_37 : decode cX11_window 37 = .ok (.getfield 51, 3) := by decide +kernel
theorem dX11_window_40 : decode cX11_window 40 = .ok (.aload_n 0, 1) := by decide +kernel
theorem dX11_window_41 : decode cX11_window 41 = .ok (.getfield 47, 3) := by decide +kernel
theorem dX11_window_44 : decode cX11_window 44 = .ok (.invokevirtual 251, 3) := by decide +kernel
theorem dX11_window_47 : decode cX11_window 47 = .ok (.aload_n 0, 1) := by decide +kernel
theorem dX11_window_48 : decode cX11_window 48 = .ok (.getfield 51, 3) := by decide +kernel
theorem dX11_window_51 : decode cX11_window 51 = .ok (.getfield 132, 3) := by decide +kernel
theorem dX11_window_54 : decode cX11_window 54 = .ok (.iload_n 2, 1) := by decide +kernel
theorem dX11_window_55 : decode cX11_window 55 = .ok (.putfield 272, 3) := by decide +kernel
theorem dX11_window_58 : decode cX11_window 58 = .ok (.aload_n 0, 1) := by decide +kernel
theorem dX11_window_59 : decode cX11_window 59 = .ok (.iload_n 1, 1) := by decide +kernel
theorem dX11_window_60 : decode cX11_window 60 = .ok (.invokevirtual 259, 3) := by decide +kernel
theorem dX11_window_63 : decode cX11_window 63 = .ok (.iconst (-1), 1) := by decide +kernel
theorem dX11_window_64 : decode cX11_window 64 = .ok (.if_icmp .eq 5, 3) := by decide +kernel
theorem dX11_window_67 : decode cX11_window 67 = .ok (.iload_n 2, 1) := by decide +kernel
theorem dX11_window_68 : decode cX11_window 68 = .ok (.ireturn, 1) := by decide +kernel
theorem dX11_window_69 : decode cX11_window 69 = .ok (.iinc 2 1, 3) := by decide +kernel
theorem dX11_window_72 : decode cX11_window 72 = .ok (.goto (-42), 3) := by decide +kernel
theorem dX11_window_75 : decode cX11_window 75 = .ok (.iconst (-1), 1) := by decide +kernel
theorem dX11_window_76 : decode cX11_window 76 = .ok (.ireturn, 1) := by decide +kernel
theorem dX11_odds_0 : decode cX11_odds 0 = .ok (.iload_n 1, 1) := by decide +kernel
theorem dX11_odds_1 : decode cX11_odds 1 = .ok (.ifCond .lt 16, 3) := by decide +kernel
theorem dX11_odds_4 : decode cX11_odds 4 = .ok (.iload_n 1, 1) := by decide +kernel
theorem dX11_odds_5 : decode cX11_odds 5 = .ok (.iconst 1, 1) := by decide +kernel
theorem dX11_odds_6 : decode cX11_odds 6 = .ok (.if_icmp .gt 11, 3) := by decide +kernel
theorem dX11_odds_9 : decode cX11_odds 9 = .ok (.aload_n 0, 1) := by decide +kernel
theorem dX11_odds_10 : decode cX11_odds 10 = .ok (.iconst 1, 1) := by decide +kernel
theorem dX11_odds_11 : decode cX11_odds 11 = .ok (.invokevirtual 248, 3) := by decide +kernel
theorem dX11_odds_14 : decode cX11_odds 14 = .ok (.ifCond .ne 5, 3) := by decide +kernel
theorem dX11_odds_17 : decode cX11_odds 17 = .ok (.iconst (-1), 1) := by decide +kernel
theorem dX11_odds_18 : decode cX11_odds 18 = .ok (.ireturn, 1) := by decide +kernel
theorem dX11_odds_19 : decode cX11_odds 19 = .ok (.aload_n 0, 1) := by decide +kernel
theorem dX11_odds_20 : decode cX11_odds 20 = .ok (.getfield 51, 3) := by decide +kernel
theorem dX11_odds_23 : decode cX11_odds 23 = .ok (.aload_n 0, 1) := by decide +kernel
theorem dX11_odds_24 : decode cX11_odds 24 = .ok (.getfield 47, 3) := by decide +kernel
theorem dX11_odds_27 : decode cX11_odds 27 = .ok (.invokevirtual 251, 3) := by decide +kernel
theorem dX11_odds_30 : decode cX11_odds 30 = .ok (.aload_n 0, 1) := by decide +kernel
theorem dX11_odds_31 : decode cX11_odds 31 = .ok (.getfield 51, 3) := by decide +kernel
theorem dX11_odds_34 : decode cX11_odds 34 = .ok (.aconst_null, 1) := by decide +kernel
theorem dX11_odds_35 : decode cX11_odds 35 = .ok (.invokevirtual 255, 3) := by decide +kernel
theorem dX11_odds_38 : decode cX11_odds 38 = .ok (.aload_n 0, 1) := by decide +kernel
theorem dX11_odds_39 : decode cX11_odds 39 = .ok (.getfield 51, 3) := by decide +kernel
theorem dX11_odds_42 : decode cX11_odds 42 = .ok (.getfield 275, 3) := by decide +kernel
theorem dX11_odds_45 : decode cX11_odds 45 = .ok (.ifCond .ne 5, 3) := by decide +kernel
theorem dX11_odds_48 : decode cX11_odds 48 = .ok (.iconst (-1), 1) := by decide +kernel
theorem dX11_odds_49 : decode cX11_odds 49 = .ok (.ireturn, 1) := by decide +kernel
theorem dX11_odds_50 : decode cX11_odds 50 = .ok (.iload_n 1, 1) := by decide +kernel
theorem dX11_odds_51 : decode cX11_odds 51 = .ok (.iconst 1, 1) := by decide +kernel
theorem dX11_odds_52 : decode cX11_odds 52 = .ok (.if_icmp .ne 6, 3) := by decide +kernel
theorem dX11_odds_55 : decode cX11_odds 55 = .ok (.bipush 100, 2) := by decide +kernel
theorem dX11_odds_57 : decode cX11_odds 57 = .ok (.ireturn, 1) := by decide +kernel
theorem dX11_odds_58 : decode cX11_odds 58 = .ok (.aload_n 0, 1) := by decide +kernel
theorem dX11_odds_59 : decode cX11_odds 59 = .ok (.getfield 51, 3) := by decide +kernel
theorem dX11_odds_62 : decode cX11_odds 62 = .ok (.getfield 278, 3) := by decide +kernel
theorem dX11_odds_65 : decode cX11_odds 65 = .ok (.ifCond .eq 7, 3) := by decide +kernel
theorem dX11_odds_68 : decode cX11_odds 68 = .ok (.iconst 0, 1) := by decide +kernel
theorem dX11_odds_69 : decode cX11_odds 69 = .ok (.goto 13, 3) := by decide +kernel
theorem dX11_odds_72 : decode cX11_odds 72 = .ok (.bipush 100, 2) := by decide +kernel
theorem dX11_odds_74 : decode cX11_odds 74 = .ok (.aload_n 0, 1) := by decide +kernel
theorem dX11_odds_75 : decode cX11_odds 75 = .ok (.getfield 26, 3) := by decide +kernel
theorem dX11_odds_78 : decode cX11_odds 78 = .ok (.getfield 281, 3) := by decide +kernel
theorem dX11_odds_81 : decode cX11_odds 81 = .ok (.isub, 1) := by decide +kernel
theorem dX11_odds_82 : decode cX11_odds 82 = .ok (.ireturn, 1) := by decide +kernel
theorem dX11_meet_0 : decode cX11_meet 0 = .ok (.aload_n 0, 1) := by decide +kernel
theorem dX11_meet_1 : decode cX11_meet 1 = .ok (.getfield 66, 3) := by decide +kernel
theorem dX11_meet_4 : decode cX11_meet 4 = .ok (.istore_n 1, 1) := by decide +kernel
theorem dX11_meet_5 : decode cX11_meet 5 = .ok (.aload_n 0, 1) := by decide +kernel
theorem dX11_meet_6 : decode cX11_meet 6 = .ok (.iconst 0, 1) := by decide +kernel
theorem dX11_meet_7 : decode cX11_meet 7 = .ok (.putfield 66, 3) := by decide +kernel
theorem dX11_meet_10 : decode cX11_meet 10 = .ok (.aload_n 0, 1) := by decide +kernel
theorem dX11_meet_11 : decode cX11_meet 11 = .ok (.getfield 85, 3) := by decide +kernel
theorem dX11_meet_14 : decode cX11_meet 14 = .ok (.ifCond .eq 11, 3) := by decide +kernel
theorem dX11_meet_17 : decode cX11_meet 17 = .ok (.aload_n 0, 1) := by decide +kernel
theorem dX11_meet_18 : decode cX11_meet 18 = .ok (.iload_n 1, 1) := by decide +kernel
theorem dX11_meet_19 : decode cX11_meet 19 = .ok (.invokevirtual 284, 3) := by decide +kernel
theorem dX11_meet_22 : decode cX11_meet 22 = .ok (.ifCond .ne 9, 3) := by decide +kernel
theorem dX11_meet_25 : decode cX11_meet 25 = .ok (.aload_n 0, 1) := by decide +kernel
theorem dX11_meet_26 : decode cX11_meet 26 = .ok (.iconst 5, 1) := by decide +kernel
theorem dX11_meet_27 : decode cX11_meet 27 = .ok (.invokevirtual 70, 3) := by decide +kernel
theorem dX11_meet_30 : decode cX11_meet 30 = .ok (.ireturn, 1) := by decide +kernel
theorem dX11_meet_31 : decode cX11_meet 31 = .ok (.aload_n 0, 1) := by decide +kernel
theorem dX11_meet_32 : decode cX11_meet 32 = .ok (.getfield 9, 3) := by decide +kernel
theorem dX11_meet_35 : decode cX11_meet 35 = .ok (.iconst 0, 1) := by decide +kernel
theorem dX11_meet_36 : decode cX11_meet 36 = .ok (.aload_n 0, 1) := by decide +kernel
theorem dX11_meet_37 : decode cX11_meet 37 = .ok (.getfield 58, 3) := by decide +kernel
theorem dX11_meet_40 : decode cX11_meet 40 = .ok (.iconst 0, 1) := by decide +kernel
theorem dX11_meet_41 : decode cX11_meet 41 = .ok (.iload_n 1, 1) := by decide +kernel
theorem dX11_meet_42 : decode cX11_meet 42 = .ok (.invokestatic 287, 3) := by decide +kernel
theorem dX11_meet_45 : decode cX11_meet 45 = .ok (.aload_n 0, 1) := by decide +kernel
theorem dX11_meet_46 : decode cX11_meet 46 = .ok (.iload_n 1, 1) := by decide +kernel
theorem dX11_meet_47 : decode cX11_meet 47 = .ok (.iconst 3, 1) := by decide +kernel
theorem dX11_meet_48 : decode cX11_meet 48 = .ok (.idiv, 1) := by decide +kernel
theorem dX11_meet_49 : decode cX11_meet 49 = .ok (.putfield 92, 3) := by decide +kernel
theorem dX11_meet_52 : decode cX11_meet 52 = .ok (.aload_n 0, 1) := by decide +kernel
theorem dX11_meet_53 : decode cX11_meet 53 = .ok (.getfield 92, 3) := by decide +kernel
theorem dX11_meet_56 : decode cX11_meet 56 = .ok (.ireturn, 1) := by decide +kernel
theorem dX11_isMet_0 : decode cX11_isMet 0 = .ok (.iload_n 1, 1) := by decide +kernel
theorem dX11_isMet_1 : decode cX11_isMet 1 = .ok (.ifCond .eq 15, 3) := by decide +kernel
theorem dX11_isMet_4 : decode cX11_isMet 4 = .ok (.iload_n 1, 1) := by decide +kernel
theorem dX11_isMet_5 : decode cX11_isMet 5 = .ok (.bipush 48, 2) := by decide +kernel
theorem dX11_isMet_7 : decode cX11_isMet 7 = .ok (.if_icmp .gt 9, 3) := by decide +kernel
theorem dX11_isMet_10 : decode cX11_isMet 10 = .ok (.iload_n 1, 1) := by decide +kernel
theorem dX11_isMet_11 : decode cX11_isMet 11 = .ok (.iconst 3, 1) := by decide +kernel
theorem dX11_isMet_12 : decode cX11_isMet 12 = .ok (.irem, 1) := by decide +kernel
theorem dX11_isMet_13 : decode cX11_isMet 13 = .ok (.ifCond .eq 5, 3) := by decide +kernel
theorem dX11_isMet_16 : decode cX11_isMet 16 = .ok (.iconst 0, 1) := by decide +kernel
theorem dX11_isMet_17 : decode cX11_isMet 17 = .ok (.ireturn, 1) := by decide +kernel
theorem dX11_isMet_18 : decode cX11_isMet 18 = .ok (.iconst 0, 1) := by decide +kernel
theorem dX11_isMet_19 : decode cX11_isMet 19 = .ok (.istore_n 2, 1) := by decide +kernel
theorem dX11_isMet_20 : decode cX11_isMet 20 = .ok (.iload_n 2, 1) := by decide +kernel
theorem dX11_isMet_21 : decode cX11_isMet 21 = .ok (.iload_n 1, 1) := by decide +kernel
theorem dX11_isMet_22 : decode cX11_isMet 22 = .ok (.if_icmp .ge 48, 3) := by decide +kernel
theorem dX11_isMet_25 : decode cX11_isMet 25 = .ok (.aload_n 0, 1) := by decide +kernel
theorem dX11_isMet_26 : decode cX11_isMet 26 = .ok (.getfield 9, 3) := by decide +kernel
theorem dX11_isMet_29 : decode cX11_isMet 29 = .ok (.iload_n 2, 1) := by decide +kernel
theorem dX11_isMet_30 : decode cX11_isMet 30 = .ok (.iaload, 1) := by decide +kernel
theorem dX11_isMet_31 : decode cX11_isMet 31 = .ok (.bipush 60, 2) := by decide +kernel
theorem dX11_isMet_33 : decode cX11_isMet 33 = .ok (.if_icmp .gt 29, 3) := by decide +kernel
theorem dX11_isMet_36 : decode cX11_isMet 36 = .ok (.aload_n 0, 1) := by decide +kernel
theorem dX11_isMet_37 : decode cX11_isMet 37 = .ok (.getfield 9, 3) := by decide +kernel
theorem dX11_isMet_40 : decode cX11_isMet 40 = .ok (.iload_n 2, 1) := by decide +kernel
theorem dX11_isMet_41 : decode cX11_isMet 41 = .ok (.iconst 1, 1) := by decide +kernel
theorem dX11_isMet_42 : decode cX11_isMet 42 = .ok (.iadd, 1) := by decide +kernel
theorem dX11_isMet_43 : decode cX11_isMet 43 = .ok (.iaload, 1) := by decide +kernel
theorem dX11_isMet_44 : decode cX11_isMet 44 = .ok (.iconst 1, 1) := by decide +kernel
theorem dX11_isMet_45 : decode cX11_isMet 45 = .ok (.if_icmp .gt 17, 3) := by decide +kernel
theorem dX11_isMet_48 : decode cX11_isMet 48 = .ok (.aload_n 0, 1) := by decide +kernel
theorem dX11_isMet_49 : decode cX11_isMet 49 = .ok (.getfield 9, 3) := by decide +kernel
theorem dX11_isMet_52 : decode cX11_isMet 52 = .ok (.iload_n 2, 1) := by decide +kernel
theorem dX11_isMet_53 : decode cX11_isMet 53 = .ok (.iconst 2, 1) := by decide +kernel
theorem dX11_isMet_54 : decode cX11_isMet 54 = .ok (.iadd, 1) := by decide +kernel
theorem dX11_isMet_55 : decode cX11_isMet 55 = .ok (.iaload, 1) := by decide +kernel
theorem dX11_isMet_56 : decode cX11_isMet 56 = .ok (.sipush 200, 3) := by decide +kernel
theorem dX11_isMet_59 : decode cX11_isMet 59 = .ok (.if_icmp .le 5, 3) := by decide +kernel
theorem dX11_isMet_62 : decode cX11_isMet 62 = .ok (.iconst 0, 1) := by decide +kernel
theorem dX11_isMet_63 : decode cX11_isMet 63 = .ok (.ireturn, 1) := by decide +kernel
theorem dX11_isMet_64 : decode cX11_isMet 64 = .ok (.iinc 2 3, 3) := by decide +kernel
theorem dX11_isMet_67 : decode cX11_isMet 67 = .ok (.goto (-47), 3) := by decide +kernel
theorem dX11_isMet_70 : decode cX11_isMet 70 = .ok (.iconst 1, 1) := by decide +kernel
theorem dX11_isMet_71 : decode cX11_isMet 71 = .ok (.ireturn, 1) := by decide +kernel
theorem dX11_delays_0 : decode cX11_delays 0 = .ok (.aload_n 0, 1) := by decide +kernel
theorem dX11_delays_1 : decode cX11_delays 1 = .ok (.iload_n 1, 1) := by decide +kernel
theorem dX11_delays_2 : decode cX11_delays 2 = .ok (.invokevirtual 175, 3) := by decide +kernel
theorem dX11_delays_5 : decode cX11_delays 5 = .ok (.ifCond .ne 5, 3) := by decide +kernel
theorem dX11_delays_8 : decode cX11_delays 8 = .ok (.iconst (-1), 1) := by decide +kernel
theorem dX11_delays_9 : decode cX11_delays 9 = .ok (.ireturn, 1) := by decide +kernel
theorem dX11_delays_10 : decode cX11_delays 10 = .ok (.aload_n 0, 1) := by decide +kernel
theorem dX11_delays_11 : decode cX11_delays 11 = .ok (.aload_n 0, 1) := by decide +kernel
theorem dX11_delays_12 : decode cX11_delays 12 = .ok (.invokevirtual 293, 3) := by decide +kernel
theorem dX11_delays_15 : decode cX11_delays 15 = .ok (.invokevirtual 296, 3) := by decide +kernel
theorem dX11_delays_18 : decode cX11_delays 18 = .ok (.istore_n 2, 1) := by decide +kernel
theorem dX11_delays_19 : decode cX11_delays 19 = .ok (.aload_n 0, 1) := by decide +kernel
theorem dX11_delays_20 : decode cX11_delays 20 = .ok (.iload_n 1, 1) := by decide +kernel
theorem dX11_delays_21 : decode cX11_delays 21 = .ok (.iload_n 2, 1) := by decide +kernel
theorem dX11_delays_22 : decode cX11_delays 22 = .ok (.invokevirtual 299, 3) := by decide +kernel
theorem dX11_delays_25 : decode cX11_delays 25 = .ok (.aload_n 0, 1) := by decide +kernel
theorem dX11_delays_26 : decode cX11_delays 26 = .ok (.iload_n 2, 1) := by decide +kernel
theorem dX11_delays_27 : decode cX11_delays 27 = .ok (.invokevirtual 303, 3) := by decide +kernel
theorem dX11_delays_30 : decode cX11_delays 30 = .ok (.ireturn, 1) := by decide +kernel
theorem dX11_ticksComing_0 : decode cX11_ticksComing 0 = .ok (.iload_n 1, 1) := by decide +kernel
theorem dX11_ticksComing_1 : decode cX11_ticksComing 1 = .ok (.sipush 999, 3) := by decide +kernel
theorem dX11_ticksComing_4 : decode cX11_ticksComing 4 = .ok (.aload_n 0, 1) := by decide +kernel
theorem dX11_ticksComing_5 : decode cX11_ticksComing 5 = .ok (.getfield 47, 3) := by decide +kernel
theorem dX11_ticksComing_8 : decode cX11_ticksComing 8 = .ok (.getfield 120, 3) := by decide +kernel
theorem dX11_ticksComing_11 : decode cX11_ticksComing 11 = .ok (.isub, 1) := by decide +kernel
theorem dX11_ticksComing_12 : decode cX11_ticksComing 12 = .ok (.invokestatic 306, 3) := by decide +kernel
theorem dX11_ticksComing_15 : decode cX11_ticksComing 15 = .ok (.ireturn, 1) := by decide +kernel
theorem dX11_lastMetTick_0 : decode cX11_lastMetTick 0 = .ok (.iconst 0, 1) := by decide +kernel
theorem dX11_lastMetTick_1 : decode cX11_lastMetTick 1 = .ok (.istore_n 1, 1) := by decide +kernel
theorem dX11_lastMetTick_2 : decode cX11_lastMetTick 2 = .ok (.iconst 0, 1) := by decide +kernel
theorem dX11_lastMetTick_3 : decode cX11_lastMetTick 3 = .ok (.istore_n 2, 1) := by decide +kernel
theorem dX11_lastMetTick_4 : decode cX11_lastMetTick 4 = .ok (.iload_n 2, 1) := by decide +kernel
theorem dX11_lastMetTick_5 : decode cX11_lastMetTick 5 = .ok (.aload_n 0, 1) := by decide +kernel
theorem dX11_lastMetTick_6 : decode cX11_lastMetTick 6 = .ok (.getfield 92, 3) := by decide +kernel
theorem dX11_lastMetTick_9 : decode cX11_lastMetTick 9 = .ok (.if_icmp .ge 22, 3) := by decide +kernel
theorem dX11_lastMetTick_12 : decode cX11_lastMetTick 12 = .ok (.iload_n 1, 1) := by decide +kernel
theorem dX11_lastMetTick_13 : decode cX11_lastMetTick 13 = .ok (.aload_n 0, 1) := by decide +kernel
theorem dX11_lastMetTick_14 : decode cX11_lastMetTick 14 = .ok (.getfield 58, 3) := by decide +kernel
theorem dX11_lastMetTick_17 : decode cX11_lastMetTick 17 = .ok (.iconst 3, 1) := by decide +kernel
theorem dX11_lastMetTick_18 : decode cX11_lastMetTick 18 = .ok (.iload_n 2, 1) := by decide +kernel
theorem dX11_lastMetTick_19 : decode cX11_lastMetTick 19 = .ok (.imul, 1) := by decide +kernel
theorem dX11_lastMetTick_20 : decode cX11_lastMetTick 20 = .ok (.iaload, 1) := by decide +kernel
theorem dX11_lastMetTick_21 : decode cX11_lastMetTick 21 = .ok (.invokestatic 311, 3) := by decide +kernel
theorem dX11_lastMetTick_24 : decode cX11_lastMetTick 24 = .ok (.istore_n 1, 1) := by decide +kernel
theorem dX11_lastMetTick_25 : decode cX11_lastMetTick 25 = .ok (.iinc 2 1, 3) := by decide +kernel
theorem dX11_lastMetTick_28 : decode cX11_lastMetTick 28 = .ok (.goto (-24), 3) := by decide +kernel
theorem dX11_lastMetTick_31 : decode cX11_lastMetTick 31 = .ok (.iload_n 1, 1) := by decide +kernel
theorem dX11_lastMetTick_32 : decode cX11_lastMetTick 32 = .ok (.ireturn, 1) := by decide +kernel
theorem dX11_foresee_0 : decode cX11_foresee 0 = .ok (.iconst 1, 1) := by decide +kernel
theorem dX11_foresee_1 : decode cX11_foresee 1 = .ok (.istore_n 3, 1) := by decide +kernel
theorem dX11_foresee_2 : decode cX11_foresee 2 = .ok (.iload_n 3, 1) := by decide +kernel
theorem dX11_foresee_3 : decode cX11_foresee 3 = .ok (.bipush 9, 2) := by decide +kernel
theorem dX11_foresee_5 : decode cX11_foresee 5 = .ok (.if_icmp .gt 109, 3) := by decide +kernel
theorem dX11_foresee_8 : decode cX11_foresee 8 = .ok (.aload_n 0, 1) := by decide +kernel
theorem dX11_foresee_9 : decode cX11_foresee 9 = .ok (.getfield 63, 3) := by decide +kernel
theorem dX11_foresee_12 : decode cX11_foresee 12 = .ok (.iload_n 3, 1) := by decide +kernel
theorem dX11_foresee_13 : decode cX11_foresee 13 = .ok (.aaload, 1) := by decide +kernel
theorem dX11_foresee_14 : decode cX11_foresee 14 = .ok (.astore 4, 2) := by decide +kernel
theorem dX11_foresee_16 : decode cX11_foresee 16 = .ok (.aload_n 0, 1) := by decide +kernel
theorem dX11_foresee_17 : decode cX11_foresee 17 = .ok (.getfield 51, 3) := by decide +kernel
theorem dX11_foresee_20 : decode cX11_foresee 20 = .ok (.aload_n 0, 1) := by decide +kernel
theorem dX11_foresee_21 : decode cX11_foresee 21 = .ok (.getfield 47, 3) := by decide +kernel
theorem dX11_foresee_24 : decode cX11_foresee 24 = .ok (.invokevirtual 251, 3) := by decide +kernel
theorem dX11_foresee_27 : decode cX11_foresee 27 = .ok (.aload_n 0, 1) := by decide +kernel
theorem dX11_foresee_28 : decode cX11_foresee 28 = .ok (.getfield 51, 3) := by decide +kernel
theorem dX11_foresee_31 : decode cX11_foresee 31 = .ok (.getfield 186, 3) := by decide +kernel
theorem dX11_foresee_34 : decode cX11_foresee 34 = .ok (.iload_n 1, 1) := by decide +kernel
theorem dX11_foresee_35 : decode cX11_foresee 35 = .ok (.aaload, 1) := by decide +kernel
theorem dX11_foresee_36 : decode cX11_foresee 36 = .ok (.iload_n 3, 1) := by decide +kernel
theorem dX11_foresee_37 : decode cX11_foresee 37 = .ok (.putfield 190, 3) := by decide +kernel
theorem dX11_foresee_40 : decode cX11_foresee 40 = .ok (.iconst 0, 1) := by decide +kernel
theorem dX11_foresee_41 : decode cX11_foresee 41 = .ok (.istore 5, 2) := by decide +kernel
theorem dX11_foresee_43 : decode cX11_foresee 43 = .ok (.iload 5, 2) := by decide +kernel
theorem dX11_foresee_45 : decode cX11_foresee 45 = .ok (.iload_n 2, 1) := by decide +kernel
theorem dX11_foresee_46 : decode cX11_foresee 46 = .ok (.if_icmp .gt 62, 3) := by decide +kernel
theorem dX11_foresee_49 : decode cX11_foresee 49 = .ok (.iload 5, 2) := by decide +kernel
theorem dX11_foresee_51 : decode cX11_foresee 51 = .ok (.bipush 60, 2) := by decide +kernel
theorem dX11_foresee_53 : decode cX11_foresee 53 = .ok (.if_icmp .gt 55, 3) := by decide +kernel
theorem dX11_foresee_56 : decode cX11_foresee 56 = .ok (.iload 5, 2) := by decide +kernel
theorem dX11_foresee_58 : decode cX11_foresee 58 = .ok (.ifCond .le 11, 3) := by decide +kernel
theorem dX11_foresee_61 : decode cX11_foresee 61 = .ok (.aload_n 0, 1) := by decide +kernel
theorem dX11_foresee_62 : decode cX11_foresee 62 = .ok (.getfield 51, 3) := by decide +kernel
theorem dX11_foresee_65 : decode cX11_foresee 65 = .ok (.aconst_null, 1) := by decide +kernel
theorem dX11_foresee_66 : decode cX11_foresee 66 = .ok (.invokevirtual 255, 3) := by decide +kernel
theorem dX11_foresee_69 : decode cX11_foresee 69 = .ok (.aload 4, 2) := by decide +kernel
theorem dX11_foresee_71 : decode cX11_foresee 71 = .ok (.iconst 2, 1) := by decide +kernel
theorem dX11_foresee_72 : decode cX11_foresee 72 = .ok (.iload 5, 2) := by decide +kernel
theorem dX11_foresee_74 : decode cX11_foresee 74 = .ok (.imul, 1) := by decide +kernel
theorem dX11_foresee_75 : decode cX11_foresee 75 = .ok (.aload_n 0, 1) := by decide +kernel
theorem dX11_foresee_76 : decode cX11_foresee 76 = .ok (.getfield 51, 3) := by decide +kernel
theorem dX11_foresee_79 : decode cX11_foresee 79 = .ok (.getfield 126, 3) := by decide +kernel
theorem dX11_foresee_82 : decode cX11_foresee 82 = .ok (.iastore, 1) := by decide +kernel
theorem dX11_foresee_83 : decode cX11_foresee 83 = .ok (.aload 4, 2) := by decide +kernel
theorem dX11_foresee_85 : decode cX11_foresee 85 = .ok (.iconst 2, 1) := by decide +kernel
theorem dX11_foresee_86 : decode cX11_foresee 86 = .ok (.iload 5, 2) := by decide +kernel
theorem dX11_foresee_88 : decode cX11_foresee 88 = .ok (.imul, 1) := by decide +kernel
theorem dX11_foresee_89 : decode cX11_foresee 89 = .ok (.iconst 1, 1) := by decide +kernel
theorem dX11_foresee_90 : decode cX11_foresee 90 = .ok (.iadd, 1) := by decide +kernel
theorem dX11_foresee_91 : decode cX11_foresee 91 = .ok (.aload_n 0, 1) := by decide +kernel
theorem dX11_foresee_92 : decode cX11_foresee 92 = .ok (.getfield 51, 3) := by decide +kernel
theorem dX11_foresee_95 : decode cX11_foresee 95 = .ok (.getfield 132, 3) := by decide +kernel
theorem dX11_foresee_98 : decode cX11_foresee 98 = .ok (.getfield 141, 3) := by decide +kernel
theorem dX11_foresee_101 : decode cX11_foresee 101 = .ok (.iastore, 1) := by decide +kernel
theorem dX11_foresee_102 : decode cX11_foresee 102 = .ok (.iinc 5 1, 3) := by decide +kernel
theorem dX11_foresee_105 : decode cX11_foresee 105 = .ok (.goto (-62), 3) := by decide +kernel
theorem dX11_foresee_108 : decode cX11_foresee 108 = .ok (.iinc 3 1, 3) := by decide +kernel
theorem dX11_foresee_111 : decode cX11_foresee 111 = .ok (.goto (-109), 3) := by decide +kernel
theorem dX11_foresee_114 : decode cX11_foresee 114 = .ok (.return_, 1) := by decide +kernel
theorem dX11_delaysLeft_0 : decode cX11_delaysLeft 0 = .ok (.iconst 0, 1) := by decide +kernel
theorem dX11_delaysLeft_1 : decode cX11_delaysLeft 1 = .ok (.istore_n 2, 1) := by decide +kernel
theorem dX11_delaysLeft_2 : decode cX11_delaysLeft 2 = .ok (.iconst 1, 1) := by decide +kernel
theorem dX11_delaysLeft_3 : decode cX11_delaysLeft 3 = .ok (.istore_n 3, 1) := by decide +kernel
theorem dX11_delaysLeft_4 : decode cX11_delaysLeft 4 = .ok (.iload_n 3, 1) := by decide +kernel
theorem dX11_delaysLeft_5 : decode cX11_delaysLeft 5 = .ok (.bipush 9, 2) := by decide +kernel
theorem dX11_delaysLeft_7 : decode cX11_delaysLeft 7 = .ok (.if_icmp .gt 29, 3) := by decide +kernel
theorem dX11_delaysLeft_10 : decode cX11_delaysLeft 10 = .ok (.aload_n 0, 1) := by decide +kernel
theorem dX11_delaysLeft_11 : decode cX11_delaysLeft 11 = .ok (.aload_n 0, 1) := by decide +kernel
theorem dX11_delaysLeft_12 : decode cX11_delaysLeft 12 = .ok (.getfield 63, 3) := by decide +kernel
theorem dX11_delaysLeft_15 : decode cX11_delaysLeft 15 = .ok (.iload_n 3, 1) := by decide +kernel
theorem dX11_delaysLeft_16 : decode cX11_delaysLeft 16 = .ok (.aaload, 1) := by decide +kernel
theorem dX11_delaysLeft_17 : decode cX11_delaysLeft 17 = .ok (.iload_n 1, 1) := by decide +kernel
theorem dX11_delaysLeft_18 : decode cX11_delaysLeft 18 = .ok (.invokevirtual 314, 3) := by decide +kernel
theorem dX11_delaysLeft_21 : decode cX11_delaysLeft 21 = .ok (.ifCond .eq 9, 3) := by decide +kernel
theorem dX11_delaysLeft_24 : decode cX11_delaysLeft 24 = .ok (.iload_n 2, 1) := by decide +kernel
theorem dX11_delaysLeft_25 : decode cX11_delaysLeft 25 = .ok (.iconst 1, 1) := by decide +kernel
theorem dX11_delaysLeft_26 : decode cX11_delaysLeft 26 = .ok (.iload_n 3, 1) := by decide +kernel
theorem dX11_delaysLeft_27 : decode cX11_delaysLeft 27 = .ok (.ishl, 1) := by decide +kernel
theorem dX11_delaysLeft_28 : decode cX11_delaysLeft 28 = .ok (.ior, 1) := by decide +kernel
theorem dX11_delaysLeft_29 : decode cX11_delaysLeft 29 = .ok (.istore_n 2, 1) := by decide +kernel
theorem dX11_delaysLeft_30 : decode cX11_delaysLeft 30 = .ok (.iinc 3 1, 3) := by decide +kernel
theorem dX11_delaysLeft_33 : decode cX11_delaysLeft 33 = .ok (.goto (-29), 3) := by decide +kernel
theorem dX11_delaysLeft_36 : decode cX11_delaysLeft 36 = .ok (.iload_n 2, 1) := by decide +kernel
theorem dX11_delaysLeft_37 : decode cX11_delaysLeft 37 = .ok (.ireturn, 1) := by decide +kernel
theorem dX11_fitsMet_0 : decode cX11_fitsMet 0 = .ok (.iconst 0, 1) := by decide +kernel
theorem dX11_fitsMet_1 : decode cX11_fitsMet 1 = .ok (.istore_n 3, 1) := by decide +kernel
theorem dX11_fitsMet_2 : decode cX11_fitsMet 2 = .ok (.iload_n 3, 1) := by decide +kernel
theorem dX11_fitsMet_3 : decode cX11_fitsMet 3 = .ok (.iconst 3, 1) := by decide +kernel
theorem dX11_fitsMet_4 : decode cX11_fitsMet 4 = .ok (.aload_n 0, 1) := by decide +kernel
theorem dX11_fitsMet_5 : decode cX11_fitsMet 5 = .ok (.getfield 92, 3) := by decide +kernel
theorem dX11_fitsMet_8 : decode cX11_fitsMet 8 = .ok (.imul, 1) := by decide +kernel
theorem dX11_fitsMet_9 : decode cX11_fitsMet 9 = .ok (.if_icmp .ge 51, 3) := by decide +kernel
theorem dX11_fitsMet_12 : decode cX11_fitsMet 12 = .ok (.aload_n 0, 1) := by decide +kernel
theorem dX11_fitsMet_13 : decode cX11_fitsMet 13 = .ok (.getfield 58, 3) := by decide +kernel
theorem dX11_fitsMet_16 : decode cX11_fitsMet 16 = .ok (.iload_n 3, 1) := by decide +kernel
theorem dX11_fitsMet_17 : decode cX11_fitsMet 17 = .ok (.iaload, 1) := by decide +kernel
theorem dX11_fitsMet_18 : decode cX11_fitsMet 18 = .ok (.iload_n 2, 1) := by decide +kernel
theorem dX11_fitsMet_19 : decode cX11_fitsMet 19 = .ok (.if_icmp .gt 33, 3) := by decide +kernel
theorem dX11_fitsMet_22 : decode cX11_fitsMet 22 = .ok (.aload_n 1, 1) := by decide +kernel
theorem dX11_fitsMet_23 : decode cX11_fitsMet 23 = .ok (.iconst 2, 1) := by decide +kernel
theorem dX11_fitsMet_24 : decode cX11_fitsMet 24 = .ok (.aload_n 0, 1) := by decide +kernel
theorem dX11_fitsMet_25 : decode cX11_fitsMet 25 = .ok (.getfield 58, 3) := by decide +kernel
theorem dX11_fitsMet_28 : decode cX11_fitsMet 28 = .ok (.iload_n 3, 1) := by decide +kernel
theorem dX11_fitsMet_29 : decode cX11_fitsMet 29 = .ok (.iaload, 1) := by decide +kernel
theorem dX11_fitsMet_30 : decode cX11_fitsMet 30 = .ok (.imul, 1) := by decide +kernel
theorem dX11_fitsMet_31 : decode cX11_fitsMet 31 = .ok (.aload_n 0, 1) := by decide +kernel
theorem dX11_fitsMet_32 : decode cX11_fitsMet 32 = .ok (.getfield 58, 3) := by decide +kernel
theorem dX11_fitsMet_35 : decode cX11_fitsMet 35 = .ok (.iload_n 3, 1) := by decide +kernel
theorem dX11_fitsMet_36 : decode cX11_fitsMet 36 = .ok (.iconst 1, 1) := by decide +kernel
theorem dX11_fitsMet_37 : decode cX11_fitsMet 37 = .ok (.iadd, 1) := by decide +kernel
theorem dX11_fitsMet_38 : decode cX11_fitsMet 38 = .ok (.iaload, 1) := by decide +kernel
theorem dX11_fitsMet_39 : decode cX11_fitsMet 39 = .ok (.iadd, 1) := by decide +kernel
theorem dX11_fitsMet_40 : decode cX11_fitsMet 40 = .ok (.iaload, 1) := by decide +kernel
theorem dX11_fitsMet_41 : decode cX11_fitsMet 41 = .ok (.aload_n 0, 1) := by decide +kernel
theorem dX11_fitsMet_42 : decode cX11_fitsMet 42 = .ok (.getfield 58, 3) := by decide +kernel
theorem dX11_fitsMet_45 : decode cX11_fitsMet 45 = .ok (.iload_n 3, 1) := by decide +kernel
theorem dX11_fitsMet_46 : decode cX11_fitsMet 46 = .ok (.iconst 2, 1) := by decide +kernel
theorem dX11_fitsMet_47 : decode cX11_fitsMet 47 = .ok (.iadd, 1) := by decide +kernel
theorem dX11_fitsMet_48 : decode cX11_fitsMet 48 = .ok (.iaload, 1) := by decide +kernel
theorem dX11_fitsMet_49 : decode cX11_fitsMet 49 = .ok (.if_icmp .eq 5, 3) := by decide +kernel
theorem dX11_fitsMet_52 : decode cX11_fitsMet 52 = .ok (.iconst 0, 1) := by decide +kernel
theorem dX11_fitsMet_53 : decode cX11_fitsMet 53 = .ok (.ireturn, 1) := by decide +kernel
theorem dX11_fitsMet_54 : decode cX11_fitsMet 54 = .ok (.iinc 3 3, 3) := by decide +kernel
theorem dX11_fitsMet_57 : decode cX11_fitsMet 57 = .ok (.goto (-55), 3) := by decide +kernel
theorem dX11_fitsMet_60 : decode cX11_fitsMet 60 = .ok (.iconst 1, 1) := by decide +kernel
theorem dX11_fitsMet_61 : decode cX11_fitsMet 61 = .ok (.ireturn, 1) := by decide +kernel
theorem dX11_tells_0 : decode cX11_tells 0 = .ok (.aload_n 0, 1) := by decide +kernel
theorem dX11_tells_1 : decode cX11_tells 1 = .ok (.iload_n 1, 1) := by decide +kernel
theorem dX11_tells_2 : decode cX11_tells 2 = .ok (.invokevirtual 175, 3) := by decide +kernel
theorem dX11_tells_5 : decode cX11_tells 5 = .ok (.ifCond .eq 25, 3) := by decide +kernel
theorem dX11_tells_8 : decode cX11_tells 8 = .ok (.iload_n 2, 1) := by decide +kernel
theorem dX11_tells_9 : decode cX11_tells 9 = .ok (.ifCond .lt 21, 3) := by decide +kernel
theorem dX11_tells_12 : decode cX11_tells 12 = .ok (.iload_n 2, 1) := by decide +kernel
theorem dX11_tells_13 : decode cX11_tells 13 = .ok (.iconst 2, 1) := by decide +kernel
theorem dX11_tells_14 : decode cX11_tells 14 = .ok (.if_icmp .gt 16, 3) := by decide +kernel
theorem dX11_tells_17 : decode cX11_tells 17 = .ok (.aload_n 0, 1) := by decide +kernel
theorem dX11_tells_18 : decode cX11_tells 18 = .ok (.getfield 47, 3) := by decide +kernel
theorem dX11_tells_21 : decode cX11_tells 21 = .ok (.getfield 120, 3) := by decide +kernel
theorem dX11_tells_24 : decode cX11_tells 24 = .ok (.sipush 999, 3) := by decide +kernel
theorem dX11_tells_27 : decode cX11_tells 27 = .ok (.if_icmp .lt 5, 3) := by decide +kernel
theorem dX11_tells_30 : decode cX11_tells 30 = .ok (.iconst (-1), 1) := by decide +kernel
theorem dX11_tells_31 : decode cX11_tells 31 = .ok (.ireturn, 1) := by decide +kernel
theorem dX11_tells_32 : decode cX11_tells 32 = .ok (.aload_n 0, 1) := by decide +kernel
theorem dX11_tells_33 : decode cX11_tells 33 = .ok (.bipush 60, 2) := by decide +kernel
theorem dX11_tells_35 : decode cX11_tells 35 = .ok (.invokevirtual 296, 3) := by decide +kernel
theorem dX11_tells_38 : decode cX11_tells 38 = .ok (.istore_n 3, 1) := by decide +kernel
theorem dX11_tells_39 : decode cX11_tells 39 = .ok (.aload_n 0, 1) := by decide +kernel
theorem dX11_tells_40 : decode cX11_tells 40 = .ok (.iload_n 1, 1) := by decide +kernel
theorem dX11_tells_41 : decode cX11_tells 41 = .ok (.iload_n 3, 1) := by decide +kernel
theorem dX11_tells_42 : decode cX11_tells 42 = .ok (.invokevirtual 299, 3) := by decide +kernel
theorem dX11_tells_45 : decode cX11_tells 45 = .ok (.aload_n 0, 1) := by decide +kernel
theorem dX11_tells_46 : decode cX11_tells 46 = .ok (.iload_n 3, 1) := by decide +kernel
theorem dX11_tells_47 : decode cX11_tells 47 = .ok (.invokevirtual 303, 3) := by decide +kernel
theorem dX11_tells_50 : decode cX11_tells 50 = .ok (.istore 4, 2) := by decide +kernel
theorem dX11_tells_52 : decode cX11_tells 52 = .ok (.iload 4, 2) := by decide +kernel
theorem dX11_tells_54 : decode cX11_tells 54 = .ok (.ifCond .ne 5, 3) := by decide +kernel
theorem dX11_tells_57 : decode cX11_tells 57 = .ok (.iconst (-1), 1) := by decide +kernel
theorem dX11_tells_58 : decode cX11_tells 58 = .ok (.ireturn, 1) := by decide +kernel
theorem dX11_tells_59 : decode cX11_tells 59 = .ok (.iconst 2, 1) := by decide +kernel
theorem dX11_tells_60 : decode cX11_tells 60 = .ok (.istore 5, 2) := by decide +kernel
theorem dX11_tells_62 : decode cX11_tells 62 = .ok (.aload_n 0, 1) := by decide +kernel
theorem dX11_tells_63 : decode cX11_tells 63 = .ok (.iload 4, 2) := by decide +kernel
theorem dX11_tells_65 : decode cX11_tells 65 = .ok (.iload 5, 2) := by decide +kernel
theorem dX11_tells_67 : decode cX11_tells 67 = .ok (.invokevirtual 318, 3) := by decide +kernel
theorem dX11_tells_70 : decode cX11_tells 70 = .ok (.istore 6, 2) := by decide +kernel
theorem dX11_tells_72 : decode cX11_tells 72 = .ok (.iconst 3, 1) := by decide +kernel
theorem dX11_tells_73 : decode cX11_tells 73 = .ok (.istore 7, 2) := by decide +kernel
theorem dX11_tells_75 : decode cX11_tells 75 = .ok (.iload 7, 2) := by decide +kernel
theorem dX11_tells_77 : decode cX11_tells 77 = .ok (.iconst 2, 1) := by decide +kernel
theorem dX11_tells_78 : decode cX11_tells 78 = .ok (.iload_n 3, 1) := by decide +kernel
theorem dX11_tells_79 : decode cX11_tells 79 = .ok (.iconst 1, 1) := by decide +kernel
theorem dX11_tells_80 : decode cX11_tells 80 = .ok (.iadd, 1) := by decide +kernel
theorem dX11_tells_81 : decode cX11_tells 81 = .ok (.imul, 1) := by decide +kernel
theorem dX11_tells_82 : decode cX11_tells 82 = .ok (.if_icmp .ge 34, 3) := by decide +kernel
theorem dX11_tells_85 : decode cX11_tells 85 = .ok (.aload_n 0, 1) := by decide +kernel
theorem dX11_tells_86 : decode cX11_tells 86 = .ok (.iload 4, 2) := by decide +kernel
theorem dX11_tells_88 : decode cX11_tells 88 = .ok (.iload 7, 2) := by decide +kernel
theorem dX11_tells_90 : decode cX11_tells 90 = .ok (.invokevirtual 318, 3) := by decide +kernel
theorem dX11_tells_93 : decode cX11_tells 93 = .ok (.istore 8, 2) := by decide +kernel
theorem dX11_tells_95 : decode cX11_tells 95 = .ok (.iload 8, 2) := by decide +kernel
theorem dX11_tells_97 : decode cX11_tells 97 = .ok (.iload 6, 2) := by decide +kernel
theorem dX11_tells_99 : decode cX11_tells 99 = .ok (.if_icmp .ge 11, 3) := by decide +kernel
theorem dX11_tells_102 : decode cX11_tells 102 = .ok (.iload 8, 2) := by decide +kernel
theorem dX11_tells_104 : decode cX11_tells 104 = .ok (.istore 6, 2) := by decide +kernel
theorem dX11_tells_106 : decode cX11_tells 106 = .ok (.iload 7, 2) := by decide +kernel
theorem dX11_tells_108 : decode cX11_tells 108 = .ok (.istore 5, 2) := by decide +kernel
theorem dX11_tells_110 : decode cX11_tells 110 = .ok (.iinc 7 1, 3) := by decide +kernel
theorem dX11_tells_113 : decode cX11_tells 113 = .ok (.goto (-38), 3) := by decide +kernel
theorem dX11_tells_116 : decode cX11_tells 116 = .ok (.iload_n 2, 1) := by decide +kernel
theorem dX11_tells_117 : decode cX11_tells 117 = .ok (.lookupswitch 37 #[(0, 27), (1, 32)], 27) := by decide +kernel
theorem dX11_tells_144 : decode cX11_tells 144 = .ok (.iload 5, 2) := by decide +kernel
theorem dX11_tells_146 : decode cX11_tells 146 = .ok (.iconst 2, 1) := by decide +kernel
theorem dX11_tells_147 : decode cX11_tells 147 = .ok (.idiv, 1) := by decide +kernel
theorem dX11_tells_148 : decode cX11_tells 148 = .ok (.ireturn, 1) := by decide +kernel
theorem dX11_tells_149 : decode cX11_tells 149 = .ok (.iload 5, 2) := by decide +kernel
theorem dX11_tells_151 : decode cX11_tells 151 = .ok (.iconst 2, 1) := by decide +kernel
theorem dX11_tells_152 : decode cX11_tells 152 = .ok (.irem, 1) := by decide +kernel
theorem dX11_tells_153 : decode cX11_tells 153 = .ok (.ireturn, 1) := by decide +kernel
theorem dX11_tells_154 : decode cX11_tells 154 = .ok (.iload 6, 2) := by decide +kernel
theorem dX11_tells_156 : decode cX11_tells 156 = .ok (.ireturn, 1) := by decide +kernel
theorem dX11_mostAlike_0 : decode cX11_mostAlike 0 = .ok (.iconst 0, 1) := by decide +kernel
theorem dX11_mostAlike_1 : decode cX11_mostAlike 1 = .ok (.istore_n 3, 1) := by decide +kernel
theorem dX11_mostAlike_2 : decode cX11_mostAlike 2 = .ok (.iconst 1, 1) := by decide +kernel
theorem dX11_mostAlike_3 : decode cX11_mostAlike 3 = .ok (.istore 4, 2) := by decide +kernel
theorem dX11_mostAlike_5 : decode cX11_mostAlike 5 = .ok (.iload 4, 2) := by decide +kernel
theorem dX11_mostAlike_7 : decode cX11_mostAlike 7 = .ok (.bipush 9, 2) := by decide +kernel
theorem dX11_mostAlike_9 : decode cX11_mostAlike 9 = .ok (.if_icmp .gt 86, 3) := by decide +kernel
theorem dX11_mostAlike_12 : decode cX11_mostAlike 12 = .ok (.iconst 0, 1) := by decide +kernel
theorem dX11_mostAlike_13 : decode cX11_mostAlike 13 = .ok (.istore 5, 2) := by decide +kernel
theorem dX11_mostAlike_15 : decode cX11_mostAlike 15 = .ok (.iconst 1, 1) := by decide +kernel
theorem dX11_mostAlike_16 : decode cX11_mostAlike 16 = .ok (.istore 6, 2) := by decide +kernel
theorem dX11_mostAlike_18 : decode cX11_mostAlike 18 = .ok (.iload 6, 2) := by decide +kernel
theorem dX11_mostAlike_20 : decode cX11_mostAlike 20 = .ok (.bipush 9, 2) := by decide +kernel
theorem dX11_mostAlike_22 : decode cX11_mostAlike 22 = .ok (.if_icmp .gt 60, 3) := by decide +kernel
theorem dX11_mostAlike_25 : decode cX11_mostAlike 25 = .ok (.iload_n 1, 1) := by decide +kernel
theorem dX11_mostAlike_26 : decode cX11_mostAlike 26 = .ok (.iload 4, 2) := by decide +kernel
theorem dX11_mostAlike_28 : decode cX11_mostAlike 28 = .ok (.ishr, 1) := by decide +kernel
theorem dX11_mostAlike_29 : decode cX11_mostAlike 29 = .ok (.iload_n 1, 1) := by decide +kernel
theorem dX11_mostAlike_30 : decode cX11_mostAlike 30 = .ok (.iload 6, 2) := by decide +kernel
theorem dX11_mostAlike_32 : decode cX11_mostAlike 32 = .ok (.ishr, 1) := by decide +kernel
theorem dX11_mostAlike_33 : decode cX11_mostAlike 33 = .ok (.iand, 1) := by decide +kernel
theorem dX11_mostAlike_34 : decode cX11_mostAlike 34 = .ok (.iconst 1, 1) := by decide +kernel
theorem dX11_mostAlike_35 : decode cX11_mostAlike 35 = .ok (.iand, 1) := by decide +kernel
theorem dX11_mostAlike_36 : decode cX11_mostAlike 36 = .ok (.iconst 1, 1) := by decide +kernel
theorem dX11_mostAlike_37 : decode cX11_mostAlike 37 = .ok (.if_icmp .ne 7, 3) := by decide +kernel
theorem dX11_mostAlike_40 : decode cX11_mostAlike 40 = .ok (.iconst 1, 1) := by decide +kernel
theorem dX11_mostAlike_41 : decode cX11_mostAlike 41 = .ok (.goto 4, 3) := by decide +kernel
theorem dX11_mostAlike_44 : decode cX11_mostAlike 44 = .ok (.iconst 0, 1) := by decide +kernel
theorem dX11_mostAlike_45 : decode cX11_mostAlike 45 = .ok (.istore 7, 2) := by decide +kernel
theorem dX11_mostAlike_47 : decode cX11_mostAlike 47 = .ok (.iload 7, 2) := by decide +kernel
theorem dX11_mostAlike_49 : decode cX11_mostAlike 49 = .ok (.ifCond .eq 27, 3) := by decide +kernel
theorem dX11_mostAlike_52 : decode cX11_mostAlike 52 = .ok (.aload_n 0, 1) := by decide +kernel
theorem dX11_mostAlike_53 : decode cX11_mostAlike 53 = .ok (.getfield 63, 3) := by decide +kernel
theorem dX11_mostAlike_56 : decode cX11_mostAlike 56 = .ok (.iload 4, 2) := by decide +kernel
theorem dX11_mostAlike_58 : decode cX11_mostAlike 58 = .ok (.aaload, 1) := by decide +kernel
theorem dX11_mostAlike_59 : decode cX11_mostAlike 59 = .ok (.iload_n 2, 1) := by decide +kernel
theorem dX11_mostAlike_60 : decode cX11_mostAlike 60 = .ok (.iaload, 1) := by decide +kernel
theorem dX11_mostAlike_61 : decode cX11_mostAlike 61 = .ok (.aload_n 0, 1) := by decide +kernel
theorem dX11_mostAlike_62 : decode cX11_mostAlike 62 = .ok (.getfield 63, 3) := by decide +kernel
theorem dX11_mostAlike_65 : decode cX11_mostAlike 65 = .ok (.iload 6, 2) := by decide +kernel
theorem dX11_mostAlike_67 : decode cX11_mostAlike 67 = .ok (.aaload, 1) := by decide +kernel
theorem dX11_mostAlike_68 : decode cX11_mostAlike 68 = .ok (.iload_n 2, 1) := by decide +kernel
theorem dX11_mostAlike_69 : decode cX11_mostAlike 69 = .ok (.iaload, 1) := by decide +kernel
theorem dX11_mostAlike_70 : decode cX11_mostAlike 70 = .ok (.if_icmp .ne 6, 3) := by decide +kernel
theorem dX11_mostAlike_73 : decode cX11_mostAlike 73 = .ok (.iinc 5 1, 3) := by decide +kernel
theorem dX11_mostAlike_76 : decode cX11_mostAlike 76 = .ok (.iinc 6 1, 3) := by decide +kernel
theorem dX11_mostAlike_79 : decode cX11_mostAlike 79 = .ok (.goto (-61), 3) := by decide +kernel
theorem dX11_mostAlike_82 : decode cX11_mostAlike 82 = .ok (.iload_n 3, 1) := by decide +kernel
theorem dX11_mostAlike_83 : decode cX11_mostAlike 83 = .ok (.iload 5, 2) := by decide +kernel
theorem dX11_mostAlike_85 : decode cX11_mostAlike 85 = .ok (.invokestatic 311, 3) := by decide +kernel
theorem dX11_mostAlike_88 : decode cX11_mostAlike 88 = .ok (.istore_n 3, 1) := by decide +kernel
theorem dX11_mostAlike_89 : decode cX11_mostAlike 89 = .ok (.iinc 4 1, 3) := by decide +kernel
theorem dX11_mostAlike_92 : decode cX11_mostAlike 92 = .ok (.goto (-87), 3) := by decide +kernel
theorem dX11_mostAlike_95 : decode cX11_mostAlike 95 = .ok (.iload_n 3, 1) := by decide +kernel
theorem dX11_mostAlike_96 : decode cX11_mostAlike 96 = .ok (.ireturn, 1) := by decide +kernel
theorem dX11_ticks_0 : decode cX11_ticks 0 = .ok (.iload_n 1, 1) := by decide +kernel
theorem dX11_ticks_1 : decode cX11_ticks 1 = .ok (.iconst 1, 1) := by decide +kernel
theorem dX11_ticks_2 : decode cX11_ticks 2 = .ok (.if_icmp .lt 17, 3) := by decide +kernel
theorem dX11_ticks_5 : decode cX11_ticks 5 = .ok (.iload_n 1, 1) := by decide +kernel
theorem dX11_ticks_6 : decode cX11_ticks 6 = .ok (.bipush 100, 2) := by decide +kernel
theorem dX11_ticks_8 : decode cX11_ticks 8 = .ok (.if_icmp .gt 11, 3) := by decide +kernel
theorem dX11_ticks_11 : decode cX11_ticks 11 = .ok (.aload_n 0, 1) := by decide +kernel
theorem dX11_ticks_12 : decode cX11_ticks 12 = .ok (.iload_n 1, 1) := by decide +kernel
theorem dX11_ticks_13 : decode cX11_ticks 13 = .ok (.invokevirtual 248, 3) := by decide +kernel
theorem dX11_ticks_16 : decode cX11_ticks 16 = .ok (.ifCond .ne 9, 3) := by decide +kernel
theorem dX11_ticks_19 : decode cX11_ticks 19 = .ok (.aload_n 0, 1) := by decide +kernel
theorem dX11_ticks_20 : decode cX11_ticks 20 = .ok (.iconst 2, 1) := by decide +kernel
theorem dX11_ticks_21 : decode cX11_ticks 21 = .ok (.invokevirtual 70, 3) := by decide +kernel
theorem dX11_ticks_24 : decode cX11_ticks 24 = .ok (.ireturn, 1) := by decide +kernel
theorem dX11_ticks_25 : decode cX11_ticks 25 = .ok (.aload_n 0, 1) := by decide +kernel
theorem dX11_ticks_26 : decode cX11_ticks 26 = .ok (.invokevirtual 321, 3) := by decide +kernel
theorem dX11_ticks_29 : decode cX11_ticks 29 = .ok (.iconst 0, 1) := by decide +kernel
theorem dX11_ticks_30 : decode cX11_ticks 30 = .ok (.istore_n 2, 1) := by decide +kernel
theorem dX11_ticks_31 : decode cX11_ticks 31 = .ok (.iconst 0, 1) := by decide +kernel
theorem dX11_ticks_32 : decode cX11_ticks 32 = .ok (.istore_n 3, 1) := by decide +kernel
theorem dX11_ticks_33 : decode cX11_ticks 33 = .ok (.iload_n 3, 1) := by decide +kernel
theorem dX11_ticks_34 : decode cX11_ticks 34 = .ok (.iload_n 1, 1) := by decide +kernel
theorem dX11_ticks_35 : decode cX11_ticks 35 = .ok (.if_icmp .ge 27, 3) := by decide +kernel
theorem dX11_ticks_38 : decode cX11_ticks 38 = .ok (.aload_n 0, 1) := by decide +kernel
theorem dX11_ticks_39 : decode cX11_ticks 39 = .ok (.getfield 47, 3) := by decide +kernel
theorem dX11_ticks_42 : decode cX11_ticks 42 = .ok (.aconst_null, 1) := by decide +kernel
theorem dX11_ticks_43 : decode cX11_ticks 43 = .ok (.invokevirtual 255, 3) := by decide +kernel
theorem dX11_ticks_46 : decode cX11_ticks 46 = .ok (.iload_n 2, 1) := by decide +kernel
theorem dX11_ticks_47 : decode cX11_ticks 47 = .ok (.aload_n 0, 1) := by decide +kernel
theorem dX11_ticks_48 : decode cX11_ticks 48 = .ok (.getfield 47, 3) := by decide +kernel
theorem dX11_ticks_51 : decode cX11_ticks 51 = .ok (.getfield 275, 3) := by decide +kernel
theorem dX11_ticks_54 : decode cX11_ticks 54 = .ok (.iadd, 1) := by decide +kernel
theorem dX11_ticks_55 : decode cX11_ticks 55 = .ok (.istore_n 2, 1) := by decide +kernel
theorem dX11_ticks_56 : decode cX11_ticks 56 = .ok (.iinc 3 1, 3) := by decide +kernel
theorem dX11_ticks_59 : decode cX11_ticks 59 = .ok (.goto (-26), 3) := by decide +kernel
theorem dX11_ticks_62 : decode cX11_ticks 62 = .ok (.iload_n 2, 1) := by decide +kernel
theorem dX11_ticks_63 : decode cX11_ticks 63 = .ok (.ireturn, 1) := by decide +kernel
theorem dX11_chance_0 : decode cX11_chance 0 = .ok (.iload_n 1, 1) := by decide +kernel
theorem dX11_chance_1 : decode cX11_chance 1 = .ok (.iconst 1, 1) := by decide +kernel
theorem dX11_chance_2 : decode cX11_chance 2 = .ok (.if_icmp .lt 17, 3) := by decide +kernel
theorem dX11_chance_5 : decode cX11_chance 5 = .ok (.iload_n 1, 1) := by decide +kernel
theorem dX11_chance_6 : decode cX11_chance 6 = .ok (.bipush 100, 2) := by decide +kernel
theorem dX11_chance_8 : decode cX11_chance 8 = .ok (.if_icmp .gt 11, 3) := by decide +kernel
theorem dX11_chance_11 : decode cX11_chance 11 = .ok (.aload_n 0, 1) := by decide +kernel
theorem dX11_chance_12 : decode cX11_chance 12 = .ok (.iload_n 1, 1) := by decide +kernel
theorem dX11_chance_13 : decode cX11_chance 13 = .ok (.invokevirtual 248, 3) := by decide +kernel
theorem dX11_chance_16 : decode cX11_chance 16 = .ok (.ifCond .ne 9, 3) := by decide +kernel
theorem dX11_chance_19 : decode cX11_chance 19 = .ok (.aload_n 0, 1) := by decide +kernel
theorem dX11_chance_20 : decode cX11_chance 20 = .ok (.iconst 2, 1) := by decide +kernel
theorem dX11_chance_21 : decode cX11_chance 21 = .ok (.invokevirtual 70, 3) := by decide +kernel
theorem dX11_chance_24 : decode cX11_chance 24 = .ok (.ireturn, 1) := by decide +kernel
theorem dX11_chance_25 : decode cX11_chance 25 = .ok (.aload_n 0, 1) := by decide +kernel
theorem dX11_chance_26 : decode cX11_chance 26 = .ok (.invokevirtual 321, 3) := by decide +kernel
theorem dX11_chance_29 : decode cX11_chance 29 = .ok (.iconst 0, 1) := by decide +kernel
theorem dX11_chance_30 : decode cX11_chance 30 = .ok (.istore_n 2, 1) := by decide +kernel
theorem dX11_chance_31 : decode cX11_chance 31 = .ok (.iconst 0, 1) := by decide +kernel
theorem dX11_chance_32 : decode cX11_chance 32 = .ok (.istore_n 3, 1) := by decide +kernel
theorem dX11_chance_33 : decode cX11_chance 33 = .ok (.iload_n 3, 1) := by decide +kernel
theorem dX11_chance_34 : decode cX11_chance 34 = .ok (.iload_n 1, 1) := by decide +kernel
theorem dX11_chance_35 : decode cX11_chance 35 = .ok (.if_icmp .ge 30, 3) := by decide +kernel
theorem dX11_chance_38 : decode cX11_chance 38 = .ok (.aload_n 0, 1) := by decide +kernel
theorem dX11_chance_39 : decode cX11_chance 39 = .ok (.getfield 47, 3) := by decide +kernel
theorem dX11_chance_42 : decode cX11_chance 42 = .ok (.aload_n 0, 1) := by decide +kernel
theorem dX11_chance_43 : decode cX11_chance 43 = .ok (.getfield 19, 3) := by decide +kernel
theorem dX11_chance_46 : decode cX11_chance 46 = .ok (.invokevirtual 255, 3) := by decide +kernel
theorem dX11_chance_49 : decode cX11_chance 49 = .ok (.iload_n 2, 1) := by decide +kernel
theorem dX11_chance_50 : decode cX11_chance 50 = .ok (.aload_n 0, 1) := by decide +kernel
theorem dX11_chance_51 : decode cX11_chance 51 = .ok (.getfield 47, 3) := by decide +kernel
theorem dX11_chance_54 : decode cX11_chance 54 = .ok (.getfield 324, 3) := by decide +kernel
theorem dX11_chance_57 : decode cX11_chance 57 = .ok (.iadd, 1) := by decide +kernel
theorem dX11_chance_58 : decode cX11_chance 58 = .ok (.istore_n 2, 1) := by decide +kernel
theorem dX11_chance_59 : decode cX11_chance 59 = .ok (.iinc 3 1, 3) := by decide +kernel
theorem dX11_chance_62 : decode cX11_chance 62 = .ok (.goto (-29), 3) := by decide +kernel
theorem dX11_chance_65 : decode cX11_chance 65 = .ok (.iload_n 2, 1) := by decide +kernel
theorem dX11_chance_66 : decode cX11_chance 66 = .ok (.ireturn, 1) := by decide +kernel
theorem dX11_beginAct_0 : decode cX11_beginAct 0 = .ok (.aload_n 0, 1) := by decide +kernel
theorem dX11_beginAct_1 : decode cX11_beginAct 1 = .ok (.getfield 54, 3) := by decide +kernel
theorem dX11_beginAct_4 : decode cX11_beginAct 4 = .ok (.aload_n 0, 1) := by decide +kernel
theorem dX11_beginAct_5 : decode cX11_beginAct 5 = .ok (.getfield 327, 3) := by decide +kernel
theorem dX11_beginAct_8 : decode cX11_beginAct 8 = .ok (.aaload, 1) := by decide +kernel
theorem dX11_beginAct_9 : decode cX11_beginAct 9 = .ok (.ifnonnull 23, 3) := by decide +kernel
theorem dX11_beginAct_12 : decode cX11_beginAct 12 = .ok (.aload_n 0, 1) := by decide +kernel
theorem dX11_beginAct_13 : decode cX11_beginAct 13 = .ok (.getfield 54, 3) := by decide +kernel
theorem dX11_beginAct_16 : decode cX11_beginAct 16 = .ok (.aload_n 0, 1) := by decide +kernel
theorem dX11_beginAct_17 : decode cX11_beginAct 17 = .ok (.getfield 327, 3) := by decide +kernel
theorem dX11_beginAct_20 : decode cX11_beginAct 20 = .ok (.new 42, 3) := by decide +kernel
theorem dX11_beginAct_23 : decode cX11_beginAct 23 = .ok (.dup, 1) := by decide +kernel
theorem dX11_beginAct_24 : decode cX11_beginAct 24 = .ok (.aload_n 0, 1) := by decide +kernel
theorem dX11_beginAct_25 : decode cX11_beginAct 25 = .ok (.getfield 26, 3) := by decide +kernel
theorem dX11_beginAct_28 : decode cX11_beginAct 28 = .ok (.invokespecial 44, 3) := by decide +kernel
theorem dX11_beginAct_31 : decode cX11_beginAct 31 = .ok (.aastore, 1) := by decide +kernel
theorem dX11_beginAct_32 : decode cX11_beginAct 32 = .ok (.aload_n 0, 1) := by decide +kernel
theorem dX11_beginAct_33 : decode cX11_beginAct 33 = .ok (.getfield 54, 3) := by decide +kernel
theorem dX11_beginAct_36 : decode cX11_beginAct 36 = .ok (.aload_n 0, 1) := by decide +kernel
theorem dX11_beginAct_37 : decode cX11_beginAct 37 = .ok (.getfield 327, 3) := by decide +kernel
theorem dX11_beginAct_40 : decode cX11_beginAct 40 = .ok (.aaload, 1) := by decide +kernel
theorem dX11_beginAct_41 : decode cX11_beginAct 41 = .ok (.aload_n 0, 1) := by decide +kernel
theorem dX11_beginAct_42 : decode cX11_beginAct 42 = .ok (.getfield 47, 3) := by decide +kernel
theorem dX11_beginAct_45 : decode cX11_beginAct 45 = .ok (.invokevirtual 251, 3) := by decide +kernel
theorem dX11_beginAct_48 : decode cX11_beginAct 48 = .ok (.aload_n 0, 1) := by decide +kernel
theorem dX11_beginAct_49 : decode cX11_beginAct 49 = .ok (.aload_n 0, 1) := by decide +kernel
theorem dX11_beginAct_50 : decode cX11_beginAct 50 = .ok (.getfield 327, 3) := by decide +kernel
theorem dX11_beginAct_53 : decode cX11_beginAct 53 = .ok (.iconst 1, 1) := by decide +kernel
theorem dX11_beginAct_54 : decode cX11_beginAct 54 = .ok (.iadd, 1) := by decide +kernel
theorem dX11_beginAct_55 : decode cX11_beginAct 55 = .ok (.bipush 20, 2) := by decide +kernel
theorem dX11_beginAct_57 : decode cX11_beginAct 57 = .ok (.irem, 1) := by decide +kernel
theorem dX11_beginAct_58 : decode cX11_beginAct 58 = .ok (.putfield 327, 3) := by decide +kernel
theorem dX11_beginAct_61 : decode cX11_beginAct 61 = .ok (.aload_n 0, 1) := by decide +kernel
theorem dX11_beginAct_62 : decode cX11_beginAct 62 = .ok (.aload_n 0, 1) := by decide +kernel
theorem dX11_beginAct_63 : decode cX11_beginAct 63 = .ok (.getfield 95, 3) := by decide +kernel
theorem dX11_beginAct_66 : decode cX11_beginAct 66 = .ok (.iconst 1, 1) := by decide +kernel
theorem dX11_beginAct_67 : decode cX11_beginAct 67 = .ok (.iadd, 1) := by decide +kernel
theorem dX11_beginAct_68 : decode cX11_beginAct 68 = .ok (.bipush 20, 2) := by decide +kernel
theorem dX11_beginAct_70 : decode cX11_beginAct 70 = .ok (.invokestatic 306, 3) := by decide +kernel
theorem dX11_beginAct_73 : decode cX11_beginAct 73 = .ok (.putfield 95, 3) := by decide +kernel
theorem dX11_beginAct_76 : decode cX11_beginAct 76 = .ok (.return_, 1) := by decide +kernel
theorem dX11_join_0 : decode cX11_join 0 = .ok (.aload_n 0, 1) := by decide +kernel
theorem dX11_join_1 : decode cX11_join 1 = .ok (.iload_n 1, 1) := by decide +kernel
theorem dX11_join_2 : decode cX11_join 2 = .ok (.invokevirtual 175, 3) := by decide +kernel
theorem dX11_join_5 : decode cX11_join 5 = .ok (.ifCond .eq 29, 3) := by decide +kernel
theorem dX11_join_8 : decode cX11_join 8 = .ok (.iload_n 2, 1) := by decide +kernel
theorem dX11_join_9 : decode cX11_join 9 = .ok (.ifCond .lt 25, 3) := by decide +kernel
theorem dX11_join_12 : decode cX11_join 12 = .ok (.iload_n 2, 1) := by decide +kernel
theorem dX11_join_13 : decode cX11_join 13 = .ok (.sipush 999, 3) := by decide +kernel
theorem dX11_join_16 : decode cX11_join 16 = .ok (.if_icmp .gt 18, 3) := by decide +kernel
theorem dX11_join_19 : decode cX11_join 19 = .ok (.aload_n 0, 1) := by decide +kernel
theorem dX11_join_20 : decode cX11_join 20 = .ok (.getfield 47, 3) := by decide +kernel
theorem dX11_join_23 : decode cX11_join 23 = .ok (.getfield 186, 3) := by decide +kernel
theorem dX11_join_26 : decode cX11_join 26 = .ok (.iload_n 1, 1) := by decide +kernel
theorem dX11_join_27 : decode cX11_join 27 = .ok (.aaload, 1) := by decide +kernel
theorem dX11_join_28 : decode cX11_join 28 = .ok (.invokevirtual 330, 3) := by decide +kernel
theorem dX11_join_31 : decode cX11_join 31 = .ok (.ifCond .ne 8, 3) := by decide +kernel
theorem dX11_join_34 : decode cX11_join 34 = .ok (.aload_n 0, 1) := by decide +kernel
theorem dX11_join_35 : decode cX11_join 35 = .ok (.invokevirtual 333, 3) := by decide +kernel
theorem dX11_join_38 : decode cX11_join 38 = .ok (.ireturn, 1) := by decide +kernel
theorem dX11_join_39 : decode cX11_join 39 = .ok (.aload_n 0, 1) := by decide +kernel
theorem dX11_join_40 : decode cX11_join 40 = .ok (.invokevirtual 321, 3) := by decide +kernel
theorem dX11_join_43 : decode cX11_join 43 = .ok (.aload_n 0, 1) := by decide +kernel
theorem dX11_join_44 : decode cX11_join 44 = .ok (.getfield 47, 3) := by decide +kernel
theorem dX11_join_47 : decode cX11_join 47 = .ok (.iload_n 1, 1) := by decide +kernel
theorem dX11_join_48 : decode cX11_join 48 = .ok (.iload_n 2, 1) := by decide +kernel
theorem dX11_join_49 : decode cX11_join 49 = .ok (.invokevirtual 336, 3) := by decide +kernel
theorem dX11_join_52 : decode cX11_join 52 = .ok (.ireturn, 1) := by decide +kernel
theorem dX11_refusePath_0 : decode cX11_refusePath 0 = .ok (.aload_n 0, 1) := by decide +kernel
theorem dX11_refusePath_1 : decode cX11_refusePath 1 = .ok (.getfield 13, 3) := by decide +kernel
theorem dX11_refusePath_4 : decode cX11_refusePath 4 = .ok (.iconst 3, 1) := by decide +kernel
theorem dX11_refusePath_5 : decode cX11_refusePath 5 = .ok (.dup2, 1) := by decide +kernel
theorem dX11_refusePath_6 : decode cX11_refusePath 6 = .ok (.iaload, 1) := by decide +kernel
theorem dX11_refusePath_7 : decode cX11_refusePath 7 = .ok (.iconst 1, 1) := by decide +kernel
theorem dX11_refusePath_8 : decode cX11_refusePath 8 = .ok (.iadd, 1) := by decide +kernel
theorem dX11_refusePath_9 : decode cX11_refusePath 9 = .ok (.iastore, 1) := by decide +kernel
theorem dX11_refusePath_10 : decode cX11_refusePath 10 = .ok (.iconst 0, 1) := by decide +kernel
theorem dX11_refusePath_11 : decode cX11_refusePath 11 = .ok (.ireturn, 1) := by decide +kernel
theorem dX11_kill_0 : decode cX11_kill 0 = .ok (.aload_n 0, 1) := by decide +kernel
theorem dX11_kill_1 : decode cX11_kill 1 = .ok (.iload_n 1, 1) := by decide +kernel
theorem dX11_kill_2 : decode cX11_kill 2 = .ok (.invokevirtual 175, 3) := by decide +kernel
theorem dX11_kill_5 : decode cX11_kill 5 = .ok (.ifCond .eq 18, 3) := by decide +kernel
theorem dX11_kill_8 : decode cX11_kill 8 = .ok (.aload_n 0, 1) := by decide +kernel
theorem dX11_kill_9 : decode cX11_kill 9 = .ok (.getfield 47, 3) := by decide +kernel
theorem dX11_kill_12 : decode cX11_kill 12 = .ok (.getfield 186, 3) := by decide +kernel
theorem dX11_kill_15 : decode cX11_kill 15 = .ok (.iload_n 1, 1) := by decide +kernel
theorem dX11_kill_16 : decode cX11_kill 16 = .ok (.aaload, 1) := by decide +kernel
theorem dX11_kill_17 : decode cX11_kill 17 = .ok (.invokevirtual 340, 3) := by decide +kernel
theorem dX11_kill_20 : decode cX11_kill 20 = .ok (.ifCond .ne 8, 3) := by decide +kernel
theorem dX11_kill_23 : decode cX11_kill 23 = .ok (.aload_n 0, 1) := by decide +kernel
theorem dX11_kill_24 : decode cX11_kill 24 = .ok (.invokevirtual 333, 3) := by decide +kernel
theorem dX11_kill_27 : decode cX11_kill 27 = .ok (.ireturn, 1) := by decide +kernel
theorem dX11_kill_28 : decode cX11_kill 28 = .ok (.aload_n 0, 1) := by decide +kernel
theorem dX11_kill_29 : decode cX11_kill 29 = .ok (.invokevirtual 321, 3) := by decide +kernel
theorem dX11_kill_32 : decode cX11_kill 32 = .ok (.aload_n 0, 1) := by decide +kernel
theorem dX11_kill_33 : decode cX11_kill 33 = .ok (.getfield 47, 3) := by decide +kernel
theorem dX11_kill_36 : decode cX11_kill 36 = .ok (.iload_n 1, 1) := by decide +kernel
theorem dX11_kill_37 : decode cX11_kill 37 = .ok (.invokevirtual 266, 3) := by decide +kernel
theorem dX11_kill_40 : decode cX11_kill 40 = .ok (.iconst 1, 1) := by decide +kernel
theorem dX11_kill_41 : decode cX11_kill 41 = .ok (.ireturn, 1) := by decide +kernel
theorem dX11_spoil_0 : decode cX11_spoil 0 = .ok (.aload_n 0, 1) := by decide +kernel
theorem dX11_spoil_1 : decode cX11_spoil 1 = .ok (.iload_n 1, 1) := by decide +kernel
theorem dX11_spoil_2 : decode cX11_spoil 2 = .ok (.invokevirtual 175, 3) := by decide +kernel
theorem dX11_spoil_5 : decode cX11_spoil 5 = .ok (.ifCond .eq 33, 3) := by decide +kernel
theorem dX11_spoil_8 : decode cX11_spoil 8 = .ok (.aload_n 0, 1) := by decide +kernel
theorem dX11_spoil_9 : decode cX11_spoil 9 = .ok (.getfield 47, 3) := by decide +kernel
theorem dX11_spoil_12 : decode cX11_spoil 12 = .ok (.getfield 186, 3) := by decide +kernel
theorem dX11_spoil_15 : decode cX11_spoil 15 = .ok (.iload_n 1, 1) := by decide +kernel
theorem dX11_spoil_16 : decode cX11_spoil 16 = .ok (.aaload, 1) := by decide +kernel
theorem dX11_spoil_17 : decode cX11_spoil 17 = .ok (.invokevirtual 340, 3) := by decide +kernel
theorem dX11_spoil_20 : decode cX11_spoil 20 = .ok (.ifCond .eq 18, 3) := by decide +kernel
theorem dX11_spoil_23 : decode cX11_spoil 23 = .ok (.aload_n 0, 1) := by decide +kernel
theorem dX11_spoil_24 : decode cX11_spoil 24 = .ok (.getfield 47, 3) := by decide +kernel
theorem dX11_spoil_27 : decode cX11_spoil 27 = .ok (.getfield 186, 3) := by decide +kernel
theorem dX11_spoil_30 : decode cX11_spoil 30 = .ok (.iload_n 1, 1) := by decide +kernel
theorem dX11_spoil_31 : decode cX11_spoil 31 = .ok (.aaload, 1) := by decide +kernel
theorem dX11_spoil_32 : decode cX11_spoil 32 = .ok (.getfield 210, 3) := by decide +kernel
theorem dX11_spoil_35 : decode cX11_spoil 35 = .ok (.ifCond .eq 8, 3) := by decide +kernel
theorem dX11_spoil_38 : decode cX11_spoil 38 = .ok (.aload_n 0, 1) := by decide +kernel
theorem dX11_spoil_39 : decode cX11_spoil 39 = .ok (.invokevirtual 333, 3) := by decide +kernel
theorem dX11_spoil_42 : decode cX11_spoil 42 = .ok (.ireturn, 1) := by decide +kernel
theorem dX11_spoil_43 : decode cX11_spoil 43 = .ok (.aload_n 0, 1) := by decide +kernel
theorem dX11_spoil_44 : decode cX11_spoil 44 = .ok (.invokevirtual 321, 3) := by decide +kernel
theorem dX11_spoil_47 : decode cX11_spoil 47 = .ok (.aload_n 0, 1) := by decide +kernel
theorem dX11_spoil_48 : decode cX11_spoil 48 = .ok (.getfield 47, 3) := by decide +kernel
theorem dX11_spoil_51 : decode cX11_spoil 51 = .ok (.getfield 186, 3) := by decide +kernel
theorem dX11_spoil_54 : decode cX11_spoil 54 = .ok (.iload_n 1, 1) := by decide +kernel
theorem dX11_spoil_55 : decode cX11_spoil 55 = .ok (.aaload, 1) := by decide +kernel
theorem dX11_spoil_56 : decode cX11_spoil 56 = .ok (.iconst 1, 1) := by decide +kernel
theorem dX11_spoil_57 : decode cX11_spoil 57 = .ok (.putfield 210, 3) := by decide +kernel
theorem dX11_spoil_60 : decode cX11_spoil 60 = .ok (.iconst 1, 1) := by decide +kernel
theorem dX11_spoil_61 : decode cX11_spoil 61 = .ok (.ireturn, 1) := by decide +kernel
theorem dX11_undo_0 : decode cX11_undo 0 = .ok (.aload_n 0, 1) := by decide +kernel
theorem dX11_undo_1 : decode cX11_undo 1 = .ok (.getfield 327, 3) := by decide +kernel
theorem dX11_undo_4 : decode cX11_undo 4 = .ok (.bipush 20, 2) := by decide +kernel
theorem dX11_undo_6 : decode cX11_undo 6 = .ok (.iadd, 1) := by decide +kernel
theorem dX11_undo_7 : decode cX11_undo 7 = .ok (.iconst 1, 1) := by decide +kernel
theorem dX11_undo_8 : decode cX11_undo 8 = .ok (.isub, 1) := by decide +kernel
theorem dX11_undo_9 : decode cX11_undo 9 = .ok (.bipush 20, 2) := by decide +kernel
theorem dX11_undo_11 : decode cX11_undo 11 = .ok (.irem, 1) := by decide +kernel
theorem dX11_undo_12 : decode cX11_undo 12 = .ok (.istore_n 1, 1) := by decide +kernel
theorem dX11_undo_13 : decode cX11_undo 13 = .ok (.aload_n 0, 1) := by decide +kernel
theorem dX11_undo_14 : decode cX11_undo 14 = .ok (.getfield 95, 3) := by decide +kernel
theorem dX11_undo_17 : decode cX11_undo 17 = .ok (.ifCond .eq 12, 3) := by decide +kernel
theorem dX11_undo_20 : decode cX11_undo 20 = .ok (.aload_n 0, 1) := by decide +kernel
theorem dX11_undo_21 : decode cX11_undo 21 = .ok (.getfield 54, 3) := by decide +kernel
theorem dX11_undo_24 : decode cX11_undo 24 = .ok (.iload_n 1, 1) := by decide +kernel
theorem dX11_undo_25 : decode cX11_undo 25 = .ok (.aaload, 1) := by decide +kernel
theorem dX11_undo_26 : decode cX11_undo 26 = .ok (.ifnonnull 15, 3) := by decide +kernel
theorem dX11_undo_29 : decode cX11_undo 29 = .ok (.aload_n 0, 1) := by decide +kernel
theorem dX11_undo_30 : decode cX11_undo 30 = .ok (.getfield 13, 3) := by decide +kernel
theorem dX11_undo_33 : decode cX11_undo 33 = .ok (.iconst 4, 1) := by decide +kernel
theorem dX11_undo_34 : decode cX11_undo 34 = .ok (.dup2, 1) := by decide +kernel
theorem dX11_undo_35 : decode cX11_undo 35 = .ok (.iaload, 1) := by decide +kernel
theorem dX11_undo_36 : decode cX11_undo 36 = .ok (.iconst 1, 1) := by decide +kernel
theorem dX11_undo_37 : decode cX11_undo 37 = .ok (.iadd, 1) := by decide +kernel
theorem dX11_undo_38 : decode cX11_undo 38 = .ok (.iastore, 1) := by decide +kernel
theorem dX11_undo_39 : decode cX11_undo 39 = .ok (.iconst 0, 1) := by decide +kernel
theorem dX11_undo_40 : decode cX11_undo 40 = .ok (.ireturn, 1) := by decide +kernel
theorem dX11_undo_41 : decode cX11_undo 41 = .ok (.aload_n 0, 1) := by decide +kernel
theorem dX11_undo_42 : decode cX11_undo 42 = .ok (.getfield 47, 3) := by decide +kernel
theorem dX11_undo_45 : decode cX11_undo 45 = .ok (.aload_n 0, 1) := by decide +kernel
theorem dX11_undo_46 : decode cX11_undo 46 = .ok (.getfield 54, 3) := by decide +kernel
theorem dX11_undo_49 : decode cX11_undo 49 = .ok (.iload_n 1, 1) := by decide +kernel
theorem dX11_undo_50 : decode cX11_undo 50 = .ok (.aaload, 1) := by decide +kernel
theorem dX11_undo_51 : decode cX11_undo 51 = .ok (.invokevirtual 251, 3) := by decide +kernel
theorem dX11_undo_54 : decode cX11_undo 54 = .ok (.aload_n 0, 1) := by decide +kernel
theorem dX11_undo_55 : decode cX11_undo 55 = .ok (.iload_n 1, 1) := by decide +kernel
theorem dX11_undo_56 : decode cX11_undo 56 = .ok (.putfield 327, 3) := by decide +kernel
theorem dX11_undo_59 : decode cX11_undo 59 = .ok (.aload_n 0, 1) := by decide +kernel
theorem dX11_undo_60 : decode cX11_undo 60 = .ok (.dup, 1) := by decide +kernel
theorem dX11_undo_61 : decode cX11_undo 61 = .ok (.getfield 95, 3) := by decide +kernel
theorem dX11_undo_64 : decode cX11_undo 64 = .ok (.iconst 1, 1) := by decide +kernel
theorem dX11_undo_65 : decode cX11_undo 65 = .ok (.isub, 1) := by decide +kernel
theorem dX11_undo_66 : decode cX11_undo 66 = .ok (.putfield 95, 3) := by decide +kernel
theorem dX11_undo_69 : decode cX11_undo 69 = .ok (.iconst 1, 1) := by decide +kernel
theorem dX11_undo_70 : decode cX11_undo 70 = .ok (.ireturn, 1) := by decide +kernel
theorem dX11_seed_0 : decode cX11_seed 0 = .ok (.iload_n 1, 1) := by decide +kernel
theorem dX11_seed_1 : decode cX11_seed 1 = .ok (.ifCond .ge 15, 3) := by decide +kernel
theorem dX11_seed_4 : decode cX11_seed 4 = .ok (.aload_n 0, 1) := by decide +kernel
theorem dX11_seed_5 : decode cX11_seed 5 = .ok (.getfield 13, 3) := by decide +kernel
theorem dX11_seed_8 : decode cX11_seed 8 = .ok (.iconst 5, 1) := by decide +kernel
theorem dX11_seed_9 : decode cX11_seed 9 = .ok (.dup2, 1) := by decide +kernel
theorem dX11_seed_10 : decode cX11_seed 10 = .ok (.iaload, 1) := by decide +kernel
theorem dX11_seed_11 : decode cX11_seed 11 = .ok (.iconst 1, 1) := by decide +kernel
theorem dX11_seed_12 : decode cX11_seed 12 = .ok (.iadd, 1) := by decide +kernel
theorem dX11_seed_13 : decode cX11_seed 13 = .ok (.iastore, 1) := by decide +kernel
theorem dX11_seed_14 : decode cX11_seed 14 = .ok (.iconst 0, 1) := by decide +kernel
theorem dX11_seed_15 : decode cX11_seed 15 = .ok (.ireturn, 1) := by decide +kernel
theorem dX11_seed_16 : decode cX11_seed 16 = .ok (.aload_n 0, 1) := by decide +kernel
theorem dX11_seed_17 : decode cX11_seed 17 = .ok (.getfield 19, 3) := by decide +kernel
theorem dX11_seed_20 : decode cX11_seed 20 = .ok (.iload_n 1, 1) := by decide +kernel
theorem dX11_seed_21 : decode cX11_seed 21 = .ok (.putfield 104, 3) := by decide +kernel
theorem dX11_seed_24 : decode cX11_seed 24 = .ok (.iconst 1, 1) := by decide +kernel
theorem dX11_seed_25 : decode cX11_seed 25 = .ok (.ireturn, 1) := by decide +kernel
theorem dX11_kept_0 : decode cX11_kept 0 = .ok (.aload_n 0, 1) := by decide +kernel
theorem dX11_kept_1 : decode cX11_kept 1 = .ok (.getfield 85, 3) := by decide +kernel
theorem dX11_kept_4 : decode cX11_kept 4 = .ok (.ifCond .eq 21, 3) := by decide +kernel
theorem dX11_kept_7 : decode cX11_kept 7 = .ok (.iload_n 1, 1) := by decide +kernel
theorem dX11_kept_8 : decode cX11_kept 8 = .ok (.ifCond .lt 17, 3) := by decide +kernel
theorem dX11_kept_11 : decode cX11_kept 11 = .ok (.iload_n 1, 1) := by decide +kernel
theorem dX11_kept_12 : decode cX11_kept 12 = .ok (.aload_n 0, 1) := by decide +kernel
theorem dX11_kept_13 : decode cX11_kept 13 = .ok (.getfield 47, 3) := by decide +kernel
theorem dX11_kept_16 : decode cX11_kept 16 = .ok (.getfield 168, 3) := by decide +kernel
theorem dX11_kept_19 : decode cX11_kept 19 = .ok (.getfield 172, 3) := by decide +kernel
theorem dX11_kept_22 : decode cX11_kept 22 = .ok (.if_icmp .lt 5, 3) := by decide +kernel
theorem dX11_kept_25 : decode cX11_kept 25 = .ok (.iconst (-1), 1) := by decide +kernel
theorem dX11_kept_26 : decode cX11_kept 26 = .ok (.ireturn, 1) := by decide +kernel
theorem dX11_kept_27 : decode cX11_kept 27 = .ok (.aload_n 0, 1) := by decide +kernel
theorem dX11_kept_28 : decode cX11_kept 28 = .ok (.getfield 47, 3) := by decide +kernel
theorem dX11_kept_31 : decode cX11_kept 31 = .ok (.getfield 168, 3) := by decide +kernel
theorem dX11_kept_34 : decode cX11_kept 34 = .ok (.iload_n 1, 1) := by decide +kernel
theorem dX11_kept_35 : decode cX11_kept 35 = .ok (.invokevirtual 343, 3) := by decide +kernel
theorem dX11_kept_38 : decode cX11_kept 38 = .ok (.istore_n 3, 1) := by decide +kernel
theorem dX11_kept_39 : decode cX11_kept 39 = .ok (.iload_n 2, 1) := by decide +kernel
theorem dX11_kept_40 : decode cX11_kept 40 = .ok (.tableswitch 67 0 2 #[28, 41, 54], 28) := by decide +kernel
theorem dX11_kept_68 : decode cX11_kept 68 = .ok (.aload_n 0, 1) := by decide +kernel
theorem dX11_kept_69 : decode cX11_kept 69 = .ok (.getfield 47, 3) := by decide +kernel
theorem dX11_kept_72 : decode cX11_kept 72 = .ok (.getfield 168, 3) := by decide +kernel
theorem dX11_kept_75 : decode cX11_kept 75 = .ok (.getfield 346, 3) := by decide +kernel
theorem dX11_kept_78 : decode cX11_kept 78 = .ok (.iload_n 3, 1) := by decide +kernel
theorem dX11_kept_79 : decode cX11_kept 79 = .ok (.iaload, 1) := by decide +kernel
theorem dX11_kept_80 : decode cX11_kept 80 = .ok (.ireturn, 1) := by decide +kernel
theorem dX11_kept_81 : decode cX11_kept 81 = .ok (.aload_n 0, 1) := by decide +kernel
theorem dX11_kept_82 : decode cX11_kept 82 = .ok (.getfield 47, 3) := by decide +kernel
theorem dX11_kept_85 : decode cX11_kept 85 = .ok (.getfield 168, 3) := by decide +kernel
theorem dX11_kept_88 : decode cX11_kept 88 = .ok (.getfield 349, 3) := by decide +kernel
theorem dX11_kept_91 : decode cX11_kept 91 = .ok (.iload_n 3, 1) := by decide +kernel
theorem dX11_kept_92 : decode cX11_kept 92 = .ok (.iaload, 1) := by decide +kernel
theorem dX11_kept_93 : decode cX11_kept 93 = .ok (.ireturn, 1) := by decide +kernel
theorem dX11_kept_94 : decode cX11_kept 94 = .ok (.aload_n 0, 1) := by decide +kernel
theorem dX11_kept_95 : decode cX11_kept 95 = .ok (.getfield 47, 3) := by decide +kernel
theorem dX11_kept_98 : decode cX11_kept 98 = .ok (.getfield 168, 3) := by decide +kernel
theorem dX11_kept_101 : decode cX11_kept 101 = .ok (.getfield 350, 3) := by decide +kernel
theorem dX11_kept_104 : decode cX11_kept 104 = .ok (.iload_n 3, 1) := by decide +kernel
theorem dX11_kept_105 : decode cX11_kept 105 = .ok (.iaload, 1) := by decide +kernel
theorem dX11_kept_106 : decode cX11_kept 106 = .ok (.ireturn, 1) := by decide +kernel
theorem dX11_kept_107 : decode cX11_kept 107 = .ok (.iconst (-1), 1) := by decide +kernel
theorem dX11_kept_108 : decode cX11_kept 108 = .ok (.ireturn, 1) := by decide +kernel
theorem dX11_status_0 : decode cX11_status 0 = .ok (.iload_n 1, 1) := by decide +kernel
theorem dX11_status_1 : decode cX11_status 1 = .ok (.ifCond .lt 8, 3) := by decide +kernel
theorem dX11_status_4 : decode cX11_status 4 = .ok (.iload_n 1, 1) := by decide +kernel
theorem dX11_status_5 : decode cX11_status 5 = .ok (.iconst 5, 1) := by decide +kernel
theorem dX11_status_6 : decode cX11_status 6 = .ok (.if_icmp .le 7, 3) := by decide +kernel
theorem dX11_status_9 : decode cX11_status 9 = .ok (.iconst (-1), 1) := by decide +kernel
theorem dX11_status_10 : decode cX11_status 10 = .ok (.goto 9, 3) := by decide +kernel
theorem dX11_status_13 : decode cX11_status 13 = .ok (.aload_n 0, 1) := by decide +kernel
theorem dX11_status_14 : decode cX11_status 14 = .ok (.getfield 13, 3) := by decide +kernel
theorem dX11_status_17 : decode cX11_status 17 = .ok (.iload_n 1, 1) := by decide +kernel
theorem dX11_status_18 : decode cX11_status 18 = .ok (.iaload, 1) := by decide +kernel
theorem dX11_status_19 : decode cX11_status 19 = .ok (.ireturn, 1) := by decide +kernel
theorem dL_law_0 : decode cL_law 0 = .ok (.new 7, 3) := by decide +kernel
theorem dL_law_3 : decode cL_law 3 = .ok (.dup, 1) := by decide +kernel
theorem dL_law_4 : decode cL_law 4 = .ok (.invokespecial 9, 3) := by decide +kernel
theorem dL_law_7 : decode cL_law 7 = .ok (.astore_n 1, 1) := by decide +kernel
theorem dL_law_8 : decode cL_law 8 = .ok (.new 10, 3) := by decide +kernel
theorem dL_law_11 : decode cL_law 11 = .ok (.dup, 1) := by decide +kernel
theorem dL_law_12 : decode cL_law 12 = .ok (.invokespecial 12, 3) := by decide +kernel
theorem dL_law_15 : decode cL_law 15 = .ok (.astore_n 2, 1) := by decide +kernel
theorem dL_law_16 : decode cL_law 16 = .ok (.iconst 0, 1) := by decide +kernel
theorem dL_law_17 : decode cL_law 17 = .ok (.istore_n 3, 1) := by decide +kernel
theorem dL_law_18 : decode cL_law 18 = .ok (.iload_n 3, 1) := by decide +kernel
theorem dL_law_19 : decode cL_law 19 = .ok (.aload_n 0, 1) := by decide +kernel
theorem dL_law_20 : decode cL_law 20 = .ok (.arraylength, 1) := by decide +kernel
theorem dL_law_21 : decode cL_law 21 = .ok (.bipush 6, 2) := by decide +kernel
theorem dL_law_23 : decode cL_law 23 = .ok (.isub, 1) := by decide +kernel
theorem dL_law_24 : decode cL_law 24 = .ok (.if_icmp .gt 856, 3) := by decide +kernel
theorem dL_law_27 : decode cL_law 27 = .ok (.aload_n 0, 1) := by decide +kernel
theorem dL_law_28 : decode cL_law 28 = .ok (.iload_n 3, 1) := by decide +kernel
theorem dL_law_29 : decode cL_law 29 = .ok (.iaload, 1) := by decide +kernel
theorem dL_law_30 : decode cL_law 30 = .ok (.bipush 31, 2) := by decide +kernel
theorem dL_law_32 : decode cL_law 32 = .ok (.iand, 1) := by decide +kernel
theorem dL_law_33 : decode cL_law 33 = .ok (.tableswitch 841 0 27 #[127, 190, 213, 226, 249, 272, 305, 338, 371, 394, 417, 450, 463, 486, 509, 532, 555, 568, 591, 624, 647, 670, 703, 726, 749, 762, 785, 818], 127) := by decide +kernel
theorem dL_law_160 : decode cL_law 160 = .ok (.aload_n 1, 1) := by decide +kernel
theorem dL_law_161 : decode cL_law 161 = .ok (.aload_n 0, 1) := by decide +kernel
theorem dL_law_162 : decode cL_law 162 = .ok (.iload_n 3, 1) := by decide +kernel
theorem dL_law_163 : decode cL_law 163 = .ok (.iconst 1, 1) := by decide +kernel
theorem dL_law_164 : decode cL_law 164 = .ok (.iadd, 1) := by decide +kernel
theorem dL_law_165 : decode cL_law 165 = .ok (.iaload, 1) := by decide +kernel
theorem dL_law_166 : decode cL_law 166 = .ok (.aload_n 0, 1) := by decide +kernel
theorem dL_law_167 : decode cL_law 167 = .ok (.iload_n 3, 1) := by decide +kernel
theorem dL_law_168 : decode cL_law 168 = .ok (.iconst 2, 1) := by decide +kernel
theorem dL_law_169 : decode cL_law 169 = .ok (.iadd, 1) := by decide +kernel
theorem dL_law_170 : decode cL_law 170 = .ok (.iaload, 1) := by decide +kernel
theorem dL_law_171 : decode cL_law 171 = .ok (.aload_n 0, 1) := by decide +kernel
theorem dL_law_172 : decode cL_law 172 = .ok (.iload_n 3, 1) := by decide +kernel
theorem dL_law_173 : decode cL_law 173 = .ok (.iconst 3, 1) := by decide +kernel
theorem dL_law_174 : decode cL_law 174 = .ok (.iadd, 1) := by decide +kernel
theorem dL_law_175 : decode cL_law 175 = .ok (.iaload, 1) := by decide +kernel
theorem dL_law_176 : decode cL_law 176 = .ok (.aload_n 0, 1) := by decide +kernel
theorem dL_law_177 : decode cL_law 177 = .ok (.iload_n 3, 1) := by decide +kernel
theorem dL_law_178 : decode cL_law 178 = .ok (.iconst 4, 1) := by decide +kernel
theorem dL_law_179 : decode cL_law 179 = .ok (.iadd, 1) := by decide +kernel
theorem dL_law_180 : decode cL_law 180 = .ok (.iaload, 1) := by decide +kernel
theorem dL_law_181 : decode cL_law 181 = .ok (.aload_n 0, 1) := by decide +kernel
theorem dL_law_182 : decode cL_law 182 = .ok (.iload_n 3, 1) := by decide +kernel
theorem dL_law_183 : decode cL_law 183 = .ok (.iconst 5, 1) := by decide +kernel
theorem dL_law_184 : decode cL_law 184 = .ok (.iadd, 1) := by decide +kernel
theorem dL_law_185 : decode cL_law 185 = .ok (.iaload, 1) := by decide +kernel
theorem dL_law_186 : decode cL_law 186 = .ok (.invokevirtual 13, 3) := by decide +kernel
theorem dL_law_189 : decode cL_law 189 = .ok (.aload_n 2, 1) := by decide +kernel
theorem dL_law_190 : decode cL_law 190 = .ok (.aload_n 0, 1) := by decide +kernel
theorem dL_law_191 : decode cL_law 191 = .ok (.iload_n 3, 1) := by decide +kernel
theorem dL_law_192 : decode cL_law 192 = .ok (.iconst 1, 1) := by decide +kernel
theorem dL_law_193 : decode cL_law 193 = .ok (.iadd, 1) := by decide +kernel
theorem dL_law_194 : decode cL_law 194 = .ok (.iaload, 1) := by decide +kernel
theorem dL_law_195 : decode cL_law 195 = .ok (.aload_n 0, 1) := by decide +kernel
theorem dL_law_196 : decode cL_law 196 = .ok (.iload_n 3, 1) := by decide +kernel
theorem dL_law_197 : decode cL_law 197 = .ok (.iconst 2, 1) := by decide +kernel
theorem dL_law_198 : decode cL_law 198 = .ok (.iadd, 1) := by decide +kernel
theorem dL_law_199 : decode cL_law 199 = .ok (.iaload, 1) := by decide +kernel
theorem dL_law_200 : decode cL_law 200 = .ok (.aload_n 0, 1) := by decide +kernel
theorem dL_law_201 : decode cL_law 201 = .ok (.iload_n 3, 1) := by decide +kernel
theorem dL_law_202 : decode cL_law 202 = .ok (.iconst 3, 1) := by decide +kernel
theorem dL_law_203 : decode cL_law 203 = .ok (.iadd, 1) := by decide +kernel
theorem dL_law_204 : decode cL_law 204 = .ok (.iaload, 1) := by decide +kernel
theorem dL_law_205 : decode cL_law 205 = .ok (.aload_n 0, 1) := by decide +kernel
theorem dL_law_206 : decode cL_law 206 = .ok (.iload_n 3, 1) := by decide +kernel
theorem dL_law_207 : decode cL_law 207 = .ok (.iconst 4, 1) := by decide +kernel
theorem dL_law_208 : decode cL_law 208 = .ok (.iadd, 1) := by decide +kernel
theorem dL_law_209 : decode cL_law 209 = .ok (.iaload, 1) := by decide +kernel
theorem dL_law_210 : decode cL_law 210 = .ok (.aload_n 0, 1) := by decide +kernel
theorem dL_law_211 : decode cL_law 211 = .ok (.iload_n 3, 1) := by decide +kernel
theorem dL_law_212 : decode cL_law 212 = .ok (.iconst 5, 1) := by decide +kernel
theorem dL_law_213 : decode cL_law 213 = .ok (.iadd, 1) := by decide +kernel
theorem dL_law_214 : decode cL_law 214 = .ok (.iaload, 1) := by decide +kernel
theorem dL_law_215 : decode cL_law 215 = .ok (.invokevirtual 17, 3) := by decide +kernel
theorem dL_law_218 : decode cL_law 218 = .ok (.if_icmp .eq 656, 3) := by decide +kernel
theorem dL_law_221 : decode cL_law 221 = .ok (.iconst 0, 1) := by decide +kernel
theorem dL_law_222 : decode cL_law 222 = .ok (.ireturn, 1) := by decide +kernel
theorem dL_law_223 : decode cL_law 223 = .ok (.aload_n 1, 1) := by decide +kernel
theorem dL_law_224 : decode cL_law 224 = .ok (.aload_n 0, 1) := by decide +kernel
theorem dL_law_225 : decode cL_law 225 = .ok (.iload_n 3, 1) := by decide +kernel
theorem dL_law_226 : decode cL_law 226 = .ok (.iconst 1, 1) := by decide +kernel
theorem dL_law_227 : decode cL_law 227 = .ok (.iadd, 1) := by decide +kernel
theorem dL_law_228 : decode cL_law 228 = .ok (.iaload, 1) := by decide +kernel
theorem dL_law_229 : decode cL_law 229 = .ok (.invokevirtual 18, 3) := by decide +kernel
theorem dL_law_232 : decode cL_law 232 = .ok (.aload_n 2, 1) := by decide +kernel
theorem dL_law_233 : decode cL_law 233 = .ok (.aload_n 0, 1) := by decide +kernel
theorem dL_law_234 : decode cL_law 234 = .ok (.iload_n 3, 1) := by decide +kernel
theorem dL_law_235 : decode cL_law 235 = .ok (.iconst 1, 1) := by decide +kernel
theorem dL_law_236 : decode cL_law 236 = .ok (.iadd, 1) := by decide +kernel
theorem dL_law_237 : decode cL_law 237 = .ok (.iaload, 1) := by decide +kernel
theorem dL_law_238 : decode cL_law 238 = .ok (.invokevirtual 22, 3) := by decide +kernel
theorem dL_law_241 : decode cL_law 241 = .ok (.if_icmp .eq 633, 3) := by decide +kernel
theorem dL_law_244 : decode cL_law 244 = .ok (.iconst 0, 1) := by decide +kernel
theorem dL_law_245 : decode cL_law 245 = .ok (.ireturn, 1) := by decide +kernel
theorem dL_law_246 : decode cL_law 246 = .ok (.aload_n 1, 1) := by decide +kernel
theorem dL_law_247 : decode cL_law 247 = .ok (.invokevirtual 23, 3) := by decide +kernel
theorem dL_law_250 : decode cL_law 250 = .ok (.aload_n 2, 1) := by decide +kernel
theorem dL_law_251 : decode cL_law 251 = .ok (.invokevirtual 27, 3) := by decide +kernel
theorem dL_law_254 : decode cL_law 254 = .ok (.if_icmp .eq 620, 3) := by decide +kernel
theorem dL_law_257 : decode cL_law 257 = .ok (.iconst 0, 1) := by decide +kernel
theorem dL_law_258 : decode cL_law 258 = .ok (.ireturn, 1) := by decide +kernel
theorem dL_law_259 : decode cL_law 259 = .ok (.aload_n 1, 1) := by decide +kernel
theorem dL_law_260 : decode cL_law 260 = .ok (.aload_n 0, 1) := by decide +kernel
theorem dL_law_261 : decode cL_law 261 = .ok (.iload_n 3, 1) := by decide +kernel
theorem dL_law_262 : decode cL_law 262 = .ok (.iconst 1, 1) := by decide +kernel
theorem dL_law_263 : decode cL_law 263 = .ok (.iadd, 1) := by decide +kernel
theorem dL_law_264 : decode cL_law 264 = .ok (.iaload, 1) := by decide +kernel
theorem dL_law_265 : decode cL_law 265 = .ok (.invokevirtual 28, 3) := by decide +kernel
theorem dL_law_268 : decode cL_law 268 = .ok (.aload_n 2, 1) := by decide +kernel
theorem dL_law_269 : decode cL_law 269 = .ok (.aload_n 0, 1) := by decide +kernel
theorem dL_law_270 : decode cL_law 270 = .ok (.iload_n 3, 1) := by decide +kernel
theorem dL_law_271 : decode cL_law 271 = .ok (.iconst 1, 1) := by decide +kernel
theorem dL_law_272 : decode cL_law 272 = .ok (.iadd, 1) := by decide +kernel
theorem dL_law_273 : decode cL_law 273 = .ok (.iaload, 1) := by decide +kernel
theorem dL_law_274 : decode cL_law 274 = .ok (.invokevirtual 32, 3) := by decide +kernel
theorem dL_law_277 : decode cL_law 277 = .ok (.if_icmp .eq 597, 3) := by decide +kernel
theorem dL_law_280 : decode cL_law 280 = .ok (.iconst 0, 1) := by decide +kernel
theorem dL_law_281 : decode cL_law 281 = .ok (.ireturn, 1) := by decide +kernel
theorem dL_law_282 : decode cL_law 282 = .ok (.aload_n 1, 1) := by decide +kernel
theorem dL_law_283 : decode cL_law 283 = .ok (.aload_n 0, 1) := by decide +kernel
theorem dL_law_284 : decode cL_law 284 = .ok (.iload_n 3, 1) := by decide +kernel
theorem dL_law_285 : decode cL_law 285 = .ok (.iconst 1, 1) := by decide +kernel
theorem dL_law_286 : decode cL_law 286 = .ok (.iadd, 1) := by decide +kernel
theorem dL_law_287 : decode cL_law 287 = .ok (.iaload, 1) := by decide +kernel
theorem dL_law_288 : decode cL_law 288 = .ok (.invokevirtual 33, 3) := by decide +kernel
theorem dL_law_291 : decode cL_law 291 = .ok (.aload_n 2, 1) := by decide +kernel
theorem dL_law_292 : decode cL_law 292 = .ok (.aload_n 0, 1) := by decide +kernel
theorem dL_law_293 : decode cL_law 293 = .ok (.iload_n 3, 1) := by decide +kernel
theorem dL_law_294 : decode cL_law 294 = .ok (.iconst 1, 1) := by decide +kernel
theorem dL_law_295 : decode cL_law 295 = .ok (.iadd, 1) := by decide +kernel
theorem dL_law_296 : decode cL_law 296 = .ok (.iaload, 1) := by decide +kernel
theorem dL_law_297 : decode cL_law 297 = .ok (.invokevirtual 36, 3) := by decide +kernel
theorem dL_law_300 : decode cL_law 300 = .ok (.if_icmp .eq 574, 3) := by decide +kernel
theorem dL_law_303 : decode cL_law 303 = .ok (.iconst 0, 1) := by decide +kernel
theorem dL_law_304 : decode cL_law 304 = .ok (.ireturn, 1) := by decide +kernel
theorem dL_law_305 : decode cL_law 305 = .ok (.aload_n 1, 1) := by decide +kernel
theorem dL_law_306 : decode cL_law 306 = .ok (.aload_n 0, 1) := by decide +kernel
theorem dL_law_307 : decode cL_law 307 = .ok (.iload_n 3, 1) := by decide +kernel
theorem dL_law_308 : decode cL_law 308 = .ok (.iconst 1, 1) := by decide +kernel
theorem dL_law_309 : decode cL_law 309 = .ok (.iadd, 1) := by decide +kernel
theorem dL_law_310 : decode cL_law 310 = .ok (.iaload, 1) := by decide +kernel
theorem dL_law_311 : decode cL_law 311 = .ok (.aload_n 0, 1) := by decide +kernel
theorem dL_law_312 : decode cL_law 312 = .ok (.iload_n 3, 1) := by decide +kernel
theorem dL_law_313 : decode cL_law 313 = .ok (.iconst 2, 1) := by decide +kernel
theorem dL_law_314 : decode cL_law 314 = .ok (.iadd, 1) := by decide +kernel
theorem dL_law_315 : decode cL_law 315 = .ok (.iaload, 1) := by decide +kernel
theorem dL_law_316 : decode cL_law 316 = .ok (.invokevirtual 37, 3) := by decide +kernel
theorem dL_law_319 : decode cL_law 319 = .ok (.aload_n 2, 1) := by decide +kernel
theorem dL_law_320 : decode cL_law 320 = .ok (.aload_n 0, 1) := by decide +kernel
theorem dL_law_321 : decode cL_law 321 = .ok (.iload_n 3, 1) := by decide +kernel
theorem dL_law_322 : decode cL_law 322 = .ok (.iconst 1, 1) := by decide +kernel
theorem dL_law_323 : decode cL_law 323 = .ok (.iadd, 1) := by decide +kernel
theorem dL_law_324 : decode cL_law 324 = .ok (.iaload, 1) := by decide +kernel
theorem dL_law_325 : decode cL_law 325 = .ok (.aload_n 0, 1) := by decide +kernel
theorem dL_law_326 : decode cL_law 326 = .ok (.iload_n 3, 1) := by decide +kernel
theorem dL_law_327 : decode cL_law 327 = .ok (.iconst 2, 1) := by decide +kernel
theorem dL_law_328 : decode cL_law 328 = .ok (.iadd, 1) := by decide +kernel
theorem dL_law_329 : decode cL_law 329 = .ok (.iaload, 1) := by decide +kernel
theorem dL_law_330 : decode cL_law 330 = .ok (.invokevirtual 41, 3) := by decide +kernel
theorem dL_law_333 : decode cL_law 333 = .ok (.if_icmp .eq 541, 3) := by decide +kernel
theorem dL_law_336 : decode cL_law 336 = .ok (.iconst 0, 1) := by decide +kernel
theorem dL_law_337 : decode cL_law 337 = .ok (.ireturn, 1) := by decide +kernel
theorem dL_law_338 : decode cL_law 338 = .ok (.aload_n 1, 1) := by decide +kernel
theorem dL_law_339 : decode cL_law 339 = .ok (.aload_n 0, 1) := by decide +kernel
theorem dL_law_340 : decode cL_law 340 = .ok (.iload_n 3, 1) := by decide +kernel
theorem dL_law_341 : decode cL_law 341 = .ok (.iconst 1, 1) := by decide +kernel
theorem dL_law_342 : decode cL_law 342 = .ok (.iadd, 1) := by decide +kernel
theorem dL_law_343 : decode cL_law 343 = .ok (.iaload, 1) := by decide +kernel
theorem dL_law_344 : decode cL_law 344 = .ok (.aload_n 0, 1) := by decide +kernel
theorem dL_law_345 : decode cL_law 345 = .ok (.iload_n 3, 1) := by decide +kernel
theorem dL_law_346 : decode cL_law 346 = .ok (.iconst 2, 1) := by decide +kernel
theorem dL_law_347 : decode cL_law 347 = .ok (.iadd, 1) := by decide +kernel
theorem dL_law_348 : decode cL_law 348 = .ok (.iaload, 1) := by decide +kernel
theorem dL_law_349 : decode cL_law 349 = .ok (.invokevirtual 42, 3) := by decide +kernel
theorem dL_law_352 : decode cL_law 352 = .ok (.aload_n 2, 1) := by decide +kernel
theorem dL_law_353 : decode cL_law 353 = .ok (.aload_n 0, 1) := by decide +kernel
theorem dL_law_354 : decode cL_law 354 = .ok (.iload_n 3, 1) := by decide +kernel
theorem dL_law_355 : decode cL_law 355 = .ok (.iconst 1, 1) := by decide +kernel
theorem dL_law_356 : decode cL_law 356 = .ok (.iadd, 1) := by decide +kernel
theorem dL_law_357 : decode cL_law 357 = .ok (.iaload, 1) := by decide +kernel
theorem dL_law_358 : decode cL_law 358 = .ok (.aload_n 0, 1) := by decide +kernel
theorem dL_law_359 : decode cL_law 359 = .ok (.iload_n 3, 1) := by decide +kernel
theorem dL_law_360 : decode cL_law 360 = .ok (.iconst 2, 1) := by decide +kernel
theorem dL_law_361 : decode cL_law 361 = .ok (.iadd, 1) := by decide +kernel
theorem dL_law_362 : decode cL_law 362 = .ok (.iaload, 1) := by decide +kernel
theorem dL_law_363 : decode cL_law 363 = .ok (.invokevirtual 45, 3) := by decide +kernel
theorem dL_law_366 : decode cL_law 366 = .ok (.if_icmp .eq 508, 3) := by decide +kernel
theorem dL_law_369 : decode cL_law 369 = .ok (.iconst 0, 1) := by decide +kernel
theorem dL_law_370 : decode cL_law 370 = .ok (.ireturn, 1) := by decide +kernel
theorem dL_law_371 : decode cL_law 371 = .ok (.aload_n 1, 1) := by decide +kernel
theorem dL_law_372 : decode cL_law 372 = .ok (.aload_n 0, 1) := by decide +kernel
theorem dL_law_373 : decode cL_law 373 = .ok (.iload_n 3, 1) := by decide +kernel
theorem dL_law_374 : decode cL_law 374 = .ok (.iconst 1, 1) := by decide +kernel
theorem dL_law_375 : decode cL_law 375 = .ok (.iadd, 1) := by decide +kernel
theorem dL_law_376 : decode cL_law 376 = .ok (.iaload, 1) := by decide +kernel
theorem dL_law_377 : decode cL_law 377 = .ok (.aload_n 0, 1) := by decide +kernel
theorem dL_law_378 : decode cL_law 378 = .ok (.iload_n 3, 1) := by decide +kernel
theorem dL_law_379 : decode cL_law 379 = .ok (.iconst 2, 1) := by decide +kernel
theorem dL_law_380 : decode cL_law 380 = .ok (.iadd, 1) := by decide +kernel
theorem dL_law_381 : decode cL_law 381 = .ok (.iaload, 1) := by decide +kernel
theorem dL_law_382 : decode cL_law 382 = .ok (.invokevirtual 46, 3) := by decide +kernel
theorem dL_law_385 : decode cL_law 385 = .ok (.aload_n 2, 1) := by decide +kernel
theorem dL_law_386 : decode cL_law 386 = .ok (.aload_n 0, 1) := by decide +kernel
theorem dL_law_387 : decode cL_law 387 = .ok (.iload_n 3, 1) := by decide +kernel
theorem dL_law_388 : decode cL_law 388 = .ok (.iconst 1, 1) := by decide +kernel
theorem dL_law_389 : decode cL_law 389 = .ok (.iadd, 1) := by decide +kernel
theorem dL_law_390 : decode cL_law 390 = .ok (.iaload, 1) := by decide +kernel
theorem dL_law_391 : decode cL_law 391 = .ok (.aload_n 0, 1) := by decide +kernel
theorem dL_law_392 : decode cL_law 392 = .ok (.iload_n 3, 1) := by decide +kernel
theorem dL_law_393 : decode cL_law 393 = .ok (.iconst 2, 1) := by decide +kernel
theorem dL_law_394 : decode cL_law 394 = .ok (.iadd, 1) := by decide +kernel
theorem dL_law_395 : decode cL_law 395 = .ok (.iaload, 1) := by decide +kernel
theorem dL_law_396 : decode cL_law 396 = .ok (.invokevirtual 49, 3) := by decide +kernel
theorem dL_law_399 : decode cL_law 399 = .ok (.if_icmp .eq 475, 3) := by decide +kernel
theorem dL_law_402 : decode cL_law 402 = .ok (.iconst 0, 1) := by decide +kernel
theorem dL_law_403 : decode cL_law 403 = .ok (.ireturn, 1) := by decide +kernel
theorem dL_law_404 : decode cL_law 404 = .ok (.aload_n 1, 1) := by decide +kernel
theorem dL_law_405 : decode cL_law 405 = .ok (.aload_n 0, 1) := by decide +kernel
theorem dL_law_406 : decode cL_law 406 = .ok (.iload_n 3, 1) := by decide +kernel
theorem dL_law_407 : decode cL_law 407 = .ok (.iconst 1, 1) := by decide +kernel
theorem dL_law_408 : decode cL_law 408 = .ok (.iadd, 1) := by decide +kernel
theorem dL_law_409 : decode cL_law 409 = .ok (.iaload, 1) := by decide +kernel
theorem dL_law_410 : decode cL_law 410 = .ok (.invokevirtual 50, 3) := by decide +kernel
theorem dL_law_413 : decode cL_law 413 = .ok (.aload_n 2, 1) := by decide +kernel
theorem dL_law_414 : decode cL_law 414 = .ok (.aload_n 0, 1) := by decide +kernel
theorem dL_law_415 : decode cL_law 415 = .ok (.iload_n 3, 1) := by decide +kernel
theorem dL_law_416 : decode cL_law 416 = .ok (.iconst 1, 1) := by decide +kernel
theorem dL_law_417 : decode cL_law 417 = .ok (.iadd, 1) := by decide +kernel
theorem dL_law_418 : decode cL_law 418 = .ok (.iaload, 1) := by decide +kernel
theorem dL_law_419 : decode cL_law 419 = .ok (.invokevirtual 53, 3) := by decide +kernel
theorem dL_law_422 : decode cL_law 422 = .ok (.if_icmp .eq 452, 3) := by decide +kernel
theorem dL_law_425 : decode cL_law 425 = .ok (.iconst 0, 1) := by decide +kernel
theorem dL_law_426 : decode cL_law 426 = .ok (.ireturn, 1) := by decide +kernel
theorem dL_law_427 : decode cL_law 427 = .ok (.aload_n 1, 1) := by decide +kernel
theorem dL_law_428 : decode cL_law 428 = .ok (.aload_n 0, 1) := by decide +kernel
theorem dL_law_429 : decode cL_law 429 = .ok (.iload_n 3, 1) := by decide +kernel
theorem dL_law_430 : decode cL_law 430 = .ok (.iconst 1, 1) := by decide +kernel
theorem dL_law_431 : decode cL_law 431 = .ok (.iadd, 1) := by decide +kernel
theorem dL_law_432 : decode cL_law 432 = .ok (.iaload, 1) := by decide +kernel
theorem dL_law_433 : decode cL_law 433 = .ok (.invokevirtual 54, 3) := by decide +kernel
theorem dL_law_436 : decode cL_law 436 = .ok (.aload_n 2, 1) := by decide +kernel
theorem dL_law_437 : decode cL_law 437 = .ok (.aload_n 0, 1) := by decide +kernel
theorem dL_law_438 : decode cL_law 438 = .ok (.iload_n 3, 1) := by decide +kernel
theorem dL_law_439 : decode cL_law 439 = .ok (.iconst 1, 1) := by decide +kernel
theorem dL_law_440 : decode cL_law 440 = .ok (.iadd, 1) := by decide +kernel
theorem dL_law_441 : decode cL_law 441 = .ok (.iaload, 1) := by decide +kernel
theorem dL_law_442 : decode cL_law 442 = .ok (.invokevirtual 57, 3) := by decide +kernel
theorem dL_law_445 : decode cL_law 445 = .ok (.if_icmp .eq 429, 3) := by decide +kernel
theorem dL_law_448 : decode cL_law 448 = .ok (.iconst 0, 1) := by decide +kernel
theorem dL_law_449 : decode cL_law 449 = .ok (.ireturn, 1) := by decide +kernel
theorem dL_law_450 : decode cL_law 450 = .ok (.aload_n 1, 1) := by decide +kernel
theorem dL_law_451 : decode cL_law 451 = .ok (.aload_n 0, 1) := by decide +kernel
theorem dL_law_452 : decode cL_law 452 = .ok (.iload_n 3, 1) := by decide +kernel
theorem dL_law_453 : decode cL_law 453 = .ok (.iconst 1, 1) := by decide +kernel
theorem dL_law_454 : decode cL_law 454 = .ok (.iadd, 1) := by decide +kernel
theorem dL_law_455 : decode cL_law 455 = .ok (.iaload, 1) := by decide +kernel
theorem dL_law_456 : decode cL_law 456 = .ok (.aload_n 0, 1) := by decide +kernel
theorem dL_law_457 : decode cL_law 457 = .ok (.iload_n 3, 1) := by decide +kernel
theorem dL_law_458 : decode cL_law 458 = .ok (.iconst 2, 1) := by decide +kernel
theorem dL_law_459 : decode cL_law 459 = .ok (.iadd, 1) := by decide +kernel
theorem dL_law_460 : decode cL_law 460 = .ok (.iaload, 1) := by decide +kernel
theorem dL_law_461 : decode cL_law 461 = .ok (.invokevirtual 58, 3) := by decide +kernel
theorem dL_law_464 : decode cL_law 464 = .ok (.aload_n 2, 1) := by decide +kernel
theorem dL_law_465 : decode cL_law 465 = .ok (.aload_n 0, 1) := by decide +kernel
theorem dL_law_466 : decode cL_law 466 = .ok (.iload_n 3, 1) := by decide +kernel
theorem dL_law_467 : decode cL_law 467 = .ok (.iconst 1, 1) := by decide +kernel
theorem dL_law_468 : decode cL_law 468 = .ok (.iadd, 1) := by decide +kernel
theorem dL_law_469 : decode cL_law 469 = .ok (.iaload, 1) := by decide +kernel
theorem dL_law_470 : decode cL_law 470 = .ok (.aload_n 0, 1) := by decide +kernel
theorem dL_law_471 : decode cL_law 471 = .ok (.iload_n 3, 1) := by decide +kernel
theorem dL_law_472 : decode cL_law 472 = .ok (.iconst 2, 1) := by decide +kernel
theorem dL_law_473 : decode cL_law 473 = .ok (.iadd, 1) := by decide +kernel
theorem dL_law_474 : decode cL_law 474 = .ok (.iaload, 1) := by decide +kernel
theorem dL_law_475 : decode cL_law 475 = .ok (.invokevirtual 61, 3) := by decide +kernel
theorem dL_law_478 : decode cL_law 478 = .ok (.if_icmp .eq 396, 3) := by decide +kernel
theorem dL_law_481 : decode cL_law 481 = .ok (.iconst 0, 1) := by decide +kernel
theorem dL_law_482 : decode cL_law 482 = .ok (.ireturn, 1) := by decide +kernel
theorem dL_law_483 : decode cL_law 483 = .ok (.aload_n 1, 1) := by decide +kernel
theorem dL_law_484 : decode cL_law 484 = .ok (.invokevirtual 62, 3) := by decide +kernel
theorem dL_law_487 : decode cL_law 487 = .ok (.aload_n 2, 1) := by decide +kernel
theorem dL_law_488 : decode cL_law 488 = .ok (.invokevirtual 65, 3) := by decide +kernel
theorem dL_law_491 : decode cL_law 491 = .ok (.if_icmp .eq 383, 3) := by decide +kernel
theorem dL_law_494 : decode cL_law 494 = .ok (.iconst 0, 1) := by decide +kernel
theorem dL_law_495 : decode cL_law 495 = .ok (.ireturn, 1) := by decide +kernel
theorem dL_law_496 : decode cL_law 496 = .ok (.aload_n 1, 1) := by decide +kernel
theorem dL_law_497 : decode cL_law 497 = .ok (.aload_n 0, 1) := by decide +kernel
theorem dL_law_498 : decode cL_law 498 = .ok (.iload_n 3, 1) := by decide +kernel
theorem dL_law_499 : decode cL_law 499 = .ok (.iconst 1, 1) := by decide +kernel
theorem dL_law_500 : decode cL_law 500 = .ok (.iadd, 1) := by decide +kernel
theorem dL_law_501 : decode cL_law 501 = .ok (.iaload, 1) := by decide +kernel
theorem dL_law_502 : decode cL_law 502 = .ok (.invokevirtual 66, 3) := by decide +kernel
theorem dL_law_505 : decode cL_law 505 = .ok (.aload_n 2, 1) := by decide +kernel
theorem dL_law_506 : decode cL_law 506 = .ok (.aload_n 0, 1) := by decide +kernel
theorem dL_law_507 : decode cL_law 507 = .ok (.iload_n 3, 1) := by decide +kernel
theorem dL_law_508 : decode cL_law 508 = .ok (.iconst 1, 1) := by decide +kernel
theorem dL_law_509 : decode cL_law 509 = .ok (.iadd, 1) := by decide +kernel
theorem dL_law_510 : decode cL_law 510 = .ok (.iaload, 1) := by decide +kernel
theorem dL_law_511 : decode cL_law 511 = .ok (.invokevirtual 69, 3) := by decide +kernel
theorem dL_law_514 : decode cL_law 514 = .ok (.if_icmp .eq 360, 3) := by decide +kernel
theorem dL_law_517 : decode cL_law 517 = .ok (.iconst 0, 1) := by decide +kernel
theorem dL_law_518 : decode cL_law 518 = .ok (.ireturn, 1) := by decide +kernel
theorem dL_law_519 : decode cL_law 519 = .ok (.aload_n 1, 1) := by decide +kernel
theorem dL_law_520 : decode cL_law 520 = .ok (.aload_n 0, 1) := by decide +kernel
theorem dL_law_521 : decode cL_law 521 = .ok (.iload_n 3, 1) := by decide +kernel
theorem dL_law_522 : decode cL_law 522 = .ok (.iconst 1, 1) := by decide +kernel
theorem dL_law_523 : decode cL_law 523 = .ok (.iadd, 1) := by decide +kernel
theorem dL_law_524 : decode cL_law 524 = .ok (.iaload, 1) := by decide +kernel
theorem dL_law_525 : decode cL_law 525 = .ok (.invokevirtual 70, 3) := by decide +kernel
theorem dL_law_528 : decode cL_law 528 = .ok (.aload_n 2, 1) := by decide +kernel
theorem dL_law_529 : decode cL_law 529 = .ok (.aload_n 0, 1) := by decide +kernel
theorem dL_law_530 : decode cL_law 530 = .ok (.iload_n 3, 1) := by decide +kernel
theorem dL_law_531 : decode cL_law 531 = .ok (.iconst 1, 1) := by decide +kernel
theorem dL_law_532 : decode cL_law 532 = .ok (.iadd, 1) := by decide +kernel
theorem dL_law_533 : decode cL_law 533 = .ok (.iaload, 1) := by decide +kernel
theorem dL_law_534 : decode cL_law 534 = .ok (.invokevirtual 73, 3) := by decide +kernel
theorem dL_law_537 : decode cL_law 537 = .ok (.if_icmp .eq 337, 3) := by decide +kernel
theorem dL_law_540 : decode cL_law 540 = .ok (.iconst 0, 1) := by decide +kernel
theorem dL_law_541 : decode cL_law 541 = .ok (.ireturn, 1) := by decide +kernel
theorem dL_law_542 : decode cL_law 542 = .ok (.aload_n 1, 1) := by decide +kernel
theorem dL_law_543 : decode cL_law 543 = .ok (.aload_n 0, 1) := by decide +kernel
theorem dL_law_544 : decode cL_law 544 = .ok (.iload_n 3, 1) := by decide +kernel
theorem dL_law_545 : decode cL_law 545 = .ok (.iconst 1, 1) := by decide +kernel
theorem dL_law_546 : decode cL_law 546 = .ok (.iadd, 1) := by decide +kernel
theorem dL_law_547 : decode cL_law 547 = .ok (.iaload, 1) := by decide +kernel
theorem dL_law_548 : decode cL_law 548 = .ok (.invokevirtual 74, 3) := by decide +kernel
theorem dL_law_551 : decode cL_law 551 = .ok (.aload_n 2, 1) := by decide +kernel
theorem dL_law_552 : decode cL_law 552 = .ok (.aload_n 0, 1) := by decide +kernel
theorem dL_law_553 : decode cL_law 553 = .ok (.iload_n 3, 1) := by decide +kernel
theorem dL_law_554 : decode cL_law 554 = .ok (.iconst 1, 1) := by decide +kernel
theorem dL_law_555 : decode cL_law 555 = .ok (.iadd, 1) := by decide +kernel
theorem dL_law_556 : decode cL_law 556 = .ok (.iaload, 1) := by decide +kernel
theorem dL_law_557 : decode cL_law 557 = .ok (.invokevirtual 77, 3) := by decide +kernel
theorem dL_law_560 : decode cL_law 560 = .ok (.if_icmp .eq 314, 3) := by decide +kernel
theorem dL_law_563 : decode cL_law 563 = .ok (.iconst 0, 1) := by decide +kernel
theorem dL_law_564 : decode cL_law 564 = .ok (.ireturn, 1) := by decide +kernel
theorem dL_law_565 : decode cL_law 565 = .ok (.aload_n 1, 1) := by decide +kernel
theorem dL_law_566 : decode cL_law 566 = .ok (.aload_n 0, 1) := by decide +kernel
theorem dL_law_567 : decode cL_law 567 = .ok (.iload_n 3, 1) := by decide +kernel
theorem dL_law_568 : decode cL_law 568 = .ok (.iconst 1, 1) := by decide +kernel
theorem dL_law_569 : decode cL_law 569 = .ok (.iadd, 1) := by decide +kernel
theorem dL_law_570 : decode cL_law 570 = .ok (.iaload, 1) := by decide +kernel
theorem dL_law_571 : decode cL_law 571 = .ok (.invokevirtual 78, 3) := by decide +kernel
theorem dL_law_574 : decode cL_law 574 = .ok (.aload_n 2, 1) := by decide +kernel
theorem dL_law_575 : decode cL_law 575 = .ok (.aload_n 0, 1) := by decide +kernel
theorem dL_law_576 : decode cL_law 576 = .ok (.iload_n 3, 1) := by decide +kernel
theorem dL_law_577 : decode cL_law 577 = .ok (.iconst 1, 1) := by decide +kernel
theorem dL_law_578 : decode cL_law 578 = .ok (.iadd, 1) := by decide +kernel
theorem dL_law_579 : decode cL_law 579 = .ok (.iaload, 1) := by decide +kernel
theorem dL_law_580 : decode cL_law 580 = .ok (.invokevirtual 81, 3) := by decide +kernel
theorem dL_law_583 : decode cL_law 583 = .ok (.if_icmp .eq 291, 3) := by decide +kernel
theorem dL_law_586 : decode cL_law 586 = .ok (.iconst 0, 1) := by decide +kernel
theorem dL_law_587 : decode cL_law 587 = .ok (.ireturn, 1) := by decide +kernel
theorem dL_law_588 : decode cL_law 588 = .ok (.aload_n 1, 1) := by decide +kernel
theorem dL_law_589 : decode cL_law 589 = .ok (.invokevirtual 82, 3) := by decide +kernel
theorem dL_law_592 : decode cL_law 592 = .ok (.aload_n 2, 1) := by decide +kernel
theorem dL_law_593 : decode cL_law 593 = .ok (.invokevirtual 85, 3) := by decide +kernel
theorem dL_law_596 : decode cL_law 596 = .ok (.if_icmp .eq 278, 3) := by decide +kernel
theorem dL_law_599 : decode cL_law 599 = .ok (.iconst 0, 1) := by decide +kernel
theorem dL_law_600 : decode cL_law 600 = .ok (.ireturn, 1) := by decide +kernel
theorem dL_law_601 : decode cL_law 601 = .ok (.aload_n 1, 1) := by decide +kernel
theorem dL_law_602 : decode cL_law 602 = .ok (.aload_n 0, 1) := by decide +kernel
theorem dL_law_603 : decode cL_law 603 = .ok (.iload_n 3, 1) := by decide +kernel
theorem dL_law_604 : decode cL_law 604 = .ok (.iconst 1, 1) := by decide +kernel
theorem dL_law_605 : decode cL_law 605 = .ok (.iadd, 1) := by decide +kernel
theorem dL_law_606 : decode cL_law 606 = .ok (.iaload, 1) := by decide +kernel
theorem dL_law_607 : decode cL_law 607 = .ok (.invokevirtual 86, 3) := by decide +kernel
theorem dL_law_610 : decode cL_law 610 = .ok (.aload_n 2, 1) := by decide +kernel
theorem dL_law_611 : decode cL_law 611 = .ok (.aload_n 0, 1) := by decide +kernel
theorem dL_law_612 : decode cL_law 612 = .ok (.iload_n 3, 1) := by decide +kernel
theorem dL_law_613 : decode cL_law 613 = .ok (.iconst 1, 1) := by decide +kernel
theorem dL_law_614 : decode cL_law 614 = .ok (.iadd, 1) := by decide +kernel
theorem dL_law_615 : decode cL_law 615 = .ok (.iaload, 1) := by decide +kernel
theorem dL_law_616 : decode cL_law 616 = .ok (.invokevirtual 89, 3) := by decide +kernel
theorem dL_law_619 : decode cL_law 619 = .ok (.if_icmp .eq 255, 3) := by decide +kernel
theorem dL_law_622 : decode cL_law 622 = .ok (.iconst 0, 1) := by decide +kernel
theorem dL_law_623 : decode cL_law 623 = .ok (.ireturn, 1) := by decide +kernel
theorem dL_law_624 : decode cL_law 624 = .ok (.aload_n 1, 1) := by decide +kernel
theorem dL_law_625 : decode cL_law 625 = .ok (.aload_n 0, 1) := by decide +kernel
theorem dL_law_626 : decode cL_law 626 = .ok (.iload_n 3, 1) := by decide +kernel
theorem dL_law_627 : decode cL_law 627 = .ok (.iconst 1, 1) := by decide +kernel
theorem dL_law_628 : decode cL_law 628 = .ok (.iadd, 1) := by decide +kernel
theorem dL_law_629 : decode cL_law 629 = .ok (.iaload, 1) := by decide +kernel
theorem dL_law_630 : decode cL_law 630 = .ok (.aload_n 0, 1) := by decide +kernel
theorem dL_law_631 : decode cL_law 631 = .ok (.iload_n 3, 1) := by decide +kernel
theorem dL_law_632 : decode cL_law 632 = .ok (.iconst 2, 1) := by decide +kernel
theorem dL_law_633 : decode cL_law 633 = .ok (.iadd, 1) := by decide +kernel
theorem dL_law_634 : decode cL_law 634 = .ok (.iaload, 1) := by decide +kernel
theorem dL_law_635 : decode cL_law 635 = .ok (.invokevirtual 90, 3) := by decide +kernel
theorem dL_law_638 : decode cL_law 638 = .ok (.aload_n 2, 1) := by decide +kernel
theorem dL_law_639 : decode cL_law 639 = .ok (.aload_n 0, 1) := by decide +kernel
theorem dL_law_640 : decode cL_law 640 = .ok (.iload_n 3, 1) := by decide +kernel
theorem dL_law_641 : decode cL_law 641 = .ok (.iconst 1, 1) := by decide +kernel
theorem dL_law_642 : decode cL_law 642 = .ok (.iadd, 1) := by decide +kernel
theorem dL_law_643 : decode cL_law 643 = .ok (.iaload, 1) := by decide +kernel
theorem dL_law_644 : decode cL_law 644 = .ok (.aload_n 0, 1) := by decide +kernel
theorem dL_law_645 : decode cL_law 645 = .ok (.iload_n 3, 1) := by decide +kernel
theorem dL_law_646 : decode cL_law 646 = .ok (.iconst 2, 1) := by decide +kernel
theorem dL_law_647 : decode cL_law 647 = .ok (.iadd, 1) := by decide +kernel
theorem dL_law_648 : decode cL_law 648 = .ok (.iaload, 1) := by decide +kernel
theorem dL_law_649 : decode cL_law 649 = .ok (.invokevirtual 93, 3) := by decide +kernel
theorem dL_law_652 : decode cL_law 652 = .ok (.if_icmp .eq 222, 3) := by decide +kernel
theorem dL_law_655 : decode cL_law 655 = .ok (.iconst 0, 1) := by decide +kernel
theorem dL_law_656 : decode cL_law 656 = .ok (.ireturn, 1) := by decide +kernel
theorem dL_law_657 : decode cL_law 657 = .ok (.aload_n 1, 1) := by decide +kernel
theorem dL_law_658 : decode cL_law 658 = .ok (.aload_n 0, 1) := by decide +kernel
theorem dL_law_659 : decode cL_law 659 = .ok (.iload_n 3, 1) := by decide +kernel
theorem dL_law_660 : decode cL_law 660 = .ok (.iconst 1, 1) := by decide +kernel
theorem dL_law_661 : decode cL_law 661 = .ok (.iadd, 1) := by decide +kernel
theorem dL_law_662 : decode cL_law 662 = .ok (.iaload, 1) := by decide +kernel
theorem dL_law_663 : decode cL_law 663 = .ok (.invokevirtual 94, 3) := by decide +kernel
theorem dL_law_666 : decode cL_law 666 = .ok (.aload_n 2, 1) := by decide +kernel
theorem dL_law_667 : decode cL_law 667 = .ok (.aload_n 0, 1) := by decide +kernel
theorem dL_law_668 : decode cL_law 668 = .ok (.iload_n 3, 1) := by decide +kernel
theorem dL_law_669 : decode cL_law 669 = .ok (.iconst 1, 1) := by decide +kernel
theorem dL_law_670 : decode cL_law 670 = .ok (.iadd, 1) := by decide +kernel
theorem dL_law_671 : decode cL_law 671 = .ok (.iaload, 1) := by decide +kernel
theorem dL_law_672 : decode cL_law 672 = .ok (.invokevirtual 97, 3) := by decide +kernel
theorem dL_law_675 : decode cL_law 675 = .ok (.if_icmp .eq 199, 3) := by decide +kernel
theorem dL_law_678 : decode cL_law 678 = .ok (.iconst 0, 1) := by decide +kernel
theorem dL_law_679 : decode cL_law 679 = .ok (.ireturn, 1) := by decide +kernel
theorem dL_law_680 : decode cL_law 680 = .ok (.aload_n 1, 1) := by decide +kernel
theorem dL_law_681 : decode cL_law 681 = .ok (.aload_n 0, 1) := by decide +kernel
theorem dL_law_682 : decode cL_law 682 = .ok (.iload_n 3, 1) := by decide +kernel
theorem dL_law_683 : decode cL_law 683 = .ok (.iconst 1, 1) := by decide +kernel
theorem dL_law_684 : decode cL_law 684 = .ok (.iadd, 1) := by decide +kernel
theorem dL_law_685 : decode cL_law 685 = .ok (.iaload, 1) := by decide +kernel
theorem dL_law_686 : decode cL_law 686 = .ok (.invokevirtual 98, 3) := by decide +kernel
theorem dL_law_689 : decode cL_law 689 = .ok (.aload_n 2, 1) := by decide +kernel
theorem dL_law_690 : decode cL_law 690 = .ok (.aload_n 0, 1) := by decide +kernel
theorem dL_law_691 : decode cL_law 691 = .ok (.iload_n 3, 1) := by decide +kernel
theorem dL_law_692 : decode cL_law 692 = .ok (.iconst 1, 1) := by decide +kernel
theorem dL_law_693 : decode cL_law 693 = .ok (.iadd, 1) := by decide +kernel
theorem dL_law_694 : decode cL_law 694 = .ok (.iaload, 1) := by decide +kernel
theorem dL_law_695 : decode cL_law 695 = .ok (.invokevirtual 101, 3) := by decide +kernel
theorem dL_law_698 : decode cL_law 698 = .ok (.if_icmp .eq 176, 3) := by decide +kernel
theorem dL_law_701 : decode cL_law 701 = .ok (.iconst 0, 1) := by decide +kernel
theorem dL_law_702 : decode cL_law 702 = .ok (.ireturn, 1) := by decide +kernel
theorem dL_law_703 : decode cL_law 703 = .ok (.aload_n 1, 1) := by decide +kernel
theorem dL_law_704 : decode cL_law 704 = .ok (.aload_n 0, 1) := by decide +kernel
theorem dL_law_705 : decode cL_law 705 = .ok (.iload_n 3, 1) := by decide +kernel
theorem dL_law_706 : decode cL_law 706 = .ok (.iconst 1, 1) := by decide +kernel
theorem dL_law_707 : decode cL_law 707 = .ok (.iadd, 1) := by decide +kernel
theorem dL_law_708 : decode cL_law 708 = .ok (.iaload, 1) := by decide +kernel
theorem dL_law_709 : decode cL_law 709 = .ok (.aload_n 0, 1) := by decide +kernel
theorem dL_law_710 : decode cL_law 710 = .ok (.iload_n 3, 1) := by decide +kernel
theorem dL_law_711 : decode cL_law 711 = .ok (.iconst 2, 1) := by decide +kernel
theorem dL_law_712 : decode cL_law 712 = .ok (.iadd, 1) := by decide +kernel
theorem dL_law_713 : decode cL_law 713 = .ok (.iaload, 1) := by decide +kernel
theorem dL_law_714 : decode cL_law 714 = .ok (.invokevirtual 102, 3) := by decide +kernel
theorem dL_law_717 : decode cL_law 717 = .ok (.aload_n 2, 1) := by decide +kernel
theorem dL_law_718 : decode cL_law 718 = .ok (.aload_n 0, 1) := by decide +kernel
theorem dL_law_719 : decode cL_law 719 = .ok (.iload_n 3, 1) := by decide +kernel
theorem dL_law_720 : decode cL_law 720 = .ok (.iconst 1, 1) := by decide +kernel
theorem dL_law_721 : decode cL_law 721 = .ok (.iadd, 1) := by decide +kernel
theorem dL_law_722 : decode cL_law 722 = .ok (.iaload, 1) := by decide +kernel
theorem dL_law_723 : decode cL_law 723 = .ok (.aload_n 0, 1) := by decide +kernel
theorem dL_law_724 : decode cL_law 724 = .ok (.iload_n 3, 1) := by decide +kernel
theorem dL_law_725 : decode cL_law 725 = .ok (.iconst 2, 1) := by decide +kernel
theorem dL_law_726 : decode cL_law 726 = .ok (.iadd, 1) := by decide +kernel
theorem dL_law_727 : decode cL_law 727 = .ok (.iaload, 1) := by decide +kernel
theorem dL_law_728 : decode cL_law 728 = .ok (.invokevirtual 106, 3) := by decide +kernel
theorem dL_law_731 : decode cL_law 731 = .ok (.if_icmp .eq 143, 3) := by decide +kernel
theorem dL_law_734 : decode cL_law 734 = .ok (.iconst 0, 1) := by decide +kernel
theorem dL_law_735 : decode cL_law 735 = .ok (.ireturn, 1) := by decide +kernel
theorem dL_law_736 : decode cL_law 736 = .ok (.aload_n 1, 1) := by decide +kernel
theorem dL_law_737 : decode cL_law 737 = .ok (.aload_n 0, 1) := by decide +kernel
theorem dL_law_738 : decode cL_law 738 = .ok (.iload_n 3, 1) := by decide +kernel
theorem dL_law_739 : decode cL_law 739 = .ok (.iconst 1, 1) := by decide +kernel
theorem dL_law_740 : decode cL_law 740 = .ok (.iadd, 1) := by decide +kernel
theorem dL_law_741 : decode cL_law 741 = .ok (.iaload, 1) := by decide +kernel
theorem dL_law_742 : decode cL_law 742 = .ok (.invokevirtual 107, 3) := by decide +kernel
theorem dL_law_745 : decode cL_law 745 = .ok (.aload_n 2, 1) := by decide +kernel
theorem dL_law_746 : decode cL_law 746 = .ok (.aload_n 0, 1) := by decide +kernel
theorem dL_law_747 : decode cL_law 747 = .ok (.iload_n 3, 1) := by decide +kernel
theorem dL_law_748 : decode cL_law 748 = .ok (.iconst 1, 1) := by decide +kernel
theorem dL_law_749 : decode cL_law 749 = .ok (.iadd, 1) := by decide +kernel
theorem dL_law_750 : decode cL_law 750 = .ok (.iaload, 1) := by decide +kernel
theorem dL_law_751 : decode cL_law 751 = .ok (.invokevirtual 110, 3) := by decide +kernel
theorem dL_law_754 : decode cL_law 754 = .ok (.if_icmp .eq 120, 3) := by decide +kernel
theorem dL_law_757 : decode cL_law 757 = .ok (.iconst 0, 1) := by decide +kernel
theorem dL_law_758 : decode cL_law 758 = .ok (.ireturn, 1) := by decide +kernel
theorem dL_law_759 : decode cL_law 759 = .ok (.aload_n 1, 1) := by decide +kernel
theorem dL_law_760 : decode cL_law 760 = .ok (.aload_n 0, 1) := by decide +kernel
theorem dL_law_761 : decode cL_law 761 = .ok (.iload_n 3, 1) := by decide +kernel
theorem dL_law_762 : decode cL_law 762 = .ok (.iconst 1, 1) := by decide +kernel
theorem dL_law_763 : decode cL_law 763 = .ok (.iadd, 1) := by decide +kernel
theorem dL_law_764 : decode cL_law 764 = .ok (.iaload, 1) := by decide +kernel
theorem dL_law_765 : decode cL_law 765 = .ok (.invokevirtual 111, 3) := by decide +kernel
theorem dL_law_768 : decode cL_law 768 = .ok (.aload_n 2, 1) := by decide +kernel
theorem dL_law_769 : decode cL_law 769 = .ok (.aload_n 0, 1) := by decide +kernel
theorem dL_law_770 : decode cL_law 770 = .ok (.iload_n 3, 1) := by decide +kernel
theorem dL_law_771 : decode cL_law 771 = .ok (.iconst 1, 1) := by decide +kernel
theorem dL_law_772 : decode cL_law 772 = .ok (.iadd, 1) := by decide +kernel
theorem dL_law_773 : decode cL_law 773 = .ok (.iaload, 1) := by decide +kernel
theorem dL_law_774 : decode cL_law 774 = .ok (.invokevirtual 114, 3) := by decide +kernel
theorem dL_law_777 : decode cL_law 777 = .ok (.if_icmp .eq 97, 3) := by decide +kernel
theorem dL_law_780 : decode cL_law 780 = .ok (.iconst 0, 1) := by decide +kernel
theorem dL_law_781 : decode cL_law 781 = .ok (.ireturn, 1) := by decide +kernel
theorem dL_law_782 : decode cL_law 782 = .ok (.aload_n 1, 1) := by decide +kernel
theorem dL_law_783 : decode cL_law 783 = .ok (.invokevirtual 115, 3) := by decide +kernel
theorem dL_law_786 : decode cL_law 786 = .ok (.aload_n 2, 1) := by decide +kernel
theorem dL_law_787 : decode cL_law 787 = .ok (.invokevirtual 119, 3) := by decide +kernel
theorem dL_law_790 : decode cL_law 790 = .ok (.if_icmp .eq 84, 3) := by decide +kernel
theorem dL_law_793 : decode cL_law 793 = .ok (.iconst 0, 1) := by decide +kernel
theorem dL_law_794 : decode cL_law 794 = .ok (.ireturn, 1) := by decide +kernel
theorem dL_law_795 : decode cL_law 795 = .ok (.aload_n 1, 1) := by decide +kernel
theorem dL_law_796 : decode cL_law 796 = .ok (.aload_n 0, 1) := by decide +kernel
theorem dL_law_797 : decode cL_law 797 = .ok (.iload_n 3, 1) := by decide +kernel
theorem dL_law_798 : decode cL_law 798 = .ok (.iconst 1, 1) := by decide +kernel
theorem dL_law_799 : decode cL_law 799 = .ok (.iadd, 1) := by decide +kernel
theorem dL_law_800 : decode cL_law 800 = .ok (.iaload, 1) := by decide +kernel
theorem dL_law_801 : decode cL_law 801 = .ok (.invokevirtual 120, 3) := by decide +kernel
theorem dL_law_804 : decode cL_law 804 = .ok (.aload_n 2, 1) := by decide +kernel
theorem dL_law_805 : decode cL_law 805 = .ok (.aload_n 0, 1) := by decide +kernel
theorem dL_law_806 : decode cL_law 806 = .ok (.iload_n 3, 1) := by decide +kernel
theorem dL_law_807 : decode cL_law 807 = .ok (.iconst 1, 1) := by decide +kernel
theorem dL_law_808 : decode cL_law 808 = .ok (.iadd, 1) := by decide +kernel
theorem dL_law_809 : decode cL_law 809 = .ok (.iaload, 1) := by decide +kernel
theorem dL_law_810 : decode cL_law 810 = .ok (.invokevirtual 123, 3) := by decide +kernel
theorem dL_law_813 : decode cL_law 813 = .ok (.if_icmp .eq 61, 3) := by decide +kernel
theorem dL_law_816 : decode cL_law 816 = .ok (.iconst 0, 1) := by decide +kernel
theorem dL_law_817 : decode cL_law 817 = .ok (.ireturn, 1) := by decide +kernel
theorem dL_law_818 : decode cL_law 818 = .ok (.aload_n 1, 1) := by decide +kernel
theorem dL_law_819 : decode cL_law 819 = .ok (.aload_n 0, 1) := by decide +kernel
theorem dL_law_820 : decode cL_law 820 = .ok (.iload_n 3, 1) := by decide +kernel
theorem dL_law_821 : decode cL_law 821 = .ok (.iconst 1, 1) := by decide +kernel
theorem dL_law_822 : decode cL_law 822 = .ok (.iadd, 1) := by decide +kernel
theorem dL_law_823 : decode cL_law 823 = .ok (.iaload, 1) := by decide +kernel
theorem dL_law_824 : decode cL_law 824 = .ok (.aload_n 0, 1) := by decide +kernel
theorem dL_law_825 : decode cL_law 825 = .ok (.iload_n 3, 1) := by decide +kernel
theorem dL_law_826 : decode cL_law 826 = .ok (.iconst 2, 1) := by decide +kernel
theorem dL_law_827 : decode cL_law 827 = .ok (.iadd, 1) := by decide +kernel
theorem dL_law_828 : decode cL_law 828 = .ok (.iaload, 1) := by decide +kernel
theorem dL_law_829 : decode cL_law 829 = .ok (.invokevirtual 124, 3) := by decide +kernel
theorem dL_law_832 : decode cL_law 832 = .ok (.aload_n 2, 1) := by decide +kernel
theorem dL_law_833 : decode cL_law 833 = .ok (.aload_n 0, 1) := by decide +kernel
theorem dL_law_834 : decode cL_law 834 = .ok (.iload_n 3, 1) := by decide +kernel
theorem dL_law_835 : decode cL_law 835 = .ok (.iconst 1, 1) := by decide +kernel
theorem dL_law_836 : decode cL_law 836 = .ok (.iadd, 1) := by decide +kernel
theorem dL_law_837 : decode cL_law 837 = .ok (.iaload, 1) := by decide +kernel
theorem dL_law_838 : decode cL_law 838 = .ok (.aload_n 0, 1) := by decide +kernel
theorem dL_law_839 : decode cL_law 839 = .ok (.iload_n 3, 1) := by decide +kernel
theorem dL_law_840 : decode cL_law 840 = .ok (.iconst 2, 1) := by decide +kernel
theorem dL_law_841 : decode cL_law 841 = .ok (.iadd, 1) := by decide +kernel
theorem dL_law_842 : decode cL_law 842 = .ok (.iaload, 1) := by decide +kernel
theorem dL_law_843 : decode cL_law 843 = .ok (.invokevirtual 127, 3) := by decide +kernel
theorem dL_law_846 : decode cL_law 846 = .ok (.if_icmp .eq 28, 3) := by decide +kernel
theorem dL_law_849 : decode cL_law 849 = .ok (.iconst 0, 1) := by decide +kernel
theorem dL_law_850 : decode cL_law 850 = .ok (.ireturn, 1) := by decide +kernel
theorem dL_law_851 : decode cL_law 851 = .ok (.aload_n 1, 1) := by decide +kernel
theorem dL_law_852 : decode cL_law 852 = .ok (.aload_n 0, 1) := by decide +kernel
theorem dL_law_853 : decode cL_law 853 = .ok (.iload_n 3, 1) := by decide +kernel
theorem dL_law_854 : decode cL_law 854 = .ok (.iconst 1, 1) := by decide +kernel
theorem dL_law_855 : decode cL_law 855 = .ok (.iadd, 1) := by decide +kernel
theorem dL_law_856 : decode cL_law 856 = .ok (.iaload, 1) := by decide +kernel
theorem dL_law_857 : decode cL_law 857 = .ok (.invokevirtual 128, 3) := by decide +kernel
theorem dL_law_860 : decode cL_law 860 = .ok (.aload_n 2, 1) := by decide +kernel
theorem dL_law_861 : decode cL_law 861 = .ok (.aload_n 0, 1) := by decide +kernel
theorem dL_law_862 : decode cL_law 862 = .ok (.iload_n 3, 1) := by decide +kernel
theorem dL_law_863 : decode cL_law 863 = .ok (.iconst 1, 1) := by decide +kernel
theorem dL_law_864 : decode cL_law 864 = .ok (.iadd, 1) := by decide +kernel
theorem dL_law_865 : decode cL_law 865 = .ok (.iaload, 1) := by decide +kernel
theorem dL_law_866 : decode cL_law 866 = .ok (.invokevirtual 131, 3) := by decide +kernel
theorem dL_law_869 : decode cL_law 869 = .ok (.if_icmp .eq 5, 3) := by decide +kernel
theorem dL_law_872 : decode cL_law 872 = .ok (.iconst 0, 1) := by decide +kernel
theorem dL_law_873 : decode cL_law 873 = .ok (.ireturn, 1) := by decide +kernel
theorem dL_law_874 : decode cL_law 874 = .ok (.iinc 3 6, 3) := by decide +kernel
theorem dL_law_877 : decode cL_law 877 = .ok (.goto (-859), 3) := by decide +kernel
theorem dL_law_880 : decode cL_law 880 = .ok (.iconst 1, 1) := by decide +kernel
theorem dL_law_881 : decode cL_law 881 = .ok (.ireturn, 1) := by decide +kernel
