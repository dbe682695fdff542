theorem dX0_init_0 : decode cX0_init 0 = .ok (.aload_n 0, 1) := by decide +kernel
theorem dX0_init_1 : decode cX0_init 1 = .ok (.invokespecial 3, 3) := by decide +kernel
theorem dX0_init_4 : decode cX0_init 4 = .ok (.return_, 1) := by decide +kernel
theorem dX0_begin_0 : decode cX0_begin 0 = .ok (.aload_n 0, 1) := by decide +kernel
theorem dX0_begin_1 : decode cX0_begin 1 = .ok (.iload_n 1, 1) := by decide +kernel
theorem dX0_begin_2 : decode cX0_begin 2 = .ok (.putfield 9, 3) := by decide +kernel
theorem dX0_begin_5 : decode cX0_begin 5 = .ok (.aload_n 0, 1) := by decide +kernel
theorem dX0_begin_6 : decode cX0_begin 6 = .ok (.iload_n 2, 1) := by decide +kernel
theorem dX0_begin_7 : decode cX0_begin 7 = .ok (.putfield 15, 3) := by decide +kernel
theorem dX0_begin_10 : decode cX0_begin 10 = .ok (.aload_n 0, 1) := by decide +kernel
theorem dX0_begin_11 : decode cX0_begin 11 = .ok (.iload_n 3, 1) := by decide +kernel
theorem dX0_begin_12 : decode cX0_begin 12 = .ok (.putfield 18, 3) := by decide +kernel
theorem dX0_begin_15 : decode cX0_begin 15 = .ok (.aload_n 0, 1) := by decide +kernel
theorem dX0_begin_16 : decode cX0_begin 16 = .ok (.iconst 0, 1) := by decide +kernel
theorem dX0_begin_17 : decode cX0_begin 17 = .ok (.putfield 21, 3) := by decide +kernel
theorem dX0_begin_20 : decode cX0_begin 20 = .ok (.aload_n 0, 1) := by decide +kernel
theorem dX0_begin_21 : decode cX0_begin 21 = .ok (.iconst 1, 1) := by decide +kernel
theorem dX0_begin_22 : decode cX0_begin 22 = .ok (.putfield 24, 3) := by decide +kernel
theorem dX0_begin_25 : decode cX0_begin 25 = .ok (.aload_n 0, 1) := by decide +kernel
theorem dX0_begin_26 : decode cX0_begin 26 = .ok (.iconst 0, 1) := by decide +kernel
theorem dX0_begin_27 : decode cX0_begin 27 = .ok (.putfield 27, 3) := by decide +kernel
theorem dX0_begin_30 : decode cX0_begin 30 = .ok (.aload_n 0, 1) := by decide +kernel
theorem dX0_begin_31 : decode cX0_begin 31 = .ok (.iconst 0, 1) := by decide +kernel
theorem dX0_begin_32 : decode cX0_begin 32 = .ok (.putfield 30, 3) := by decide +kernel
theorem dX0_begin_35 : decode cX0_begin 35 = .ok (.aload_n 0, 1) := by decide +kernel
theorem dX0_begin_36 : decode cX0_begin 36 = .ok (.iconst 0, 1) := by decide +kernel
theorem dX0_begin_37 : decode cX0_begin 37 = .ok (.putfield 33, 3) := by decide +kernel
theorem dX0_begin_40 : decode cX0_begin 40 = .ok (.aload_n 0, 1) := by decide +kernel
theorem dX0_begin_41 : decode cX0_begin 41 = .ok (.iconst 0, 1) := by decide +kernel
theorem dX0_begin_42 : decode cX0_begin 42 = .ok (.putfield 36, 3) := by decide +kernel
theorem dX0_begin_45 : decode cX0_begin 45 = .ok (.aload_n 0, 1) := by decide +kernel
theorem dX0_begin_46 : decode cX0_begin 46 = .ok (.iconst 0, 1) := by decide +kernel
theorem dX0_begin_47 : decode cX0_begin 47 = .ok (.putfield 39, 3) := by decide +kernel
theorem dX0_begin_50 : decode cX0_begin 50 = .ok (.return_, 1) := by decide +kernel
theorem dX0_copy_0 : decode cX0_copy 0 = .ok (.aload_n 0, 1) := by decide +kernel
theorem dX0_copy_1 : decode cX0_copy 1 = .ok (.aload_n 1, 1) := by decide +kernel
theorem dX0_copy_2 : decode cX0_copy 2 = .ok (.getfield 9, 3) := by decide +kernel
theorem dX0_copy_5 : decode cX0_copy 5 = .ok (.putfield 9, 3) := by decide +kernel
theorem dX0_copy_8 : decode cX0_copy 8 = .ok (.aload_n 0, 1) := by decide +kernel
theorem dX0_copy_9 : decode cX0_copy 9 = .ok (.aload_n 1, 1) := by decide +kernel
theorem dX0_copy_10 : decode cX0_copy 10 = .ok (.getfield 15, 3) := by decide +kernel
theorem dX0_copy_13 : decode cX0_copy 13 = .ok (.putfield 15, 3) := by decide +kernel
theorem dX0_copy_16 : decode cX0_copy 16 = .ok (.aload_n 0, 1) := by decide +kernel
theorem dX0_copy_17 : decode cX0_copy 17 = .ok (.aload_n 1, 1) := by decide +kernel
theorem dX0_copy_18 : decode cX0_copy 18 = .ok (.getfield 18, 3) := by decide +kernel
theorem dX0_copy_21 : decode cX0_copy 21 = .ok (.putfield 18, 3) := by decide +kernel
theorem dX0_copy_24 : decode cX0_copy 24 = .ok (.aload_n 0, 1) := by decide +kernel
theorem dX0_copy_25 : decode cX0_copy 25 = .ok (.aload_n 1, 1) := by decide +kernel
theorem dX0_copy_26 : decode cX0_copy 26 = .ok (.getfield 21, 3) := by decide +kernel
theorem dX0_copy_29 : decode cX0_copy 29 = .ok (.putfield 21, 3) := by decide +kernel
theorem dX0_copy_32 : decode cX0_copy 32 = .ok (.aload_n 0, 1) := by decide +kernel
theorem dX0_copy_33 : decode cX0_copy 33 = .ok (.aload_n 1, 1) := by decide +kernel
theorem dX0_copy_34 : decode cX0_copy 34 = .ok (.getfield 24, 3) := by decide +kernel
theorem dX0_copy_37 : decode cX0_copy 37 = .ok (.putfield 24, 3) := by decide +kernel
theorem dX0_copy_40 : decode cX0_copy 40 = .ok (.aload_n 0, 1) := by decide +kernel
theorem dX0_copy_41 : decode cX0_copy 41 = .ok (.aload_n 1, 1) := by decide +kernel
theorem dX0_copy_42 : decode cX0_copy 42 = .ok (.getfield 27, 3) := by decide +kernel
theorem dX0_copy_45 : decode cX0_copy 45 = .ok (.putfield 27, 3) := by decide +kernel
theorem dX0_copy_48 : decode cX0_copy 48 = .ok (.aload_n 0, 1) := by decide +kernel
theorem dX0_copy_49 : decode cX0_copy 49 = .ok (.aload_n 1, 1) := by decide +kernel
theorem dX0_copy_50 : decode cX0_copy 50 = .ok (.getfield 30, 3) := by decide +kernel
theorem dX0_copy_53 : decode cX0_copy 53 = .ok (.putfield 30, 3) := by decide +kernel
theorem dX0_copy_56 : decode cX0_copy 56 = .ok (.aload_n 0, 1) := by decide +kernel
theorem dX0_copy_57 : decode cX0_copy 57 = .ok (.aload_n 1, 1) := by decide +kernel
theorem dX0_copy_58 : decode cX0_copy 58 = .ok (.getfield 33, 3) := by decide +kernel
theorem dX0_copy_61 : decode cX0_copy 61 = .ok (.putfield 33, 3) := by decide +kernel
theorem dX0_copy_64 : decode cX0_copy 64 = .ok (.aload_n 0, 1) := by decide +kernel
theorem dX0_copy_65 : decode cX0_copy 65 = .ok (.aload_n 1, 1) := by decide +kernel
theorem dX0_copy_66 : decode cX0_copy 66 = .ok (.getfield 36, 3) := by decide +kernel
theorem dX0_copy_69 : decode cX0_copy 69 = .ok (.putfield 36, 3) := by decide +kernel
theorem dX0_copy_72 : decode cX0_copy 72 = .ok (.aload_n 0, 1) := by decide +kernel
theorem dX0_copy_73 : decode cX0_copy 73 = .ok (.aload_n 1, 1) := by decide +kernel
theorem dX0_copy_74 : decode cX0_copy 74 = .ok (.getfield 39, 3) := by decide +kernel
theorem dX0_copy_77 : decode cX0_copy 77 = .ok (.putfield 39, 3) := by decide +kernel
theorem dX0_copy_80 : decode cX0_copy 80 = .ok (.return_, 1) := by decide +kernel
theorem dX0_prove_0 : decode cX0_prove 0 = .ok (.aload_n 0, 1) := by decide +kernel
theorem dX0_prove_1 : decode cX0_prove 1 = .ok (.iconst 5, 1) := by decide +kernel
theorem dX0_prove_2 : decode cX0_prove 2 = .ok (.iload_n 1, 1) := by decide +kernel
theorem dX0_prove_3 : decode cX0_prove 3 = .ok (.iadd, 1) := by decide +kernel
theorem dX0_prove_4 : decode cX0_prove 4 = .ok (.invokevirtual 42, 3) := by decide +kernel
theorem dX0_prove_7 : decode cX0_prove 7 = .ok (.istore_n 3, 1) := by decide +kernel
theorem dX0_prove_8 : decode cX0_prove 8 = .ok (.iload_n 1, 1) := by decide +kernel
theorem dX0_prove_9 : decode cX0_prove 9 = .ok (.tableswitch 51 0 2 #[27, 35, 43], 27) := by decide +kernel
theorem dX0_prove_36 : decode cX0_prove 36 = .ok (.aload_n 0, 1) := by decide +kernel
theorem dX0_prove_37 : decode cX0_prove 37 = .ok (.iload_n 2, 1) := by decide +kernel
theorem dX0_prove_38 : decode cX0_prove 38 = .ok (.putfield 27, 3) := by decide +kernel
theorem dX0_prove_41 : decode cX0_prove 41 = .ok (.goto 24, 3) := by decide +kernel
theorem dX0_prove_44 : decode cX0_prove 44 = .ok (.aload_n 0, 1) := by decide +kernel
theorem dX0_prove_45 : decode cX0_prove 45 = .ok (.iload_n 2, 1) := by decide +kernel
theorem dX0_prove_46 : decode cX0_prove 46 = .ok (.putfield 30, 3) := by decide +kernel
theorem dX0_prove_49 : decode cX0_prove 49 = .ok (.goto 16, 3) := by decide +kernel
theorem dX0_prove_52 : decode cX0_prove 52 = .ok (.aload_n 0, 1) := by decide +kernel
theorem dX0_prove_53 : decode cX0_prove 53 = .ok (.iload_n 2, 1) := by decide +kernel
theorem dX0_prove_54 : decode cX0_prove 54 = .ok (.putfield 33, 3) := by decide +kernel
theorem dX0_prove_57 : decode cX0_prove 57 = .ok (.goto 8, 3) := by decide +kernel
theorem dX0_prove_60 : decode cX0_prove 60 = .ok (.aload_n 0, 1) := by decide +kernel
theorem dX0_prove_61 : decode cX0_prove 61 = .ok (.iload_n 2, 1) := by decide +kernel
theorem dX0_prove_62 : decode cX0_prove 62 = .ok (.putfield 36, 3) := by decide +kernel
theorem dX0_prove_65 : decode cX0_prove 65 = .ok (.iload_n 3, 1) := by decide +kernel
theorem dX0_prove_66 : decode cX0_prove 66 = .ok (.ireturn, 1) := by decide +kernel
theorem dX0_told_0 : decode cX0_told 0 = .ok (.iload_n 1, 1) := by decide +kernel
theorem dX0_told_1 : decode cX0_told 1 = .ok (.tableswitch 105 0 9 #[55, 60, 65, 70, 75, 80, 85, 90, 95, 100], 55) := by decide +kernel
theorem dX0_told_56 : decode cX0_told 56 = .ok (.aload_n 0, 1) := by decide +kernel
theorem dX0_told_57 : decode cX0_told 57 = .ok (.getfield 9, 3) := by decide +kernel
theorem dX0_told_60 : decode cX0_told 60 = .ok (.ireturn, 1) := by decide +kernel
theorem dX0_told_61 : decode cX0_told 61 = .ok (.aload_n 0, 1) := by decide +kernel
theorem dX0_told_62 : decode cX0_told 62 = .ok (.getfield 15, 3) := by decide +kernel
theorem dX0_told_65 : decode cX0_told 65 = .ok (.ireturn, 1) := by decide +kernel
theorem dX0_told_66 : decode cX0_told 66 = .ok (.aload_n 0, 1) := by decide +kernel
theorem dX0_told_67 : decode cX0_told 67 = .ok (.getfield 18, 3) := by decide +kernel
theorem dX0_told_70 : decode cX0_told 70 = .ok (.ireturn, 1) := by decide +kernel
theorem dX0_told_71 : decode cX0_told 71 = .ok (.aload_n 0, 1) := by decide +kernel
theorem dX0_told_72 : decode cX0_told 72 = .ok (.getfield 21, 3) := by decide +kernel
theorem dX0_told_75 : decode cX0_told 75 = .ok (.ireturn, 1) := by decide +kernel
theorem dX0_told_76 : decode cX0_told 76 = .ok (.aload_n 0, 1) := by decide +kernel
theorem dX0_told_77 : decode cX0_told 77 = .ok (.getfield 24, 3) := by decide +kernel
theorem dX0_told_80 : decode cX0_told 80 = .ok (.ireturn, 1) := by decide +kernel
theorem dX0_told_81 : decode cX0_told 81 = .ok (.aload_n 0, 1) := by decide +kernel
theorem dX0_told_82 : decode cX0_told 82 = .ok (.getfield 27, 3) := by decide +kernel
theorem dX0_told_85 : decode cX0_told 85 = .ok (.ireturn, 1) := by decide +kernel
theorem dX0_told_86 : decode cX0_told 86 = .ok (.aload_n 0, 1) := by decide +kernel
theorem dX0_told_87 : decode cX0_told 87 = .ok (.getfield 30, 3) := by decide +kernel
theorem dX0_told_90 : decode cX0_told 90 = .ok (.ireturn, 1) := by decide +kernel
theorem dX0_told_91 : decode cX0_told 91 = .ok (.aload_n 0, 1) := by decide +kernel
theorem dX0_told_92 : decode cX0_told 92 = .ok (.getfield 33, 3) := by decide +kernel
theorem dX0_told_95 : decode cX0_told 95 = .ok (.ireturn, 1) := by decide +kernel
theorem dX0_told_96 : decode cX0_told 96 = .ok (.aload_n 0, 1) := by decide +kernel
theorem dX0_told_97 : decode cX0_told 97 = .ok (.getfield 36, 3) := by decide +kernel
theorem dX0_told_100 : decode cX0_told 100 = .ok (.ireturn, 1) := by decide +kernel
theorem dX0_told_101 : decode cX0_told 101 = .ok (.aload_n 0, 1) := by decide +kernel
theorem dX0_told_102 : decode cX0_told 102 = .ok (.getfield 39, 3) := by decide +kernel
theorem dX0_told_105 : decode cX0_told 105 = .ok (.ireturn, 1) := by decide +kernel
theorem dX0_told_106 : decode cX0_told 106 = .ok (.iconst (-1), 1) := by decide +kernel
theorem dX0_told_107 : decode cX0_told 107 = .ok (.ireturn, 1) := by decide +kernel
theorem dX0_valueOf_0 : decode cX0_valueOf 0 = .ok (.iload_n 1, 1) := by decide +kernel
theorem dX0_valueOf_1 : decode cX0_valueOf 1 = .ok (.tableswitch 103 0 8 #[51, 56, 61, 71, 76, 81, 88, 93, 98], 51) := by decide +kernel
theorem dX0_valueOf_52 : decode cX0_valueOf 52 = .ok (.aload_n 0, 1) := by decide +kernel
theorem dX0_valueOf_53 : decode cX0_valueOf 53 = .ok (.getfield 15, 3) := by decide +kernel
theorem dX0_valueOf_56 : decode cX0_valueOf 56 = .ok (.ireturn, 1) := by decide +kernel
theorem dX0_valueOf_57 : decode cX0_valueOf 57 = .ok (.aload_n 0, 1) := by decide +kernel
theorem dX0_valueOf_58 : decode cX0_valueOf 58 = .ok (.getfield 21, 3) := by decide +kernel
theorem dX0_valueOf_61 : decode cX0_valueOf 61 = .ok (.ireturn, 1) := by decide +kernel
theorem dX0_valueOf_62 : decode cX0_valueOf 62 = .ok (.aload_n 0, 1) := by decide +kernel
theorem dX0_valueOf_63 : decode cX0_valueOf 63 = .ok (.getfield 15, 3) := by decide +kernel
theorem dX0_valueOf_66 : decode cX0_valueOf 66 = .ok (.aload_n 0, 1) := by decide +kernel
theorem dX0_valueOf_67 : decode cX0_valueOf 67 = .ok (.getfield 21, 3) := by decide +kernel
theorem dX0_valueOf_70 : decode cX0_valueOf 70 = .ok (.isub, 1) := by decide +kernel
theorem dX0_valueOf_71 : decode cX0_valueOf 71 = .ok (.ireturn, 1) := by decide +kernel
theorem dX0_valueOf_72 : decode cX0_valueOf 72 = .ok (.aload_n 0, 1) := by decide +kernel
theorem dX0_valueOf_73 : decode cX0_valueOf 73 = .ok (.getfield 27, 3) := by decide +kernel
theorem dX0_valueOf_76 : decode cX0_valueOf 76 = .ok (.ireturn, 1) := by decide +kernel
theorem dX0_valueOf_77 : decode cX0_valueOf 77 = .ok (.aload_n 0, 1) := by decide +kernel
theorem dX0_valueOf_78 : decode cX0_valueOf 78 = .ok (.getfield 18, 3) := by decide +kernel
theorem dX0_valueOf_81 : decode cX0_valueOf 81 = .ok (.ireturn, 1) := by decide +kernel
theorem dX0_valueOf_82 : decode cX0_valueOf 82 = .ok (.iconst 1, 1) := by decide +kernel
theorem dX0_valueOf_83 : decode cX0_valueOf 83 = .ok (.aload_n 0, 1) := by decide +kernel
theorem dX0_valueOf_84 : decode cX0_valueOf 84 = .ok (.getfield 24, 3) := by decide +kernel
theorem dX0_valueOf_87 : decode cX0_valueOf 87 = .ok (.isub, 1) := by decide +kernel
theorem dX0_valueOf_88 : decode cX0_valueOf 88 = .ok (.ireturn, 1) := by decide +kernel
theorem dX0_valueOf_89 : decode cX0_valueOf 89 = .ok (.aload_n 0, 1) := by decide +kernel
theorem dX0_valueOf_90 : decode cX0_valueOf 90 = .ok (.getfield 30, 3) := by decide +kernel
theorem dX0_valueOf_93 : decode cX0_valueOf 93 = .ok (.ireturn, 1) := by decide +kernel
theorem dX0_valueOf_94 : decode cX0_valueOf 94 = .ok (.aload_n 0, 1) := by decide +kernel
theorem dX0_valueOf_95 : decode cX0_valueOf 95 = .ok (.getfield 33, 3) := by decide +kernel
theorem dX0_valueOf_98 : decode cX0_valueOf 98 = .ok (.ireturn, 1) := by decide +kernel
theorem dX0_valueOf_99 : decode cX0_valueOf 99 = .ok (.aload_n 0, 1) := by decide +kernel
theorem dX0_valueOf_100 : decode cX0_valueOf 100 = .ok (.getfield 36, 3) := by decide +kernel
theorem dX0_valueOf_103 : decode cX0_valueOf 103 = .ok (.ireturn, 1) := by decide +kernel
theorem dX0_valueOf_104 : decode cX0_valueOf 104 = .ok (.iload_n 2, 1) := by decide +kernel
theorem dX0_valueOf_105 : decode cX0_valueOf 105 = .ok (.ireturn, 1) := by decide +kernel
theorem dX0_answerAs_0 : decode cX0_answerAs 0 = .ok (.aload_n 0, 1) := by decide +kernel
theorem dX0_answerAs_1 : decode cX0_answerAs 1 = .ok (.iload_n 1, 1) := by decide +kernel
theorem dX0_answerAs_2 : decode cX0_answerAs 2 = .ok (.iconst 4, 1) := by decide +kernel
theorem dX0_answerAs_3 : decode cX0_answerAs 3 = .ok (.if_icmp .ne 7, 3) := by decide +kernel
theorem dX0_answerAs_6 : decode cX0_answerAs 6 = .ok (.iconst 0, 1) := by decide +kernel
theorem dX0_answerAs_7 : decode cX0_answerAs 7 = .ok (.goto 4, 3) := by decide +kernel
theorem dX0_answerAs_10 : decode cX0_answerAs 10 = .ok (.iconst 1, 1) := by decide +kernel
theorem dX0_answerAs_11 : decode cX0_answerAs 11 = .ok (.putfield 24, 3) := by decide +kernel
theorem dX0_answerAs_14 : decode cX0_answerAs 14 = .ok (.iload_n 1, 1) := by decide +kernel
theorem dX0_answerAs_15 : decode cX0_answerAs 15 = .ok (.tableswitch 67 1 3 #[25, 36, 54], 25) := by decide +kernel
theorem dX0_answerAs_40 : decode cX0_answerAs 40 = .ok (.aload_n 0, 1) := by decide +kernel
theorem dX0_answerAs_41 : decode cX0_answerAs 41 = .ok (.aload_n 0, 1) := by decide +kernel
theorem dX0_answerAs_42 : decode cX0_answerAs 42 = .ok (.getfield 15, 3) := by decide +kernel
theorem dX0_answerAs_45 : decode cX0_answerAs 45 = .ok (.putfield 21, 3) := by decide +kernel
theorem dX0_answerAs_48 : decode cX0_answerAs 48 = .ok (.goto 39, 3) := by decide +kernel
theorem dX0_answerAs_51 : decode cX0_answerAs 51 = .ok (.aload_n 0, 1) := by decide +kernel
theorem dX0_answerAs_52 : decode cX0_answerAs 52 = .ok (.aload_n 0, 1) := by decide +kernel
theorem dX0_answerAs_53 : decode cX0_answerAs 53 = .ok (.getfield 39, 3) := by decide +kernel
theorem dX0_answerAs_56 : decode cX0_answerAs 56 = .ok (.aload_n 0, 1) := by decide +kernel
theorem dX0_answerAs_57 : decode cX0_answerAs 57 = .ok (.getfield 15, 3) := by decide +kernel
theorem dX0_answerAs_60 : decode cX0_answerAs 60 = .ok (.invokestatic 46, 3) := by decide +kernel
theorem dX0_answerAs_63 : decode cX0_answerAs 63 = .ok (.putfield 21, 3) := by decide +kernel
theorem dX0_answerAs_66 : decode cX0_answerAs 66 = .ok (.goto 21, 3) := by decide +kernel
theorem dX0_answerAs_69 : decode cX0_answerAs 69 = .ok (.aload_n 0, 1) := by decide +kernel
theorem dX0_answerAs_70 : decode cX0_answerAs 70 = .ok (.aload_n 0, 1) := by decide +kernel
theorem dX0_answerAs_71 : decode cX0_answerAs 71 = .ok (.getfield 15, 3) := by decide +kernel
theorem dX0_answerAs_74 : decode cX0_answerAs 74 = .ok (.iconst 2, 1) := by decide +kernel
theorem dX0_answerAs_75 : decode cX0_answerAs 75 = .ok (.idiv, 1) := by decide +kernel
theorem dX0_answerAs_76 : decode cX0_answerAs 76 = .ok (.putfield 21, 3) := by decide +kernel
theorem dX0_answerAs_79 : decode cX0_answerAs 79 = .ok (.goto 8, 3) := by decide +kernel
theorem dX0_answerAs_82 : decode cX0_answerAs 82 = .ok (.aload_n 0, 1) := by decide +kernel
theorem dX0_answerAs_83 : decode cX0_answerAs 83 = .ok (.iconst 0, 1) := by decide +kernel
theorem dX0_answerAs_84 : decode cX0_answerAs 84 = .ok (.putfield 21, 3) := by decide +kernel
theorem dX0_answerAs_87 : decode cX0_answerAs 87 = .ok (.return_, 1) := by decide +kernel
theorem dX1_init_0 : decode cX1_init 0 = .ok (.aload_n 0, 1) := by decide +kernel
theorem dX1_init_1 : decode cX1_init 1 = .ok (.invokespecial 3, 3) := by decide +kernel
theorem dX1_init_4 : decode cX1_init 4 = .ok (.aload_n 0, 1) := by decide +kernel
theorem dX1_init_5 : decode cX1_init 5 = .ok (.bipush 20, 2) := by decide +kernel
theorem dX1_init_7 : decode cX1_init 7 = .ok (.newarray .int, 2) := by decide +kernel
theorem dX1_init_9 : decode cX1_init 9 = .ok (.putfield 11, 3) := by decide +kernel
theorem dX1_init_12 : decode cX1_init 12 = .ok (.return_, 1) := by decide +kernel
theorem dX1_begin_0 : decode cX1_begin 0 = .ok (.aload_n 0, 1) := by decide +kernel
theorem dX1_begin_1 : decode cX1_begin 1 = .ok (.iload_n 1, 1) := by decide +kernel
theorem dX1_begin_2 : decode cX1_begin 2 = .ok (.putfield 15, 3) := by decide +kernel
theorem dX1_begin_5 : decode cX1_begin 5 = .ok (.aload_n 0, 1) := by decide +kernel
theorem dX1_begin_6 : decode cX1_begin 6 = .ok (.iload_n 2, 1) := by decide +kernel
theorem dX1_begin_7 : decode cX1_begin 7 = .ok (.putfield 19, 3) := by decide +kernel
theorem dX1_begin_10 : decode cX1_begin 10 = .ok (.aload_n 0, 1) := by decide +kernel
theorem dX1_begin_11 : decode cX1_begin 11 = .ok (.iconst 0, 1) := by decide +kernel
theorem dX1_begin_12 : decode cX1_begin 12 = .ok (.putfield 22, 3) := by decide +kernel
theorem dX1_begin_15 : decode cX1_begin 15 = .ok (.return_, 1) := by decide +kernel
theorem dX1_bodyAt_0 : decode cX1_bodyAt 0 = .ok (.iload_n 1, 1) := by decide +kernel
theorem dX1_bodyAt_1 : decode cX1_bodyAt 1 = .ok (.ifCond .lt 26, 3) := by decide +kernel
theorem dX1_bodyAt_4 : decode cX1_bodyAt 4 = .ok (.iload_n 1, 1) := by decide +kernel
theorem dX1_bodyAt_5 : decode cX1_bodyAt 5 = .ok (.aload_n 0, 1) := by decide +kernel
theorem dX1_bodyAt_6 : decode cX1_bodyAt 6 = .ok (.getfield 22, 3) := by decide +kernel
theorem dX1_bodyAt_9 : decode cX1_bodyAt 9 = .ok (.if_icmp .ge 18, 3) := by decide +kernel
theorem dX1_bodyAt_12 : decode cX1_bodyAt 12 = .ok (.iload_n 1, 1) := by decide +kernel
theorem dX1_bodyAt_13 : decode cX1_bodyAt 13 = .ok (.bipush 20, 2) := by decide +kernel
theorem dX1_bodyAt_15 : decode cX1_bodyAt 15 = .ok (.if_icmp .ge 12, 3) := by decide +kernel
theorem dX1_bodyAt_18 : decode cX1_bodyAt 18 = .ok (.aload_n 0, 1) := by decide +kernel
theorem dX1_bodyAt_19 : decode cX1_bodyAt 19 = .ok (.getfield 11, 3) := by decide +kernel
theorem dX1_bodyAt_22 : decode cX1_bodyAt 22 = .ok (.iload_n 1, 1) := by decide +kernel
theorem dX1_bodyAt_23 : decode cX1_bodyAt 23 = .ok (.iaload, 1) := by decide +kernel
theorem dX1_bodyAt_24 : decode cX1_bodyAt 24 = .ok (.goto 4, 3) := by decide +kernel
theorem dX1_bodyAt_27 : decode cX1_bodyAt 27 = .ok (.iconst (-1), 1) := by decide +kernel
theorem dX1_bodyAt_28 : decode cX1_bodyAt 28 = .ok (.ireturn, 1) := by decide +kernel
theorem dX1_does_0 : decode cX1_does 0 = .ok (.aload_n 0, 1) := by decide +kernel
theorem dX1_does_1 : decode cX1_does 1 = .ok (.iload_n 1, 1) := by decide +kernel
theorem dX1_does_2 : decode cX1_does 2 = .ok (.iload_n 1, 1) := by decide +kernel
theorem dX1_does_3 : decode cX1_does 3 = .ok (.iload_n 2, 1) := by decide +kernel
theorem dX1_does_4 : decode cX1_does 4 = .ok (.iload_n 3, 1) := by decide +kernel
theorem dX1_does_5 : decode cX1_does 5 = .ok (.iconst 0, 1) := by decide +kernel
theorem dX1_does_6 : decode cX1_does 6 = .ok (.invokevirtual 25, 3) := by decide +kernel
theorem dX1_does_9 : decode cX1_does 9 = .ok (.ireturn, 1) := by decide +kernel
theorem dX1_perform_0 : decode cX1_perform 0 = .ok (.iload_n 2, 1) := by decide +kernel
theorem dX1_perform_1 : decode cX1_perform 1 = .ok (.iload_n 3, 1) := by decide +kernel
theorem dX1_perform_2 : decode cX1_perform 2 = .ok (.invokestatic 29, 3) := by decide +kernel
theorem dX1_perform_5 : decode cX1_perform 5 = .ok (.istore 6, 2) := by decide +kernel
theorem dX1_perform_7 : decode cX1_perform 7 = .ok (.iload 6, 2) := by decide +kernel
theorem dX1_perform_9 : decode cX1_perform 9 = .ok (.ifCond .eq 10, 3) := by decide +kernel
theorem dX1_perform_12 : decode cX1_perform 12 = .ok (.iload 5, 2) := by decide +kernel
theorem dX1_perform_14 : decode cX1_perform 14 = .ok (.bipush 40, 2) := by decide +kernel
theorem dX1_perform_16 : decode cX1_perform 16 = .ok (.if_icmp .le 5, 3) := by decide +kernel
theorem dX1_perform_19 : decode cX1_perform 19 = .ok (.iconst 0, 1) := by decide +kernel
theorem dX1_perform_20 : decode cX1_perform 20 = .ok (.ireturn, 1) := by decide +kernel
theorem dX1_perform_21 : decode cX1_perform 21 = .ok (.aload_n 0, 1) := by decide +kernel
theorem dX1_perform_22 : decode cX1_perform 22 = .ok (.getfield 22, 3) := by decide +kernel
theorem dX1_perform_25 : decode cX1_perform 25 = .ok (.bipush 20, 2) := by decide +kernel
theorem dX1_perform_27 : decode cX1_perform 27 = .ok (.if_icmp .ge 14, 3) := by decide +kernel
theorem dX1_perform_30 : decode cX1_perform 30 = .ok (.aload_n 0, 1) := by decide +kernel
theorem dX1_perform_31 : decode cX1_perform 31 = .ok (.getfield 11, 3) := by decide +kernel
theorem dX1_perform_34 : decode cX1_perform 34 = .ok (.aload_n 0, 1) := by decide +kernel
theorem dX1_perform_35 : decode cX1_perform 35 = .ok (.getfield 22, 3) := by decide +kernel
theorem dX1_perform_38 : decode cX1_perform 38 = .ok (.iload 6, 2) := by decide +kernel
theorem dX1_perform_40 : decode cX1_perform 40 = .ok (.iastore, 1) := by decide +kernel
theorem dX1_perform_41 : decode cX1_perform 41 = .ok (.aload_n 0, 1) := by decide +kernel
theorem dX1_perform_42 : decode cX1_perform 42 = .ok (.dup, 1) := by decide +kernel
theorem dX1_perform_43 : decode cX1_perform 43 = .ok (.getfield 22, 3) := by decide +kernel
theorem dX1_perform_46 : decode cX1_perform 46 = .ok (.iconst 1, 1) := by decide +kernel
theorem dX1_perform_47 : decode cX1_perform 47 = .ok (.iadd, 1) := by decide +kernel
theorem dX1_perform_48 : decode cX1_perform 48 = .ok (.putfield 22, 3) := by decide +kernel
theorem dX1_perform_51 : decode cX1_perform 51 = .ok (.iload 5, 2) := by decide +kernel
theorem dX1_perform_53 : decode cX1_perform 53 = .ok (.iconst 1, 1) := by decide +kernel
theorem dX1_perform_54 : decode cX1_perform 54 = .ok (.iadd, 1) := by decide +kernel
theorem dX1_perform_55 : decode cX1_perform 55 = .ok (.istore 7, 2) := by decide +kernel
theorem dX1_perform_57 : decode cX1_perform 57 = .ok (.iload 6, 2) := by decide +kernel
theorem dX1_perform_59 : decode cX1_perform 59 = .ok (.lookupswitch 250 #[(10, 89), (11, 97), (12, 114), (20, 128), (30, 143), (31, 157), (40, 180), (50, 193), (51, 210), (60, 233)], 89) := by decide +kernel
theorem dX1_perform_148 : decode cX1_perform 148 = .ok (.iload 4, 2) := by decide +kernel
theorem dX1_perform_150 : decode cX1_perform 150 = .ok (.aload_n 0, 1) := by decide +kernel
theorem dX1_perform_151 : decode cX1_perform 151 = .ok (.getfield 15, 3) := by decide +kernel
theorem dX1_perform_154 : decode cX1_perform 154 = .ok (.iadd, 1) := by decide +kernel
theorem dX1_perform_155 : decode cX1_perform 155 = .ok (.ireturn, 1) := by decide +kernel
theorem dX1_perform_156 : decode cX1_perform 156 = .ok (.aload_n 0, 1) := by decide +kernel
theorem dX1_perform_157 : decode cX1_perform 157 = .ok (.iload_n 1, 1) := by decide +kernel
theorem dX1_perform_158 : decode cX1_perform 158 = .ok (.iload_n 1, 1) := by decide +kernel
theorem dX1_perform_159 : decode cX1_perform 159 = .ok (.iconst 0, 1) := by decide +kernel
theorem dX1_perform_160 : decode cX1_perform 160 = .ok (.iload 4, 2) := by decide +kernel
theorem dX1_perform_162 : decode cX1_perform 162 = .ok (.iload 7, 2) := by decide +kernel
theorem dX1_perform_164 : decode cX1_perform 164 = .ok (.invokevirtual 25, 3) := by decide +kernel
theorem dX1_perform_167 : decode cX1_perform 167 = .ok (.aload_n 0, 1) := by decide +kernel
theorem dX1_perform_168 : decode cX1_perform 168 = .ok (.getfield 19, 3) := by decide +kernel
theorem dX1_perform_171 : decode cX1_perform 171 = .ok (.isub, 1) := by decide +kernel
theorem dX1_perform_172 : decode cX1_perform 172 = .ok (.ireturn, 1) := by decide +kernel
theorem dX1_perform_173 : decode cX1_perform 173 = .ok (.aload_n 0, 1) := by decide +kernel
theorem dX1_perform_174 : decode cX1_perform 174 = .ok (.iload_n 1, 1) := by decide +kernel
theorem dX1_perform_175 : decode cX1_perform 175 = .ok (.iload_n 1, 1) := by decide +kernel
theorem dX1_perform_176 : decode cX1_perform 176 = .ok (.iconst 1, 1) := by decide +kernel
theorem dX1_perform_177 : decode cX1_perform 177 = .ok (.iload 4, 2) := by decide +kernel
theorem dX1_perform_179 : decode cX1_perform 179 = .ok (.iload 7, 2) := by decide +kernel
theorem dX1_perform_181 : decode cX1_perform 181 = .ok (.invokevirtual 25, 3) := by decide +kernel
theorem dX1_perform_184 : decode cX1_perform 184 = .ok (.iconst 2, 1) := by decide +kernel
theorem dX1_perform_185 : decode cX1_perform 185 = .ok (.imul, 1) := by decide +kernel
theorem dX1_perform_186 : decode cX1_perform 186 = .ok (.ireturn, 1) := by decide +kernel
theorem dX1_perform_187 : decode cX1_perform 187 = .ok (.aload_n 0, 1) := by decide +kernel
theorem dX1_perform_188 : decode cX1_perform 188 = .ok (.iload_n 1, 1) := by decide +kernel
theorem dX1_perform_189 : decode cX1_perform 189 = .ok (.iconst 0, 1) := by decide +kernel
theorem dX1_perform_190 : decode cX1_perform 190 = .ok (.iconst 1, 1) := by decide +kernel
theorem dX1_perform_191 : decode cX1_perform 191 = .ok (.iload 4, 2) := by decide +kernel
theorem dX1_perform_193 : decode cX1_perform 193 = .ok (.iload 7, 2) := by decide +kernel
theorem dX1_perform_195 : decode cX1_perform 195 = .ok (.invokevirtual 25, 3) := by decide +kernel
theorem dX1_perform_198 : decode cX1_perform 198 = .ok (.bipush 6, 2) := by decide +kernel
theorem dX1_perform_200 : decode cX1_perform 200 = .ok (.ixor, 1) := by decide +kernel
theorem dX1_perform_201 : decode cX1_perform 201 = .ok (.ireturn, 1) := by decide +kernel
theorem dX1_perform_202 : decode cX1_perform 202 = .ok (.aload_n 0, 1) := by decide +kernel
theorem dX1_perform_203 : decode cX1_perform 203 = .ok (.iload_n 1, 1) := by decide +kernel
theorem dX1_perform_204 : decode cX1_perform 204 = .ok (.iconst 1, 1) := by decide +kernel
theorem dX1_perform_205 : decode cX1_perform 205 = .ok (.iconst 0, 1) := by decide +kernel
theorem dX1_perform_206 : decode cX1_perform 206 = .ok (.iload 4, 2) := by decide +kernel
theorem dX1_perform_208 : decode cX1_perform 208 = .ok (.iconst 3, 1) := by decide +kernel
theorem dX1_perform_209 : decode cX1_perform 209 = .ok (.imul, 1) := by decide +kernel
theorem dX1_perform_210 : decode cX1_perform 210 = .ok (.iload 7, 2) := by decide +kernel
theorem dX1_perform_212 : decode cX1_perform 212 = .ok (.invokevirtual 25, 3) := by decide +kernel
theorem dX1_perform_215 : decode cX1_perform 215 = .ok (.ireturn, 1) := by decide +kernel
theorem dX1_perform_216 : decode cX1_perform 216 = .ok (.aload_n 0, 1) := by decide +kernel
theorem dX1_perform_217 : decode cX1_perform 217 = .ok (.iload_n 1, 1) := by decide +kernel
theorem dX1_perform_218 : decode cX1_perform 218 = .ok (.iconst 1, 1) := by decide +kernel
theorem dX1_perform_219 : decode cX1_perform 219 = .ok (.iconst 2, 1) := by decide +kernel
theorem dX1_perform_220 : decode cX1_perform 220 = .ok (.iload 4, 2) := by decide +kernel
theorem dX1_perform_222 : decode cX1_perform 222 = .ok (.iload 7, 2) := by decide +kernel
theorem dX1_perform_224 : decode cX1_perform 224 = .ok (.invokevirtual 25, 3) := by decide +kernel
theorem dX1_perform_227 : decode cX1_perform 227 = .ok (.aload_n 0, 1) := by decide +kernel
theorem dX1_perform_228 : decode cX1_perform 228 = .ok (.iload_n 1, 1) := by decide +kernel
theorem dX1_perform_229 : decode cX1_perform 229 = .ok (.iload_n 1, 1) := by decide +kernel
theorem dX1_perform_230 : decode cX1_perform 230 = .ok (.iconst 1, 1) := by decide +kernel
theorem dX1_perform_231 : decode cX1_perform 231 = .ok (.iconst 1, 1) := by decide +kernel
theorem dX1_perform_232 : decode cX1_perform 232 = .ok (.iload 7, 2) := by decide +kernel
theorem dX1_perform_234 : decode cX1_perform 234 = .ok (.invokevirtual 25, 3) := by decide +kernel
theorem dX1_perform_237 : decode cX1_perform 237 = .ok (.iadd, 1) := by decide +kernel
theorem dX1_perform_238 : decode cX1_perform 238 = .ok (.ireturn, 1) := by decide +kernel
theorem dX1_perform_239 : decode cX1_perform 239 = .ok (.aload_n 0, 1) := by decide +kernel
theorem dX1_perform_240 : decode cX1_perform 240 = .ok (.iload_n 1, 1) := by decide +kernel
theorem dX1_perform_241 : decode cX1_perform 241 = .ok (.iconst 0, 1) := by decide +kernel
theorem dX1_perform_242 : decode cX1_perform 242 = .ok (.iconst 0, 1) := by decide +kernel
theorem dX1_perform_243 : decode cX1_perform 243 = .ok (.iload 4, 2) := by decide +kernel
theorem dX1_perform_245 : decode cX1_perform 245 = .ok (.iload 7, 2) := by decide +kernel
theorem dX1_perform_247 : decode cX1_perform 247 = .ok (.invokevirtual 25, 3) := by decide +kernel
theorem dX1_perform_250 : decode cX1_perform 250 = .ok (.ineg, 1) := by decide +kernel
theorem dX1_perform_251 : decode cX1_perform 251 = .ok (.ireturn, 1) := by decide +kernel
theorem dX1_perform_252 : decode cX1_perform 252 = .ok (.aload_n 0, 1) := by decide +kernel
theorem dX1_perform_253 : decode cX1_perform 253 = .ok (.iload_n 1, 1) := by decide +kernel
theorem dX1_perform_254 : decode cX1_perform 254 = .ok (.iconst 3, 1) := by decide +kernel
theorem dX1_perform_255 : decode cX1_perform 255 = .ok (.iconst 2, 1) := by decide +kernel
theorem dX1_perform_256 : decode cX1_perform 256 = .ok (.iload 4, 2) := by decide +kernel
theorem dX1_perform_258 : decode cX1_perform 258 = .ok (.aload_n 0, 1) := by decide +kernel
theorem dX1_perform_259 : decode cX1_perform 259 = .ok (.getfield 15, 3) := by decide +kernel
theorem dX1_perform_262 : decode cX1_perform 262 = .ok (.isub, 1) := by decide +kernel
theorem dX1_perform_263 : decode cX1_perform 263 = .ok (.iload 7, 2) := by decide +kernel
theorem dX1_perform_265 : decode cX1_perform 265 = .ok (.invokevirtual 25, 3) := by decide +kernel
theorem dX1_perform_268 : decode cX1_perform 268 = .ok (.ireturn, 1) := by decide +kernel
theorem dX1_perform_269 : decode cX1_perform 269 = .ok (.aload_n 0, 1) := by decide +kernel
theorem dX1_perform_270 : decode cX1_perform 270 = .ok (.iload_n 1, 1) := by decide +kernel
theorem dX1_perform_271 : decode cX1_perform 271 = .ok (.iconst 3, 1) := by decide +kernel
theorem dX1_perform_272 : decode cX1_perform 272 = .ok (.iconst 1, 1) := by decide +kernel
theorem dX1_perform_273 : decode cX1_perform 273 = .ok (.iload 4, 2) := by decide +kernel
theorem dX1_perform_275 : decode cX1_perform 275 = .ok (.iload 7, 2) := by decide +kernel
theorem dX1_perform_277 : decode cX1_perform 277 = .ok (.invokevirtual 25, 3) := by decide +kernel
theorem dX1_perform_280 : decode cX1_perform 280 = .ok (.aload_n 0, 1) := by decide +kernel
theorem dX1_perform_281 : decode cX1_perform 281 = .ok (.iload_n 1, 1) := by decide +kernel
theorem dX1_perform_282 : decode cX1_perform 282 = .ok (.iconst 3, 1) := by decide +kernel
theorem dX1_perform_283 : decode cX1_perform 283 = .ok (.iconst 0, 1) := by decide +kernel
theorem dX1_perform_284 : decode cX1_perform 284 = .ok (.iconst 2, 1) := by decide +kernel
theorem dX1_perform_285 : decode cX1_perform 285 = .ok (.iload 7, 2) := by decide +kernel
theorem dX1_perform_287 : decode cX1_perform 287 = .ok (.invokevirtual 25, 3) := by decide +kernel
theorem dX1_perform_290 : decode cX1_perform 290 = .ok (.iadd, 1) := by decide +kernel
theorem dX1_perform_291 : decode cX1_perform 291 = .ok (.ireturn, 1) := by decide +kernel
theorem dX1_perform_292 : decode cX1_perform 292 = .ok (.aload_n 0, 1) := by decide +kernel
theorem dX1_perform_293 : decode cX1_perform 293 = .ok (.iload_n 1, 1) := by decide +kernel
theorem dX1_perform_294 : decode cX1_perform 294 = .ok (.iconst 0, 1) := by decide +kernel
theorem dX1_perform_295 : decode cX1_perform 295 = .ok (.iconst 1, 1) := by decide +kernel
theorem dX1_perform_296 : decode cX1_perform 296 = .ok (.iload 4, 2) := by decide +kernel
theorem dX1_perform_298 : decode cX1_perform 298 = .ok (.aload_n 0, 1) := by decide +kernel
theorem dX1_perform_299 : decode cX1_perform 299 = .ok (.getfield 19, 3) := by decide +kernel
theorem dX1_perform_302 : decode cX1_perform 302 = .ok (.iadd, 1) := by decide +kernel
theorem dX1_perform_303 : decode cX1_perform 303 = .ok (.iload 7, 2) := by decide +kernel
theorem dX1_perform_305 : decode cX1_perform 305 = .ok (.invokevirtual 25, 3) := by decide +kernel
theorem dX1_perform_308 : decode cX1_perform 308 = .ok (.ireturn, 1) := by decide +kernel
theorem dX1_perform_309 : decode cX1_perform 309 = .ok (.aload_n 0, 1) := by decide +kernel
theorem dX1_perform_310 : decode cX1_perform 310 = .ok (.iload_n 1, 1) := by decide +kernel
theorem dX1_perform_311 : decode cX1_perform 311 = .ok (.iload_n 1, 1) := by decide +kernel
theorem dX1_perform_312 : decode cX1_perform 312 = .ok (.iconst 0, 1) := by decide +kernel
theorem dX1_perform_313 : decode cX1_perform 313 = .ok (.iload 4, 2) := by decide +kernel
theorem dX1_perform_315 : decode cX1_perform 315 = .ok (.iload 7, 2) := by decide +kernel
theorem dX1_perform_317 : decode cX1_perform 317 = .ok (.invokevirtual 25, 3) := by decide +kernel
theorem dX1_perform_320 : decode cX1_perform 320 = .ok (.aload_n 0, 1) := by decide +kernel
theorem dX1_perform_321 : decode cX1_perform 321 = .ok (.iload_n 1, 1) := by decide +kernel
theorem dX1_perform_322 : decode cX1_perform 322 = .ok (.iconst 0, 1) := by decide +kernel
theorem dX1_perform_323 : decode cX1_perform 323 = .ok (.iconst 2, 1) := by decide +kernel
theorem dX1_perform_324 : decode cX1_perform 324 = .ok (.iload 4, 2) := by decide +kernel
theorem dX1_perform_326 : decode cX1_perform 326 = .ok (.iload 7, 2) := by decide +kernel
theorem dX1_perform_328 : decode cX1_perform 328 = .ok (.invokevirtual 25, 3) := by decide +kernel
theorem dX1_perform_331 : decode cX1_perform 331 = .ok (.isub, 1) := by decide +kernel
theorem dX1_perform_332 : decode cX1_perform 332 = .ok (.ireturn, 1) := by decide +kernel
theorem dX1_bodyFrom_0 : decode cX1_bodyFrom 0 = .ok (.iload_n 0, 1) := by decide +kernel
theorem dX1_bodyFrom_1 : decode cX1_bodyFrom 1 = .ok (.istore_n 2, 1) := by decide +kernel
theorem dX1_bodyFrom_2 : decode cX1_bodyFrom 2 = .ok (.iconst 0, 1) := by decide +kernel
theorem dX1_bodyFrom_3 : decode cX1_bodyFrom 3 = .ok (.istore_n 3, 1) := by decide +kernel
theorem dX1_bodyFrom_4 : decode cX1_bodyFrom 4 = .ok (.iload_n 3, 1) := by decide +kernel
theorem dX1_bodyFrom_5 : decode cX1_bodyFrom 5 = .ok (.bipush 7, 2) := by decide +kernel
theorem dX1_bodyFrom_7 : decode cX1_bodyFrom 7 = .ok (.if_icmp .ge 38, 3) := by decide +kernel
theorem dX1_bodyFrom_10 : decode cX1_bodyFrom 10 = .ok (.iload_n 2, 1) := by decide +kernel
theorem dX1_bodyFrom_11 : decode cX1_bodyFrom 11 = .ok (.ifCond .lt 34, 3) := by decide +kernel
theorem dX1_bodyFrom_14 : decode cX1_bodyFrom 14 = .ok (.getstatic 33, 3) := by decide +kernel
theorem dX1_bodyFrom_17 : decode cX1_bodyFrom 17 = .ok (.iload_n 2, 1) := by decide +kernel
theorem dX1_bodyFrom_18 : decode cX1_bodyFrom 18 = .ok (.iconst 3, 1) := by decide +kernel
theorem dX1_bodyFrom_19 : decode cX1_bodyFrom 19 = .ok (.imul, 1) := by decide +kernel
theorem dX1_bodyFrom_20 : decode cX1_bodyFrom 20 = .ok (.iload_n 1, 1) := by decide +kernel
theorem dX1_bodyFrom_21 : decode cX1_bodyFrom 21 = .ok (.iadd, 1) := by decide +kernel
theorem dX1_bodyFrom_22 : decode cX1_bodyFrom 22 = .ok (.iaload, 1) := by decide +kernel
theorem dX1_bodyFrom_23 : decode cX1_bodyFrom 23 = .ok (.istore 4, 2) := by decide +kernel
theorem dX1_bodyFrom_25 : decode cX1_bodyFrom 25 = .ok (.iload 4, 2) := by decide +kernel
theorem dX1_bodyFrom_27 : decode cX1_bodyFrom 27 = .ok (.ifCond .eq 6, 3) := by decide +kernel
theorem dX1_bodyFrom_30 : decode cX1_bodyFrom 30 = .ok (.iload 4, 2) := by decide +kernel
theorem dX1_bodyFrom_32 : decode cX1_bodyFrom 32 = .ok (.ireturn, 1) := by decide +kernel
theorem dX1_bodyFrom_33 : decode cX1_bodyFrom 33 = .ok (.getstatic 36, 3) := by decide +kernel
theorem dX1_bodyFrom_36 : decode cX1_bodyFrom 36 = .ok (.iload_n 2, 1) := by decide +kernel
theorem dX1_bodyFrom_37 : decode cX1_bodyFrom 37 = .ok (.iaload, 1) := by decide +kernel
theorem dX1_bodyFrom_38 : decode cX1_bodyFrom 38 = .ok (.istore_n 2, 1) := by decide +kernel
theorem dX1_bodyFrom_39 : decode cX1_bodyFrom 39 = .ok (.iinc 3 1, 3) := by decide +kernel
theorem dX1_bodyFrom_42 : decode cX1_bodyFrom 42 = .ok (.goto (-38), 3) := by decide +kernel
theorem dX1_bodyFrom_45 : decode cX1_bodyFrom 45 = .ok (.iconst 0, 1) := by decide +kernel
theorem dX1_bodyFrom_46 : decode cX1_bodyFrom 46 = .ok (.ireturn, 1) := by decide +kernel
theorem dX2_init_0 : decode cX2_init 0 = .ok (.aload_n 0, 1) := by decide +kernel
theorem dX2_init_1 : decode cX2_init 1 = .ok (.invokespecial 3, 3) := by decide +kernel
theorem dX2_init_4 : decode cX2_init 4 = .ok (.aload_n 0, 1) := by decide +kernel
theorem dX2_init_5 : decode cX2_init 5 = .ok (.bipush 6, 2) := by decide +kernel
theorem dX2_init_7 : decode cX2_init 7 = .ok (.anewarray 9, 3) := by decide +kernel
theorem dX2_init_10 : decode cX2_init 10 = .ok (.putfield 11, 3) := by decide +kernel
theorem dX2_init_13 : decode cX2_init 13 = .ok (.aload_n 0, 1) := by decide +kernel
theorem dX2_init_14 : decode cX2_init 14 = .ok (.bipush 6, 2) := by decide +kernel
theorem dX2_init_16 : decode cX2_init 16 = .ok (.anewarray 9, 3) := by decide +kernel
theorem dX2_init_19 : decode cX2_init 19 = .ok (.putfield 17, 3) := by decide +kernel
theorem dX2_init_22 : decode cX2_init 22 = .ok (.aload_n 0, 1) := by decide +kernel
theorem dX2_init_23 : decode cX2_init 23 = .ok (.bipush 20, 2) := by decide +kernel
theorem dX2_init_25 : decode cX2_init 25 = .ok (.anewarray 9, 3) := by decide +kernel
theorem dX2_init_28 : decode cX2_init 28 = .ok (.putfield 20, 3) := by decide +kernel
theorem dX2_init_31 : decode cX2_init 31 = .ok (.aload_n 0, 1) := by decide +kernel
theorem dX2_init_32 : decode cX2_init 32 = .ok (.bipush 6, 2) := by decide +kernel
theorem dX2_init_34 : decode cX2_init 34 = .ok (.anewarray 23, 3) := by decide +kernel
theorem dX2_init_37 : decode cX2_init 37 = .ok (.putfield 25, 3) := by decide +kernel
theorem dX2_init_40 : decode cX2_init 40 = .ok (.aload_n 0, 1) := by decide +kernel
theorem dX2_init_41 : decode cX2_init 41 = .ok (.bipush 6, 2) := by decide +kernel
theorem dX2_init_43 : decode cX2_init 43 = .ok (.newarray .int, 2) := by decide +kernel
theorem dX2_init_45 : decode cX2_init 45 = .ok (.putfield 29, 3) := by decide +kernel
theorem dX2_init_48 : decode cX2_init 48 = .ok (.aload_n 0, 1) := by decide +kernel
theorem dX2_init_49 : decode cX2_init 49 = .ok (.new 23, 3) := by decide +kernel
theorem dX2_init_52 : decode cX2_init 52 = .ok (.dup, 1) := by decide +kernel
theorem dX2_init_53 : decode cX2_init 53 = .ok (.invokespecial 33, 3) := by decide +kernel
theorem dX2_init_56 : decode cX2_init 56 = .ok (.putfield 34, 3) := by decide +kernel
theorem dX2_init_59 : decode cX2_init 59 = .ok (.iconst 0, 1) := by decide +kernel
theorem dX2_init_60 : decode cX2_init 60 = .ok (.istore_n 1, 1) := by decide +kernel
theorem dX2_init_61 : decode cX2_init 61 = .ok (.iload_n 1, 1) := by decide +kernel
theorem dX2_init_62 : decode cX2_init 62 = .ok (.bipush 6, 2) := by decide +kernel
theorem dX2_init_64 : decode cX2_init 64 = .ok (.if_icmp .ge 47, 3) := by decide +kernel
theorem dX2_init_67 : decode cX2_init 67 = .ok (.aload_n 0, 1) := by decide +kernel
theorem dX2_init_68 : decode cX2_init 68 = .ok (.getfield 17, 3) := by decide +kernel
theorem dX2_init_71 : decode cX2_init 71 = .ok (.iload_n 1, 1) := by decide +kernel
theorem dX2_init_72 : decode cX2_init 72 = .ok (.new 9, 3) := by decide +kernel
theorem dX2_init_75 : decode cX2_init 75 = .ok (.dup, 1) := by decide +kernel
theorem dX2_init_76 : decode cX2_init 76 = .ok (.invokespecial 38, 3) := by decide +kernel
theorem dX2_init_79 : decode cX2_init 79 = .ok (.aastore, 1) := by decide +kernel
theorem dX2_init_80 : decode cX2_init 80 = .ok (.aload_n 0, 1) := by decide +kernel
theorem dX2_init_81 : decode cX2_init 81 = .ok (.getfield 11, 3) := by decide +kernel
theorem dX2_init_84 : decode cX2_init 84 = .ok (.iload_n 1, 1) := by decide +kernel
theorem dX2_init_85 : decode cX2_init 85 = .ok (.aload_n 0, 1) := by decide +kernel
theorem dX2_init_86 : decode cX2_init 86 = .ok (.getfield 17, 3) := by decide +kernel
theorem dX2_init_89 : decode cX2_init 89 = .ok (.iload_n 1, 1) := by decide +kernel
theorem dX2_init_90 : decode cX2_init 90 = .ok (.aaload, 1) := by decide +kernel
theorem dX2_init_91 : decode cX2_init 91 = .ok (.aastore, 1) := by decide +kernel
theorem dX2_init_92 : decode cX2_init 92 = .ok (.aload_n 0, 1) := by decide +kernel
theorem dX2_init_93 : decode cX2_init 93 = .ok (.getfield 25, 3) := by decide +kernel
theorem dX2_init_96 : decode cX2_init 96 = .ok (.iload_n 1, 1) := by decide +kernel
theorem dX2_init_97 : decode cX2_init 97 = .ok (.new 23, 3) := by decide +kernel
theorem dX2_init_100 : decode cX2_init 100 = .ok (.dup, 1) := by decide +kernel
theorem dX2_init_101 : decode cX2_init 101 = .ok (.invokespecial 33, 3) := by decide +kernel
theorem dX2_init_104 : decode cX2_init 104 = .ok (.aastore, 1) := by decide +kernel
theorem dX2_init_105 : decode cX2_init 105 = .ok (.iinc 1 1, 3) := by decide +kernel
theorem dX2_init_108 : decode cX2_init 108 = .ok (.goto (-47), 3) := by decide +kernel
theorem dX2_init_111 : decode cX2_init 111 = .ok (.iconst 0, 1) := by decide +kernel
theorem dX2_init_112 : decode cX2_init 112 = .ok (.istore_n 1, 1) := by decide +kernel
theorem dX2_init_113 : decode cX2_init 113 = .ok (.iload_n 1, 1) := by decide +kernel
theorem dX2_init_114 : decode cX2_init 114 = .ok (.bipush 20, 2) := by decide +kernel
theorem dX2_init_116 : decode cX2_init 116 = .ok (.if_icmp .ge 22, 3) := by decide +kernel
theorem dX2_init_119 : decode cX2_init 119 = .ok (.aload_n 0, 1) := by decide +kernel
theorem dX2_init_120 : decode cX2_init 120 = .ok (.getfield 20, 3) := by decide +kernel
theorem dX2_init_123 : decode cX2_init 123 = .ok (.iload_n 1, 1) := by decide +kernel
theorem dX2_init_124 : decode cX2_init 124 = .ok (.new 9, 3) := by decide +kernel
theorem dX2_init_127 : decode cX2_init 127 = .ok (.dup, 1) := by decide +kernel
theorem dX2_init_128 : decode cX2_init 128 = .ok (.invokespecial 38, 3) := by decide +kernel
theorem dX2_init_131 : decode cX2_init 131 = .ok (.aastore, 1) := by decide +kernel
theorem dX2_init_132 : decode cX2_init 132 = .ok (.iinc 1 1, 3) := by decide +kernel
theorem dX2_init_135 : decode cX2_init 135 = .ok (.goto (-22), 3) := by decide +kernel
theorem dX2_init_138 : decode cX2_init 138 = .ok (.return_, 1) := by decide +kernel
theorem dX2_open_0 : decode cX2_open 0 = .ok (.aload_n 0, 1) := by decide +kernel
theorem dX2_open_1 : decode cX2_open 1 = .ok (.aload_n 1, 1) := by decide +kernel
theorem dX2_open_2 : decode cX2_open 2 = .ok (.putfield 39, 3) := by decide +kernel
theorem dX2_open_5 : decode cX2_open 5 = .ok (.aload_n 0, 1) := by decide +kernel
theorem dX2_open_6 : decode cX2_open 6 = .ok (.iload_n 2, 1) := by decide +kernel
theorem dX2_open_7 : decode cX2_open 7 = .ok (.putfield 43, 3) := by decide +kernel
theorem dX2_open_10 : decode cX2_open 10 = .ok (.aload_n 0, 1) := by decide +kernel
theorem dX2_open_11 : decode cX2_open 11 = .ok (.iload_n 3, 1) := by decide +kernel
theorem dX2_open_12 : decode cX2_open 12 = .ok (.putfield 47, 3) := by decide +kernel
theorem dX2_open_15 : decode cX2_open 15 = .ok (.aload_n 0, 1) := by decide +kernel
theorem dX2_open_16 : decode cX2_open 16 = .ok (.iconst 0, 1) := by decide +kernel
theorem dX2_open_17 : decode cX2_open 17 = .ok (.putfield 50, 3) := by decide +kernel
theorem dX2_open_20 : decode cX2_open 20 = .ok (.return_, 1) := by decide +kernel
theorem dX2_bring_0 : decode cX2_bring 0 = .ok (.aload_n 0, 1) := by decide +kernel
theorem dX2_bring_1 : decode cX2_bring 1 = .ok (.getfield 50, 3) := by decide +kernel
theorem dX2_bring_4 : decode cX2_bring 4 = .ok (.bipush 6, 2) := by decide +kernel
theorem dX2_bring_6 : decode cX2_bring 6 = .ok (.if_icmp .lt 4, 3) := by decide +kernel
theorem dX2_bring_9 : decode cX2_bring 9 = .ok (.return_, 1) := by decide +kernel
theorem dX2_bring_10 : decode cX2_bring 10 = .ok (.aload_n 0, 1) := by decide +kernel
theorem dX2_bring_11 : decode cX2_bring 11 = .ok (.getfield 29, 3) := by decide +kernel
theorem dX2_bring_14 : decode cX2_bring 14 = .ok (.aload_n 0, 1) := by decide +kernel
theorem dX2_bring_15 : decode cX2_bring 15 = .ok (.getfield 50, 3) := by decide +kernel
theorem dX2_bring_18 : decode cX2_bring 18 = .ok (.iload_n 1, 1) := by decide +kernel
theorem dX2_bring_19 : decode cX2_bring 19 = .ok (.iastore, 1) := by decide +kernel
theorem dX2_bring_20 : decode cX2_bring 20 = .ok (.aload_n 0, 1) := by decide +kernel
theorem dX2_bring_21 : decode cX2_bring 21 = .ok (.getfield 25, 3) := by decide +kernel
theorem dX2_bring_24 : decode cX2_bring 24 = .ok (.aload_n 0, 1) := by decide +kernel
theorem dX2_bring_25 : decode cX2_bring 25 = .ok (.getfield 50, 3) := by decide +kernel
theorem dX2_bring_28 : decode cX2_bring 28 = .ok (.aaload, 1) := by decide +kernel
theorem dX2_bring_29 : decode cX2_bring 29 = .ok (.aload_n 2, 1) := by decide +kernel
theorem dX2_bring_30 : decode cX2_bring 30 = .ok (.invokevirtual 53, 3) := by decide +kernel
theorem dX2_bring_33 : decode cX2_bring 33 = .ok (.aload_n 0, 1) := by decide +kernel
theorem dX2_bring_34 : decode cX2_bring 34 = .ok (.getfield 11, 3) := by decide +kernel
theorem dX2_bring_37 : decode cX2_bring 37 = .ok (.aload_n 0, 1) := by decide +kernel
theorem dX2_bring_38 : decode cX2_bring 38 = .ok (.getfield 50, 3) := by decide +kernel
theorem dX2_bring_41 : decode cX2_bring 41 = .ok (.aload_n 0, 1) := by decide +kernel
theorem dX2_bring_42 : decode cX2_bring 42 = .ok (.getfield 17, 3) := by decide +kernel
theorem dX2_bring_45 : decode cX2_bring 45 = .ok (.aload_n 0, 1) := by decide +kernel
theorem dX2_bring_46 : decode cX2_bring 46 = .ok (.getfield 50, 3) := by decide +kernel
theorem dX2_bring_49 : decode cX2_bring 49 = .ok (.aaload, 1) := by decide +kernel
theorem dX2_bring_50 : decode cX2_bring 50 = .ok (.aastore, 1) := by decide +kernel
theorem dX2_bring_51 : decode cX2_bring 51 = .ok (.aload_n 0, 1) := by decide +kernel
theorem dX2_bring_52 : decode cX2_bring 52 = .ok (.aload_n 2, 1) := by decide +kernel
theorem dX2_bring_53 : decode cX2_bring 53 = .ok (.aload_n 0, 1) := by decide +kernel
theorem dX2_bring_54 : decode cX2_bring 54 = .ok (.getfield 17, 3) := by decide +kernel
theorem dX2_bring_57 : decode cX2_bring 57 = .ok (.aload_n 0, 1) := by decide +kernel
theorem dX2_bring_58 : decode cX2_bring 58 = .ok (.getfield 50, 3) := by decide +kernel
theorem dX2_bring_61 : decode cX2_bring 61 = .ok (.aaload, 1) := by decide +kernel
theorem dX2_bring_62 : decode cX2_bring 62 = .ok (.invokevirtual 57, 3) := by decide +kernel
theorem dX2_bring_65 : decode cX2_bring 65 = .ok (.aload_n 0, 1) := by decide +kernel
theorem dX2_bring_66 : decode cX2_bring 66 = .ok (.dup, 1) := by decide +kernel
theorem dX2_bring_67 : decode cX2_bring 67 = .ok (.getfield 50, 3) := by decide +kernel
theorem dX2_bring_70 : decode cX2_bring 70 = .ok (.iconst 1, 1) := by decide +kernel
theorem dX2_bring_71 : decode cX2_bring 71 = .ok (.iadd, 1) := by decide +kernel
theorem dX2_bring_72 : decode cX2_bring 72 = .ok (.putfield 50, 3) := by decide +kernel
theorem dX2_bring_75 : decode cX2_bring 75 = .ok (.return_, 1) := by decide +kernel
theorem dX2_settle_0 : decode cX2_settle 0 = .ok (.aload_n 0, 1) := by decide +kernel
theorem dX2_settle_1 : decode cX2_settle 1 = .ok (.iconst (-1), 1) := by decide +kernel
theorem dX2_settle_2 : decode cX2_settle 2 = .ok (.putfield 61, 3) := by decide +kernel
theorem dX2_settle_5 : decode cX2_settle 5 = .ok (.aload_n 0, 1) := by decide +kernel
theorem dX2_settle_6 : decode cX2_settle 6 = .ok (.getfield 50, 3) := by decide +kernel
theorem dX2_settle_9 : decode cX2_settle 9 = .ok (.iconst 1, 1) := by decide +kernel
theorem dX2_settle_10 : decode cX2_settle 10 = .ok (.isub, 1) := by decide +kernel
theorem dX2_settle_11 : decode cX2_settle 11 = .ok (.istore_n 1, 1) := by decide +kernel
theorem dX2_settle_12 : decode cX2_settle 12 = .ok (.iload_n 1, 1) := by decide +kernel
theorem dX2_settle_13 : decode cX2_settle 13 = .ok (.ifCond .lt 26, 3) := by decide +kernel
theorem dX2_settle_16 : decode cX2_settle 16 = .ok (.aload_n 0, 1) := by decide +kernel
theorem dX2_settle_17 : decode cX2_settle 17 = .ok (.getfield 11, 3) := by decide +kernel
theorem dX2_settle_20 : decode cX2_settle 20 = .ok (.iload_n 1, 1) := by decide +kernel
theorem dX2_settle_21 : decode cX2_settle 21 = .ok (.aaload, 1) := by decide +kernel
theorem dX2_settle_22 : decode cX2_settle 22 = .ok (.invokevirtual 64, 3) := by decide +kernel
theorem dX2_settle_25 : decode cX2_settle 25 = .ok (.ifCond .eq 8, 3) := by decide +kernel
theorem dX2_settle_28 : decode cX2_settle 28 = .ok (.aload_n 0, 1) := by decide +kernel
theorem dX2_settle_29 : decode cX2_settle 29 = .ok (.iload_n 1, 1) := by decide +kernel
theorem dX2_settle_30 : decode cX2_settle 30 = .ok (.putfield 61, 3) := by decide +kernel
theorem dX2_settle_33 : decode cX2_settle 33 = .ok (.iinc 1 (-1), 3) := by decide +kernel
theorem dX2_settle_36 : decode cX2_settle 36 = .ok (.goto (-24), 3) := by decide +kernel
theorem dX2_settle_39 : decode cX2_settle 39 = .ok (.aload_n 0, 1) := by decide +kernel
theorem dX2_settle_40 : decode cX2_settle 40 = .ok (.getfield 61, 3) := by decide +kernel
theorem dX2_settle_43 : decode cX2_settle 43 = .ok (.ifCond .ge 7, 3) := by decide +kernel
theorem dX2_settle_46 : decode cX2_settle 46 = .ok (.aconst_null, 1) := by decide +kernel
theorem dX2_settle_47 : decode cX2_settle 47 = .ok (.goto 12, 3) := by decide +kernel
theorem dX2_settle_50 : decode cX2_settle 50 = .ok (.aload_n 0, 1) := by decide +kernel
theorem dX2_settle_51 : decode cX2_settle 51 = .ok (.getfield 11, 3) := by decide +kernel
theorem dX2_settle_54 : decode cX2_settle 54 = .ok (.aload_n 0, 1) := by decide +kernel
theorem dX2_settle_55 : decode cX2_settle 55 = .ok (.getfield 61, 3) := by decide +kernel
theorem dX2_settle_58 : decode cX2_settle 58 = .ok (.aaload, 1) := by decide +kernel
theorem dX2_settle_59 : decode cX2_settle 59 = .ok (.astore_n 1, 1) := by decide +kernel
theorem dX2_settle_60 : decode cX2_settle 60 = .ok (.iconst 0, 1) := by decide +kernel
theorem dX2_settle_61 : decode cX2_settle 61 = .ok (.istore_n 2, 1) := by decide +kernel
theorem dX2_settle_62 : decode cX2_settle 62 = .ok (.iload_n 2, 1) := by decide +kernel
theorem dX2_settle_63 : decode cX2_settle 63 = .ok (.aload_n 0, 1) := by decide +kernel
theorem dX2_settle_64 : decode cX2_settle 64 = .ok (.getfield 50, 3) := by decide +kernel
theorem dX2_settle_67 : decode cX2_settle 67 = .ok (.if_icmp .ge 19, 3) := by decide +kernel
theorem dX2_settle_70 : decode cX2_settle 70 = .ok (.aload_n 0, 1) := by decide +kernel
theorem dX2_settle_71 : decode cX2_settle 71 = .ok (.getfield 11, 3) := by decide +kernel
theorem dX2_settle_74 : decode cX2_settle 74 = .ok (.iload_n 2, 1) := by decide +kernel
theorem dX2_settle_75 : decode cX2_settle 75 = .ok (.aaload, 1) := by decide +kernel
theorem dX2_settle_76 : decode cX2_settle 76 = .ok (.aload_n 1, 1) := by decide +kernel
theorem dX2_settle_77 : decode cX2_settle 77 = .ok (.invokevirtual 68, 3) := by decide +kernel
theorem dX2_settle_80 : decode cX2_settle 80 = .ok (.iinc 2 1, 3) := by decide +kernel
theorem dX2_settle_83 : decode cX2_settle 83 = .ok (.goto (-21), 3) := by decide +kernel
theorem dX2_settle_86 : decode cX2_settle 86 = .ok (.return_, 1) := by decide +kernel
theorem dX2_standingOfNumber_0 : decode cX2_standingOfNumber 0 = .ok (.aload_n 0, 1) := by decide +kernel
theorem dX2_standingOfNumber_1 : decode cX2_standingOfNumber 1 = .ok (.iload_n 1, 1) := by decide +kernel
theorem dX2_standingOfNumber_2 : decode cX2_standingOfNumber 2 = .ok (.invokevirtual 72, 3) := by decide +kernel
theorem dX2_standingOfNumber_5 : decode cX2_standingOfNumber 5 = .ok (.istore_n 2, 1) := by decide +kernel
theorem dX2_standingOfNumber_6 : decode cX2_standingOfNumber 6 = .ok (.iload_n 2, 1) := by decide +kernel
theorem dX2_standingOfNumber_7 : decode cX2_standingOfNumber 7 = .ok (.ifCond .ge 7, 3) := by decide +kernel
theorem dX2_standingOfNumber_10 : decode cX2_standingOfNumber 10 = .ok (.aconst_null, 1) := by decide +kernel
theorem dX2_standingOfNumber_11 : decode cX2_standingOfNumber 11 = .ok (.goto 9, 3) := by decide +kernel
theorem dX2_standingOfNumber_14 : decode cX2_standingOfNumber 14 = .ok (.aload_n 0, 1) := by decide +kernel
theorem dX2_standingOfNumber_15 : decode cX2_standingOfNumber 15 = .ok (.getfield 11, 3) := by decide +kernel
theorem dX2_standingOfNumber_18 : decode cX2_standingOfNumber 18 = .ok (.iload_n 2, 1) := by decide +kernel
theorem dX2_standingOfNumber_19 : decode cX2_standingOfNumber 19 = .ok (.aaload, 1) := by decide +kernel
theorem dX2_standingOfNumber_20 : decode cX2_standingOfNumber 20 = .ok (.areturn, 1) := by decide +kernel
theorem dX2_comesOf_0 : decode cX2_comesOf 0 = .ok (.aload_n 0, 1) := by decide +kernel
theorem dX2_comesOf_1 : decode cX2_comesOf 1 = .ok (.iload_n 1, 1) := by decide +kernel
theorem dX2_comesOf_2 : decode cX2_comesOf 2 = .ok (.invokevirtual 72, 3) := by decide +kernel
theorem dX2_comesOf_5 : decode cX2_comesOf 5 = .ok (.istore_n 2, 1) := by decide +kernel
theorem dX2_comesOf_6 : decode cX2_comesOf 6 = .ok (.iload_n 2, 1) := by decide +kernel
theorem dX2_comesOf_7 : decode cX2_comesOf 7 = .ok (.ifCond .ge 7, 3) := by decide +kernel
theorem dX2_comesOf_10 : decode cX2_comesOf 10 = .ok (.iconst (-1), 1) := by decide +kernel
theorem dX2_comesOf_11 : decode cX2_comesOf 11 = .ok (.goto 12, 3) := by decide +kernel
theorem dX2_comesOf_14 : decode cX2_comesOf 14 = .ok (.aload_n 0, 1) := by decide +kernel
theorem dX2_comesOf_15 : decode cX2_comesOf 15 = .ok (.getfield 11, 3) := by decide +kernel
theorem dX2_comesOf_18 : decode cX2_comesOf 18 = .ok (.iload_n 2, 1) := by decide +kernel
theorem dX2_comesOf_19 : decode cX2_comesOf 19 = .ok (.aaload, 1) := by decide +kernel
theorem dX2_comesOf_20 : decode cX2_comesOf 20 = .ok (.getfield 76, 3) := by decide +kernel
theorem dX2_comesOf_23 : decode cX2_comesOf 23 = .ok (.ireturn, 1) := by decide +kernel
theorem dX2_placeOf_0 : decode cX2_placeOf 0 = .ok (.iconst 0, 1) := by decide +kernel
theorem dX2_placeOf_1 : decode cX2_placeOf 1 = .ok (.istore_n 2, 1) := by decide +kernel
theorem dX2_placeOf_2 : decode cX2_placeOf 2 = .ok (.iload_n 2, 1) := by decide +kernel
theorem dX2_placeOf_3 : decode cX2_placeOf 3 = .ok (.aload_n 0, 1) := by decide +kernel
theorem dX2_placeOf_4 : decode cX2_placeOf 4 = .ok (.getfield 50, 3) := by decide +kernel
theorem dX2_placeOf_7 : decode cX2_placeOf 7 = .ok (.if_icmp .ge 21, 3) := by decide +kernel
theorem dX2_placeOf_10 : decode cX2_placeOf 10 = .ok (.aload_n 0, 1) := by decide +kernel
theorem dX2_placeOf_11 : decode cX2_placeOf 11 = .ok (.getfield 29, 3) := by decide +kernel
theorem dX2_placeOf_14 : decode cX2_placeOf 14 = .ok (.iload_n 2, 1) := by decide +kernel
theorem dX2_placeOf_15 : decode cX2_placeOf 15 = .ok (.iaload, 1) := by decide +kernel
theorem dX2_placeOf_16 : decode cX2_placeOf 16 = .ok (.iload_n 1, 1) := by decide +kernel
theorem dX2_placeOf_17 : decode cX2_placeOf 17 = .ok (.if_icmp .ne 5, 3) := by decide +kernel
theorem dX2_placeOf_20 : decode cX2_placeOf 20 = .ok (.iload_n 2, 1) := by decide +kernel
theorem dX2_placeOf_21 : decode cX2_placeOf 21 = .ok (.ireturn, 1) := by decide +kernel
theorem dX2_placeOf_22 : decode cX2_placeOf 22 = .ok (.iinc 2 1, 3) := by decide +kernel
theorem dX2_placeOf_25 : decode cX2_placeOf 25 = .ok (.goto (-23), 3) := by decide +kernel
theorem dX2_placeOf_28 : decode cX2_placeOf 28 = .ok (.iconst (-1), 1) := by decide +kernel
theorem dX2_placeOf_29 : decode cX2_placeOf 29 = .ok (.ireturn, 1) := by decide +kernel
theorem dX2_claimInstead_0 : decode cX2_claimInstead 0 = .ok (.aload_n 0, 1) := by decide +kernel
theorem dX2_claimInstead_1 : decode cX2_claimInstead 1 = .ok (.iload_n 1, 1) := by decide +kernel
theorem dX2_claimInstead_2 : decode cX2_claimInstead 2 = .ok (.invokevirtual 72, 3) := by decide +kernel
theorem dX2_claimInstead_5 : decode cX2_claimInstead 5 = .ok (.istore 4, 2) := by decide +kernel
theorem dX2_claimInstead_7 : decode cX2_claimInstead 7 = .ok (.iload 4, 2) := by decide +kernel
theorem dX2_claimInstead_9 : decode cX2_claimInstead 9 = .ok (.ifCond .ge 4, 3) := by decide +kernel
theorem dX2_claimInstead_12 : decode cX2_claimInstead 12 = .ok (.return_, 1) := by decide +kernel
theorem dX2_claimInstead_13 : decode cX2_claimInstead 13 = .ok (.aload_n 0, 1) := by decide +kernel
theorem dX2_claimInstead_14 : decode cX2_claimInstead 14 = .ok (.getfield 34, 3) := by decide +kernel
theorem dX2_claimInstead_17 : decode cX2_claimInstead 17 = .ok (.aload_n 2, 1) := by decide +kernel
theorem dX2_claimInstead_18 : decode cX2_claimInstead 18 = .ok (.invokevirtual 53, 3) := by decide +kernel
theorem dX2_claimInstead_21 : decode cX2_claimInstead 21 = .ok (.aload_n 0, 1) := by decide +kernel
theorem dX2_claimInstead_22 : decode cX2_claimInstead 22 = .ok (.getfield 34, 3) := by decide +kernel
theorem dX2_claimInstead_25 : decode cX2_claimInstead 25 = .ok (.iload_n 3, 1) := by decide +kernel
theorem dX2_claimInstead_26 : decode cX2_claimInstead 26 = .ok (.putfield 79, 3) := by decide +kernel
theorem dX2_claimInstead_29 : decode cX2_claimInstead 29 = .ok (.aload_n 0, 1) := by decide +kernel
theorem dX2_claimInstead_30 : decode cX2_claimInstead 30 = .ok (.getfield 34, 3) := by decide +kernel
theorem dX2_claimInstead_33 : decode cX2_claimInstead 33 = .ok (.aload_n 2, 1) := by decide +kernel
theorem dX2_claimInstead_34 : decode cX2_claimInstead 34 = .ok (.getfield 82, 3) := by decide +kernel
theorem dX2_claimInstead_37 : decode cX2_claimInstead 37 = .ok (.iload_n 3, 1) := by decide +kernel
theorem dX2_claimInstead_38 : decode cX2_claimInstead 38 = .ok (.invokestatic 85, 3) := by decide +kernel
theorem dX2_claimInstead_41 : decode cX2_claimInstead 41 = .ok (.putfield 82, 3) := by decide +kernel
theorem dX2_claimInstead_44 : decode cX2_claimInstead 44 = .ok (.aload_n 0, 1) := by decide +kernel
theorem dX2_claimInstead_45 : decode cX2_claimInstead 45 = .ok (.aload_n 0, 1) := by decide +kernel
theorem dX2_claimInstead_46 : decode cX2_claimInstead 46 = .ok (.getfield 34, 3) := by decide +kernel
theorem dX2_claimInstead_49 : decode cX2_claimInstead 49 = .ok (.aload_n 0, 1) := by decide +kernel
theorem dX2_claimInstead_50 : decode cX2_claimInstead 50 = .ok (.getfield 11, 3) := by decide +kernel
theorem dX2_claimInstead_53 : decode cX2_claimInstead 53 = .ok (.iload 4, 2) := by decide +kernel
theorem dX2_claimInstead_55 : decode cX2_claimInstead 55 = .ok (.aaload, 1) := by decide +kernel
theorem dX2_claimInstead_56 : decode cX2_claimInstead 56 = .ok (.invokevirtual 57, 3) := by decide +kernel
theorem dX2_claimInstead_59 : decode cX2_claimInstead 59 = .ok (.aload_n 0, 1) := by decide +kernel
theorem dX2_claimInstead_60 : decode cX2_claimInstead 60 = .ok (.invokevirtual 91, 3) := by decide +kernel
theorem dX2_claimInstead_63 : decode cX2_claimInstead 63 = .ok (.return_, 1) := by decide +kernel
theorem dX2_weigh_0 : decode cX2_weigh 0 = .ok (.aload_n 2, 1) := by decide +kernel
theorem dX2_weigh_1 : decode cX2_weigh 1 = .ok (.aload_n 1, 1) := by decide +kernel
theorem dX2_weigh_2 : decode cX2_weigh 2 = .ok (.getfield 82, 3) := by decide +kernel
theorem dX2_weigh_5 : decode cX2_weigh 5 = .ok (.putfield 94, 3) := by decide +kernel
theorem dX2_weigh_8 : decode cX2_weigh 8 = .ok (.aload_n 2, 1) := by decide +kernel
theorem dX2_weigh_9 : decode cX2_weigh 9 = .ok (.aload_n 1, 1) := by decide +kernel
theorem dX2_weigh_10 : decode cX2_weigh 10 = .ok (.getfield 79, 3) := by decide +kernel
theorem dX2_weigh_13 : decode cX2_weigh 13 = .ok (.aload_n 1, 1) := by decide +kernel
theorem dX2_weigh_14 : decode cX2_weigh 14 = .ok (.getfield 82, 3) := by decide +kernel
theorem dX2_weigh_17 : decode cX2_weigh 17 = .ok (.isub, 1) := by decide +kernel
theorem dX2_weigh_18 : decode cX2_weigh 18 = .ok (.putfield 95, 3) := by decide +kernel
theorem dX2_weigh_21 : decode cX2_weigh 21 = .ok (.aload_n 2, 1) := by decide +kernel
theorem dX2_weigh_22 : decode cX2_weigh 22 = .ok (.aload_n 1, 1) := by decide +kernel
theorem dX2_weigh_23 : decode cX2_weigh 23 = .ok (.getfield 98, 3) := by decide +kernel
theorem dX2_weigh_26 : decode cX2_weigh 26 = .ok (.aload_n 1, 1) := by decide +kernel
theorem dX2_weigh_27 : decode cX2_weigh 27 = .ok (.getfield 82, 3) := by decide +kernel
theorem dX2_weigh_30 : decode cX2_weigh 30 = .ok (.if_icmp .gt 7, 3) := by decide +kernel
theorem dX2_weigh_33 : decode cX2_weigh 33 = .ok (.iconst 1, 1) := by decide +kernel
theorem dX2_weigh_34 : decode cX2_weigh 34 = .ok (.goto 4, 3) := by decide +kernel
theorem dX2_weigh_37 : decode cX2_weigh 37 = .ok (.iconst 0, 1) := by decide +kernel
theorem dX2_weigh_38 : decode cX2_weigh 38 = .ok (.putfield 101, 3) := by decide +kernel
theorem dX2_weigh_41 : decode cX2_weigh 41 = .ok (.aload_n 2, 1) := by decide +kernel
theorem dX2_weigh_42 : decode cX2_weigh 42 = .ok (.aload_n 1, 1) := by decide +kernel
theorem dX2_weigh_43 : decode cX2_weigh 43 = .ok (.getfield 98, 3) := by decide +kernel
theorem dX2_weigh_46 : decode cX2_weigh 46 = .ok (.aload_n 1, 1) := by decide +kernel
theorem dX2_weigh_47 : decode cX2_weigh 47 = .ok (.getfield 79, 3) := by decide +kernel
theorem dX2_weigh_50 : decode cX2_weigh 50 = .ok (.if_icmp .lt 7, 3) := by decide +kernel
theorem dX2_weigh_53 : decode cX2_weigh 53 = .ok (.iconst 1, 1) := by decide +kernel
theorem dX2_weigh_54 : decode cX2_weigh 54 = .ok (.goto 4, 3) := by decide +kernel
theorem dX2_weigh_57 : decode cX2_weigh 57 = .ok (.iconst 0, 1) := by decide +kernel
theorem dX2_weigh_58 : decode cX2_weigh 58 = .ok (.putfield 105, 3) := by decide +kernel
theorem dX2_weigh_61 : decode cX2_weigh 61 = .ok (.aload_n 0, 1) := by decide +kernel
theorem dX2_weigh_62 : decode cX2_weigh 62 = .ok (.getfield 39, 3) := by decide +kernel
theorem dX2_weigh_65 : decode cX2_weigh 65 = .ok (.aload_n 1, 1) := by decide +kernel
theorem dX2_weigh_66 : decode cX2_weigh 66 = .ok (.aload_n 0, 1) := by decide +kernel
theorem dX2_weigh_67 : decode cX2_weigh 67 = .ok (.getfield 43, 3) := by decide +kernel
theorem dX2_weigh_70 : decode cX2_weigh 70 = .ok (.invokevirtual 108, 3) := by decide +kernel
theorem dX2_weigh_73 : decode cX2_weigh 73 = .ok (.istore_n 3, 1) := by decide +kernel
theorem dX2_weigh_74 : decode cX2_weigh 74 = .ok (.aload_n 0, 1) := by decide +kernel
theorem dX2_weigh_75 : decode cX2_weigh 75 = .ok (.getfield 39, 3) := by decide +kernel
theorem dX2_weigh_78 : decode cX2_weigh 78 = .ok (.aload_n 1, 1) := by decide +kernel
theorem dX2_weigh_79 : decode cX2_weigh 79 = .ok (.aload_n 0, 1) := by decide +kernel
theorem dX2_weigh_80 : decode cX2_weigh 80 = .ok (.getfield 47, 3) := by decide +kernel
theorem dX2_weigh_83 : decode cX2_weigh 83 = .ok (.invokevirtual 108, 3) := by decide +kernel
theorem dX2_weigh_86 : decode cX2_weigh 86 = .ok (.istore 4, 2) := by decide +kernel
theorem dX2_weigh_88 : decode cX2_weigh 88 = .ok (.aload_n 2, 1) := by decide +kernel
theorem dX2_weigh_89 : decode cX2_weigh 89 = .ok (.aload_n 0, 1) := by decide +kernel
theorem dX2_weigh_90 : decode cX2_weigh 90 = .ok (.getfield 39, 3) := by decide +kernel
theorem dX2_weigh_93 : decode cX2_weigh 93 = .ok (.iload_n 3, 1) := by decide +kernel
theorem dX2_weigh_94 : decode cX2_weigh 94 = .ok (.iload 4, 2) := by decide +kernel
theorem dX2_weigh_96 : decode cX2_weigh 96 = .ok (.invokevirtual 114, 3) := by decide +kernel
theorem dX2_weigh_99 : decode cX2_weigh 99 = .ok (.putfield 117, 3) := by decide +kernel
theorem dX2_weigh_102 : decode cX2_weigh 102 = .ok (.aload_n 2, 1) := by decide +kernel
theorem dX2_weigh_103 : decode cX2_weigh 103 = .ok (.aload_n 2, 1) := by decide +kernel
theorem dX2_weigh_104 : decode cX2_weigh 104 = .ok (.getfield 117, 3) := by decide +kernel
theorem dX2_weigh_107 : decode cX2_weigh 107 = .ok (.ifCond .ge 7, 3) := by decide +kernel
theorem dX2_weigh_110 : decode cX2_weigh 110 = .ok (.iconst 0, 1) := by decide +kernel
theorem dX2_weigh_111 : decode cX2_weigh 111 = .ok (.goto 15, 3) := by decide +kernel
theorem dX2_weigh_114 : decode cX2_weigh 114 = .ok (.aload_n 0, 1) := by decide +kernel
theorem dX2_weigh_115 : decode cX2_weigh 115 = .ok (.getfield 39, 3) := by decide +kernel
theorem dX2_weigh_118 : decode cX2_weigh 118 = .ok (.getfield 120, 3) := by decide +kernel
theorem dX2_weigh_121 : decode cX2_weigh 121 = .ok (.aload_n 2, 1) := by decide +kernel
theorem dX2_weigh_122 : decode cX2_weigh 122 = .ok (.getfield 117, 3) := by decide +kernel
theorem dX2_weigh_125 : decode cX2_weigh 125 = .ok (.iaload, 1) := by decide +kernel
theorem dX2_weigh_126 : decode cX2_weigh 126 = .ok (.putfield 123, 3) := by decide +kernel
theorem dX2_weigh_129 : decode cX2_weigh 129 = .ok (.aload_n 2, 1) := by decide +kernel
theorem dX2_weigh_130 : decode cX2_weigh 130 = .ok (.aload_n 0, 1) := by decide +kernel
theorem dX2_weigh_131 : decode cX2_weigh 131 = .ok (.aload_n 2, 1) := by decide +kernel
theorem dX2_weigh_132 : decode cX2_weigh 132 = .ok (.iload 4, 2) := by decide +kernel
theorem dX2_weigh_134 : decode cX2_weigh 134 = .ok (.invokevirtual 126, 3) := by decide +kernel
theorem dX2_weigh_137 : decode cX2_weigh 137 = .ok (.putfield 130, 3) := by decide +kernel
theorem dX2_weigh_140 : decode cX2_weigh 140 = .ok (.aload_n 0, 1) := by decide +kernel
theorem dX2_weigh_141 : decode cX2_weigh 141 = .ok (.getfield 39, 3) := by decide +kernel
theorem dX2_weigh_144 : decode cX2_weigh 144 = .ok (.iconst 3, 1) := by decide +kernel
theorem dX2_weigh_145 : decode cX2_weigh 145 = .ok (.iload_n 3, 1) := by decide +kernel
theorem dX2_weigh_146 : decode cX2_weigh 146 = .ok (.invokevirtual 133, 3) := by decide +kernel
theorem dX2_weigh_149 : decode cX2_weigh 149 = .ok (.ifCond .ne 7, 3) := by decide +kernel
theorem dX2_weigh_152 : decode cX2_weigh 152 = .ok (.iconst 1, 1) := by decide +kernel
theorem dX2_weigh_153 : decode cX2_weigh 153 = .ok (.goto 4, 3) := by decide +kernel
theorem dX2_weigh_156 : decode cX2_weigh 156 = .ok (.iconst 0, 1) := by decide +kernel
theorem dX2_weigh_157 : decode cX2_weigh 157 = .ok (.istore 5, 2) := by decide +kernel
theorem dX2_weigh_159 : decode cX2_weigh 159 = .ok (.aload_n 0, 1) := by decide +kernel
theorem dX2_weigh_160 : decode cX2_weigh 160 = .ok (.getfield 39, 3) := by decide +kernel
theorem dX2_weigh_163 : decode cX2_weigh 163 = .ok (.iconst 3, 1) := by decide +kernel
theorem dX2_weigh_164 : decode cX2_weigh 164 = .ok (.iload 4, 2) := by decide +kernel
theorem dX2_weigh_166 : decode cX2_weigh 166 = .ok (.invokevirtual 133, 3) := by decide +kernel
theorem dX2_weigh_169 : decode cX2_weigh 169 = .ok (.ifCond .ne 7, 3) := by decide +kernel
theorem dX2_weigh_172 : decode cX2_weigh 172 = .ok (.iconst 1, 1) := by decide +kernel
theorem dX2_weigh_173 : decode cX2_weigh 173 = .ok (.goto 4, 3) := by decide +kernel
theorem dX2_weigh_176 : decode cX2_weigh 176 = .ok (.iconst 0, 1) := by decide +kernel
theorem dX2_weigh_177 : decode cX2_weigh 177 = .ok (.istore 6, 2) := by decide +kernel
theorem dX2_weigh_179 : decode cX2_weigh 179 = .ok (.aload_n 2, 1) := by decide +kernel
theorem dX2_weigh_180 : decode cX2_weigh 180 = .ok (.iload 5, 2) := by decide +kernel
theorem dX2_weigh_182 : decode cX2_weigh 182 = .ok (.ifCond .eq 20, 3) := by decide +kernel
theorem dX2_weigh_185 : decode cX2_weigh 185 = .ok (.aload_n 0, 1) := by decide +kernel
theorem dX2_weigh_186 : decode cX2_weigh 186 = .ok (.getfield 39, 3) := by decide +kernel
theorem dX2_weigh_189 : decode cX2_weigh 189 = .ok (.bipush 6, 2) := by decide +kernel
theorem dX2_weigh_191 : decode cX2_weigh 191 = .ok (.iload_n 3, 1) := by decide +kernel
theorem dX2_weigh_192 : decode cX2_weigh 192 = .ok (.invokevirtual 133, 3) := by decide +kernel
theorem dX2_weigh_195 : decode cX2_weigh 195 = .ok (.ifCond .eq 7, 3) := by decide +kernel
theorem dX2_weigh_198 : decode cX2_weigh 198 = .ok (.iconst 1, 1) := by decide +kernel
theorem dX2_weigh_199 : decode cX2_weigh 199 = .ok (.goto 4, 3) := by decide +kernel
theorem dX2_weigh_202 : decode cX2_weigh 202 = .ok (.iconst 0, 1) := by decide +kernel
theorem dX2_weigh_203 : decode cX2_weigh 203 = .ok (.putfield 137, 3) := by decide +kernel
theorem dX2_weigh_206 : decode cX2_weigh 206 = .ok (.aload_n 2, 1) := by decide +kernel
theorem dX2_weigh_207 : decode cX2_weigh 207 = .ok (.iload 6, 2) := by decide +kernel
theorem dX2_weigh_209 : decode cX2_weigh 209 = .ok (.ifCond .eq 7, 3) := by decide +kernel
theorem dX2_weigh_212 : decode cX2_weigh 212 = .ok (.iconst 0, 1) := by decide +kernel
theorem dX2_weigh_213 : decode cX2_weigh 213 = .ok (.goto 13, 3) := by decide +kernel
theorem dX2_weigh_216 : decode cX2_weigh 216 = .ok (.iload 5, 2) := by decide +kernel
theorem dX2_weigh_218 : decode cX2_weigh 218 = .ok (.ifCond .eq 7, 3) := by decide +kernel
theorem dX2_weigh_221 : decode cX2_weigh 221 = .ok (.iconst 1, 1) := by decide +kernel
theorem dX2_weigh_222 : decode cX2_weigh 222 = .ok (.goto 4, 3) := by decide +kernel
theorem dX2_weigh_225 : decode cX2_weigh 225 = .ok (.iconst 2, 1) := by decide +kernel
theorem dX2_weigh_226 : decode cX2_weigh 226 = .ok (.putfield 140, 3) := by decide +kernel
theorem dX2_weigh_229 : decode cX2_weigh 229 = .ok (.aload_n 2, 1) := by decide +kernel
theorem dX2_weigh_230 : decode cX2_weigh 230 = .ok (.aload_n 2, 1) := by decide +kernel
theorem dX2_weigh_231 : decode cX2_weigh 231 = .ok (.getfield 140, 3) := by decide +kernel
theorem dX2_weigh_234 : decode cX2_weigh 234 = .ok (.putfield 143, 3) := by decide +kernel
theorem dX2_weigh_237 : decode cX2_weigh 237 = .ok (.aload_n 2, 1) := by decide +kernel
theorem dX2_weigh_238 : decode cX2_weigh 238 = .ok (.getfield 123, 3) := by decide +kernel
theorem dX2_weigh_241 : decode cX2_weigh 241 = .ok (.bipush 6, 2) := by decide +kernel
theorem dX2_weigh_243 : decode cX2_weigh 243 = .ok (.if_icmp .ne 13, 3) := by decide +kernel
theorem dX2_weigh_246 : decode cX2_weigh 246 = .ok (.iload 5, 2) := by decide +kernel
theorem dX2_weigh_248 : decode cX2_weigh 248 = .ok (.ifCond .eq 8, 3) := by decide +kernel
theorem dX2_weigh_251 : decode cX2_weigh 251 = .ok (.aload_n 2, 1) := by decide +kernel
theorem dX2_weigh_252 : decode cX2_weigh 252 = .ok (.iconst 1, 1) := by decide +kernel
theorem dX2_weigh_253 : decode cX2_weigh 253 = .ok (.putfield 143, 3) := by decide +kernel
theorem dX2_weigh_256 : decode cX2_weigh 256 = .ok (.return_, 1) := by decide +kernel
theorem dX2_comesAlone_0 : decode cX2_comesAlone 0 = .ok (.aload_n 1, 1) := by decide +kernel
theorem dX2_comesAlone_1 : decode cX2_comesAlone 1 = .ok (.getfield 95, 3) := by decide +kernel
theorem dX2_comesAlone_4 : decode cX2_comesAlone 4 = .ok (.ifCond .ne 5, 3) := by decide +kernel
theorem dX2_comesAlone_7 : decode cX2_comesAlone 7 = .ok (.iconst 0, 1) := by decide +kernel
theorem dX2_comesAlone_8 : decode cX2_comesAlone 8 = .ok (.ireturn, 1) := by decide +kernel
theorem dX2_comesAlone_9 : decode cX2_comesAlone 9 = .ok (.aload_n 0, 1) := by decide +kernel
theorem dX2_comesAlone_10 : decode cX2_comesAlone 10 = .ok (.getfield 39, 3) := by decide +kernel
theorem dX2_comesAlone_13 : decode cX2_comesAlone 13 = .ok (.iconst 0, 1) := by decide +kernel
theorem dX2_comesAlone_14 : decode cX2_comesAlone 14 = .ok (.iload_n 2, 1) := by decide +kernel
theorem dX2_comesAlone_15 : decode cX2_comesAlone 15 = .ok (.invokevirtual 133, 3) := by decide +kernel
theorem dX2_comesAlone_18 : decode cX2_comesAlone 18 = .ok (.ifCond .eq 5, 3) := by decide +kernel
theorem dX2_comesAlone_21 : decode cX2_comesAlone 21 = .ok (.iconst 1, 1) := by decide +kernel
theorem dX2_comesAlone_22 : decode cX2_comesAlone 22 = .ok (.ireturn, 1) := by decide +kernel
theorem dX2_comesAlone_23 : decode cX2_comesAlone 23 = .ok (.aload_n 0, 1) := by decide +kernel
theorem dX2_comesAlone_24 : decode cX2_comesAlone 24 = .ok (.getfield 39, 3) := by decide +kernel
theorem dX2_comesAlone_27 : decode cX2_comesAlone 27 = .ok (.iconst 1, 1) := by decide +kernel
theorem dX2_comesAlone_28 : decode cX2_comesAlone 28 = .ok (.iload_n 2, 1) := by decide +kernel
theorem dX2_comesAlone_29 : decode cX2_comesAlone 29 = .ok (.invokevirtual 133, 3) := by decide +kernel
theorem dX2_comesAlone_32 : decode cX2_comesAlone 32 = .ok (.ifCond .eq 5, 3) := by decide +kernel
theorem dX2_comesAlone_35 : decode cX2_comesAlone 35 = .ok (.iconst 2, 1) := by decide +kernel
theorem dX2_comesAlone_36 : decode cX2_comesAlone 36 = .ok (.ireturn, 1) := by decide +kernel
theorem dX2_comesAlone_37 : decode cX2_comesAlone 37 = .ok (.aload_n 1, 1) := by decide +kernel
theorem dX2_comesAlone_38 : decode cX2_comesAlone 38 = .ok (.getfield 117, 3) := by decide +kernel
theorem dX2_comesAlone_41 : decode cX2_comesAlone 41 = .ok (.ifCond .lt 19, 3) := by decide +kernel
theorem dX2_comesAlone_44 : decode cX2_comesAlone 44 = .ok (.aload_n 1, 1) := by decide +kernel
theorem dX2_comesAlone_45 : decode cX2_comesAlone 45 = .ok (.getfield 95, 3) := by decide +kernel
theorem dX2_comesAlone_48 : decode cX2_comesAlone 48 = .ok (.aload_n 0, 1) := by decide +kernel
theorem dX2_comesAlone_49 : decode cX2_comesAlone 49 = .ok (.getfield 39, 3) := by decide +kernel
theorem dX2_comesAlone_52 : decode cX2_comesAlone 52 = .ok (.getfield 146, 3) := by decide +kernel
theorem dX2_comesAlone_55 : decode cX2_comesAlone 55 = .ok (.if_icmp .lt 5, 3) := by decide +kernel
theorem dX2_comesAlone_58 : decode cX2_comesAlone 58 = .ok (.iconst 3, 1) := by decide +kernel
theorem dX2_comesAlone_59 : decode cX2_comesAlone 59 = .ok (.ireturn, 1) := by decide +kernel
theorem dX2_comesAlone_60 : decode cX2_comesAlone 60 = .ok (.aload_n 0, 1) := by decide +kernel
theorem dX2_comesAlone_61 : decode cX2_comesAlone 61 = .ok (.getfield 39, 3) := by decide +kernel
theorem dX2_comesAlone_64 : decode cX2_comesAlone 64 = .ok (.bipush 7, 2) := by decide +kernel
theorem dX2_comesAlone_66 : decode cX2_comesAlone 66 = .ok (.iload_n 2, 1) := by decide +kernel
theorem dX2_comesAlone_67 : decode cX2_comesAlone 67 = .ok (.invokevirtual 133, 3) := by decide +kernel
theorem dX2_comesAlone_70 : decode cX2_comesAlone 70 = .ok (.ifCond .eq 7, 3) := by decide +kernel
theorem dX2_comesAlone_73 : decode cX2_comesAlone 73 = .ok (.iconst 4, 1) := by decide +kernel
theorem dX2_comesAlone_74 : decode cX2_comesAlone 74 = .ok (.goto 4, 3) := by decide +kernel
theorem dX2_comesAlone_77 : decode cX2_comesAlone 77 = .ok (.iconst 5, 1) := by decide +kernel
theorem dX2_comesAlone_78 : decode cX2_comesAlone 78 = .ok (.ireturn, 1) := by decide +kernel
theorem dX2_howManyRolled_0 : decode cX2_howManyRolled 0 = .ok (.iconst 0, 1) := by decide +kernel
theorem dX2_howManyRolled_1 : decode cX2_howManyRolled 1 = .ok (.istore_n 1, 1) := by decide +kernel
theorem dX2_howManyRolled_2 : decode cX2_howManyRolled 2 = .ok (.iconst 0, 1) := by decide +kernel
theorem dX2_howManyRolled_3 : decode cX2_howManyRolled 3 = .ok (.istore_n 2, 1) := by decide +kernel
theorem dX2_howManyRolled_4 : decode cX2_howManyRolled 4 = .ok (.iload_n 2, 1) := by decide +kernel
theorem dX2_howManyRolled_5 : decode cX2_howManyRolled 5 = .ok (.aload_n 0, 1) := by decide +kernel
theorem dX2_howManyRolled_6 : decode cX2_howManyRolled 6 = .ok (.getfield 50, 3) := by decide +kernel
theorem dX2_howManyRolled_9 : decode cX2_howManyRolled 9 = .ok (.if_icmp .ge 25, 3) := by decide +kernel
theorem dX2_howManyRolled_12 : decode cX2_howManyRolled 12 = .ok (.aload_n 0, 1) := by decide +kernel
theorem dX2_howManyRolled_13 : decode cX2_howManyRolled 13 = .ok (.getfield 11, 3) := by decide +kernel
theorem dX2_howManyRolled_16 : decode cX2_howManyRolled 16 = .ok (.iload_n 2, 1) := by decide +kernel
theorem dX2_howManyRolled_17 : decode cX2_howManyRolled 17 = .ok (.aaload, 1) := by decide +kernel
theorem dX2_howManyRolled_18 : decode cX2_howManyRolled 18 = .ok (.getfield 76, 3) := by decide +kernel
theorem dX2_howManyRolled_21 : decode cX2_howManyRolled 21 = .ok (.iconst 4, 1) := by decide +kernel
theorem dX2_howManyRolled_22 : decode cX2_howManyRolled 22 = .ok (.if_icmp .ne 6, 3) := by decide +kernel
theorem dX2_howManyRolled_25 : decode cX2_howManyRolled 25 = .ok (.iinc 1 1, 3) := by decide +kernel
theorem dX2_howManyRolled_28 : decode cX2_howManyRolled 28 = .ok (.iinc 2 1, 3) := by decide +kernel
theorem dX2_howManyRolled_31 : decode cX2_howManyRolled 31 = .ok (.goto (-27), 3) := by decide +kernel
theorem dX2_howManyRolled_34 : decode cX2_howManyRolled 34 = .ok (.iload_n 1, 1) := by decide +kernel
theorem dX2_howManyRolled_35 : decode cX2_howManyRolled 35 = .ok (.ireturn, 1) := by decide +kernel
theorem dX2_numberRolledOnto_0 : decode cX2_numberRolledOnto 0 = .ok (.aload_n 0, 1) := by decide +kernel
theorem dX2_numberRolledOnto_1 : decode cX2_numberRolledOnto 1 = .ok (.getfield 61, 3) := by decide +kernel
theorem dX2_numberRolledOnto_4 : decode cX2_numberRolledOnto 4 = .ok (.ifCond .ge 8, 3) := by decide +kernel
theorem dX2_numberRolledOnto_7 : decode cX2_numberRolledOnto 7 = .ok (.bipush (-5), 2) := by decide +kernel
theorem dX2_numberRolledOnto_9 : decode cX2_numberRolledOnto 9 = .ok (.goto 12, 3) := by decide +kernel
theorem dX2_numberRolledOnto_12 : decode cX2_numberRolledOnto 12 = .ok (.aload_n 0, 1) := by decide +kernel
theorem dX2_numberRolledOnto_13 : decode cX2_numberRolledOnto 13 = .ok (.getfield 29, 3) := by decide +kernel
theorem dX2_numberRolledOnto_16 : decode cX2_numberRolledOnto 16 = .ok (.aload_n 0, 1) := by decide +kernel
theorem dX2_numberRolledOnto_17 : decode cX2_numberRolledOnto 17 = .ok (.getfield 61, 3) := by decide +kernel
theorem dX2_numberRolledOnto_20 : decode cX2_numberRolledOnto 20 = .ok (.iaload, 1) := by decide +kernel
theorem dX2_numberRolledOnto_21 : decode cX2_numberRolledOnto 21 = .ok (.ireturn, 1) := by decide +kernel
theorem dX2_below_0 : decode cX2_below 0 = .ok (.aload_n 0, 1) := by decide +kernel
theorem dX2_below_1 : decode cX2_below 1 = .ok (.getfield 39, 3) := by decide +kernel
theorem dX2_below_4 : decode cX2_below 4 = .ok (.getfield 149, 3) := by decide +kernel
theorem dX2_below_7 : decode cX2_below 7 = .ok (.i2l, 1) := by decide +kernel
theorem dX2_below_8 : decode cX2_below 8 = .ok (.aload_n 0, 1) := by decide +kernel
theorem dX2_below_9 : decode cX2_below 9 = .ok (.getfield 39, 3) := by decide +kernel
theorem dX2_below_12 : decode cX2_below 12 = .ok (.getfield 152, 3) := by decide +kernel
theorem dX2_below_15 : decode cX2_below 15 = .ok (.i2l, 1) := by decide +kernel
theorem dX2_below_16 : decode cX2_below 16 = .ok (.lmul, 1) := by decide +kernel
theorem dX2_below_17 : decode cX2_below 17 = .ok (.lreturn, 1) := by decide +kernel
theorem dX2_paidWhen_0 : decode cX2_paidWhen 0 = .ok (.lconst 0, 1) := by decide +kernel
theorem dX2_paidWhen_1 : decode cX2_paidWhen 1 = .ok (.lstore 4, 2) := by decide +kernel
theorem dX2_paidWhen_3 : decode cX2_paidWhen 3 = .ok (.aload_n 1, 1) := by decide +kernel
theorem dX2_paidWhen_4 : decode cX2_paidWhen 4 = .ok (.getfield 76, 3) := by decide +kernel
theorem dX2_paidWhen_7 : decode cX2_paidWhen 7 = .ok (.iconst 2, 1) := by decide +kernel
theorem dX2_paidWhen_8 : decode cX2_paidWhen 8 = .ok (.if_icmp .ne 18, 3) := by decide +kernel
theorem dX2_paidWhen_11 : decode cX2_paidWhen 11 = .ok (.aload_n 1, 1) := by decide +kernel
theorem dX2_paidWhen_12 : decode cX2_paidWhen 12 = .ok (.getfield 95, 3) := by decide +kernel
theorem dX2_paidWhen_15 : decode cX2_paidWhen 15 = .ok (.i2l, 1) := by decide +kernel
theorem dX2_paidWhen_16 : decode cX2_paidWhen 16 = .ok (.aload_n 0, 1) := by decide +kernel
theorem dX2_paidWhen_17 : decode cX2_paidWhen 17 = .ok (.invokevirtual 155, 3) := by decide +kernel
theorem dX2_paidWhen_20 : decode cX2_paidWhen 20 = .ok (.lmul, 1) := by decide +kernel
theorem dX2_paidWhen_21 : decode cX2_paidWhen 21 = .ok (.lstore 4, 2) := by decide +kernel
theorem dX2_paidWhen_23 : decode cX2_paidWhen 23 = .ok (.goto 19, 3) := by decide +kernel
theorem dX2_paidWhen_26 : decode cX2_paidWhen 26 = .ok (.aload_n 1, 1) := by decide +kernel
theorem dX2_paidWhen_27 : decode cX2_paidWhen 27 = .ok (.invokevirtual 159, 3) := by decide +kernel
theorem dX2_paidWhen_30 : decode cX2_paidWhen 30 = .ok (.ifCond .eq 12, 3) := by decide +kernel
theorem dX2_paidWhen_33 : decode cX2_paidWhen 33 = .ok (.aload_n 0, 1) := by decide +kernel
theorem dX2_paidWhen_34 : decode cX2_paidWhen 34 = .ok (.aload_n 1, 1) := by decide +kernel
theorem dX2_paidWhen_35 : decode cX2_paidWhen 35 = .ok (.iload_n 2, 1) := by decide +kernel
theorem dX2_paidWhen_36 : decode cX2_paidWhen 36 = .ok (.iload_n 3, 1) := by decide +kernel
theorem dX2_paidWhen_37 : decode cX2_paidWhen 37 = .ok (.invokevirtual 162, 3) := by decide +kernel
theorem dX2_paidWhen_40 : decode cX2_paidWhen 40 = .ok (.lstore 4, 2) := by decide +kernel
theorem dX2_paidWhen_42 : decode cX2_paidWhen 42 = .ok (.aload_n 1, 1) := by decide +kernel
theorem dX2_paidWhen_43 : decode cX2_paidWhen 43 = .ok (.getfield 94, 3) := by decide +kernel
theorem dX2_paidWhen_46 : decode cX2_paidWhen 46 = .ok (.i2l, 1) := by decide +kernel
theorem dX2_paidWhen_47 : decode cX2_paidWhen 47 = .ok (.aload_n 0, 1) := by decide +kernel
theorem dX2_paidWhen_48 : decode cX2_paidWhen 48 = .ok (.invokevirtual 155, 3) := by decide +kernel
theorem dX2_paidWhen_51 : decode cX2_paidWhen 51 = .ok (.lmul, 1) := by decide +kernel
theorem dX2_paidWhen_52 : decode cX2_paidWhen 52 = .ok (.lload 4, 2) := by decide +kernel
theorem dX2_paidWhen_54 : decode cX2_paidWhen 54 = .ok (.ladd, 1) := by decide +kernel
theorem dX2_paidWhen_55 : decode cX2_paidWhen 55 = .ok (.lreturn, 1) := by decide +kernel
theorem dX2_openByOath_0 : decode cX2_openByOath 0 = .ok (.aload_n 1, 1) := by decide +kernel
theorem dX2_openByOath_1 : decode cX2_openByOath 1 = .ok (.getfield 166, 3) := by decide +kernel
theorem dX2_openByOath_4 : decode cX2_openByOath 4 = .ok (.iconst 2, 1) := by decide +kernel
theorem dX2_openByOath_5 : decode cX2_openByOath 5 = .ok (.if_icmp .ne 27, 3) := by decide +kernel
theorem dX2_openByOath_8 : decode cX2_openByOath 8 = .ok (.aload_n 1, 1) := by decide +kernel
theorem dX2_openByOath_9 : decode cX2_openByOath 9 = .ok (.getfield 95, 3) := by decide +kernel
theorem dX2_openByOath_12 : decode cX2_openByOath 12 = .ok (.i2l, 1) := by decide +kernel
theorem dX2_openByOath_13 : decode cX2_openByOath 13 = .ok (.aload_n 0, 1) := by decide +kernel
theorem dX2_openByOath_14 : decode cX2_openByOath 14 = .ok (.getfield 39, 3) := by decide +kernel
theorem dX2_openByOath_17 : decode cX2_openByOath 17 = .ok (.getfield 169, 3) := by decide +kernel
theorem dX2_openByOath_20 : decode cX2_openByOath 20 = .ok (.i2l, 1) := by decide +kernel
theorem dX2_openByOath_21 : decode cX2_openByOath 21 = .ok (.lmul, 1) := by decide +kernel
theorem dX2_openByOath_22 : decode cX2_openByOath 22 = .ok (.aload_n 0, 1) := by decide +kernel
theorem dX2_openByOath_23 : decode cX2_openByOath 23 = .ok (.getfield 39, 3) := by decide +kernel
theorem dX2_openByOath_26 : decode cX2_openByOath 26 = .ok (.getfield 149, 3) := by decide +kernel
theorem dX2_openByOath_29 : decode cX2_openByOath 29 = .ok (.i2l, 1) := by decide +kernel
theorem dX2_openByOath_30 : decode cX2_openByOath 30 = .ok (.lmul, 1) := by decide +kernel
theorem dX2_openByOath_31 : decode cX2_openByOath 31 = .ok (.lreturn, 1) := by decide +kernel
theorem dX2_openByOath_32 : decode cX2_openByOath 32 = .ok (.aload_n 1, 1) := by decide +kernel
theorem dX2_openByOath_33 : decode cX2_openByOath 33 = .ok (.getfield 166, 3) := by decide +kernel
theorem dX2_openByOath_36 : decode cX2_openByOath 36 = .ok (.iconst 1, 1) := by decide +kernel
theorem dX2_openByOath_37 : decode cX2_openByOath 37 = .ok (.if_icmp .ne 22, 3) := by decide +kernel
theorem dX2_openByOath_40 : decode cX2_openByOath 40 = .ok (.iload_n 2, 1) := by decide +kernel
theorem dX2_openByOath_41 : decode cX2_openByOath 41 = .ok (.ifCond .eq 16, 3) := by decide +kernel
theorem dX2_openByOath_44 : decode cX2_openByOath 44 = .ok (.aload_n 1, 1) := by decide +kernel
theorem dX2_openByOath_45 : decode cX2_openByOath 45 = .ok (.getfield 95, 3) := by decide +kernel
theorem dX2_openByOath_48 : decode cX2_openByOath 48 = .ok (.i2l, 1) := by decide +kernel
theorem dX2_openByOath_49 : decode cX2_openByOath 49 = .ok (.aload_n 0, 1) := by decide +kernel
theorem dX2_openByOath_50 : decode cX2_openByOath 50 = .ok (.invokevirtual 155, 3) := by decide +kernel
theorem dX2_openByOath_53 : decode cX2_openByOath 53 = .ok (.lmul, 1) := by decide +kernel
theorem dX2_openByOath_54 : decode cX2_openByOath 54 = .ok (.goto 4, 3) := by decide +kernel
theorem dX2_openByOath_57 : decode cX2_openByOath 57 = .ok (.lconst 0, 1) := by decide +kernel
theorem dX2_openByOath_58 : decode cX2_openByOath 58 = .ok (.lreturn, 1) := by decide +kernel
theorem dX2_openByOath_59 : decode cX2_openByOath 59 = .ok (.iload_n 2, 1) := by decide +kernel
theorem dX2_openByOath_60 : decode cX2_openByOath 60 = .ok (.ifCond .eq 5, 3) := by decide +kernel
theorem dX2_openByOath_63 : decode cX2_openByOath 63 = .ok (.lconst 0, 1) := by decide +kernel
theorem dX2_openByOath_64 : decode cX2_openByOath 64 = .ok (.lreturn, 1) := by decide +kernel
theorem dX2_openByOath_65 : decode cX2_openByOath 65 = .ok (.aload_n 1, 1) := by decide +kernel
theorem dX2_openByOath_66 : decode cX2_openByOath 66 = .ok (.getfield 137, 3) := by decide +kernel
theorem dX2_openByOath_69 : decode cX2_openByOath 69 = .ok (.ifCond .eq 22, 3) := by decide +kernel
theorem dX2_openByOath_72 : decode cX2_openByOath 72 = .ok (.iload_n 3, 1) := by decide +kernel
theorem dX2_openByOath_73 : decode cX2_openByOath 73 = .ok (.ifCond .eq 16, 3) := by decide +kernel
theorem dX2_openByOath_76 : decode cX2_openByOath 76 = .ok (.aload_n 1, 1) := by decide +kernel
theorem dX2_openByOath_77 : decode cX2_openByOath 77 = .ok (.getfield 95, 3) := by decide +kernel
theorem dX2_openByOath_80 : decode cX2_openByOath 80 = .ok (.i2l, 1) := by decide +kernel
theorem dX2_openByOath_81 : decode cX2_openByOath 81 = .ok (.aload_n 0, 1) := by decide +kernel
theorem dX2_openByOath_82 : decode cX2_openByOath 82 = .ok (.invokevirtual 155, 3) := by decide +kernel
theorem dX2_openByOath_85 : decode cX2_openByOath 85 = .ok (.lmul, 1) := by decide +kernel
theorem dX2_openByOath_86 : decode cX2_openByOath 86 = .ok (.goto 4, 3) := by decide +kernel
theorem dX2_openByOath_89 : decode cX2_openByOath 89 = .ok (.lconst 0, 1) := by decide +kernel
theorem dX2_openByOath_90 : decode cX2_openByOath 90 = .ok (.lreturn, 1) := by decide +kernel
theorem dX2_openByOath_91 : decode cX2_openByOath 91 = .ok (.aload_n 1, 1) := by decide +kernel
theorem dX2_openByOath_92 : decode cX2_openByOath 92 = .ok (.getfield 95, 3) := by decide +kernel
theorem dX2_openByOath_95 : decode cX2_openByOath 95 = .ok (.i2l, 1) := by decide +kernel
theorem dX2_openByOath_96 : decode cX2_openByOath 96 = .ok (.aload_n 0, 1) := by decide +kernel
theorem dX2_openByOath_97 : decode cX2_openByOath 97 = .ok (.getfield 39, 3) := by decide +kernel
theorem dX2_openByOath_100 : decode cX2_openByOath 100 = .ok (.getfield 172, 3) := by decide +kernel
theorem dX2_openByOath_103 : decode cX2_openByOath 103 = .ok (.i2l, 1) := by decide +kernel
theorem dX2_openByOath_104 : decode cX2_openByOath 104 = .ok (.lmul, 1) := by decide +kernel
theorem dX2_openByOath_105 : decode cX2_openByOath 105 = .ok (.aload_n 0, 1) := by decide +kernel
theorem dX2_openByOath_106 : decode cX2_openByOath 106 = .ok (.getfield 39, 3) := by decide +kernel
theorem dX2_openByOath_109 : decode cX2_openByOath 109 = .ok (.getfield 152, 3) := by decide +kernel
theorem dX2_openByOath_112 : decode cX2_openByOath 112 = .ok (.i2l, 1) := by decide +kernel
theorem dX2_openByOath_113 : decode cX2_openByOath 113 = .ok (.lmul, 1) := by decide +kernel
theorem dX2_openByOath_114 : decode cX2_openByOath 114 = .ok (.lreturn, 1) := by decide +kernel
theorem dX2_paidBy_0 : decode cX2_paidBy 0 = .ok (.lconst 0, 1) := by decide +kernel
theorem dX2_paidBy_1 : decode cX2_paidBy 1 = .ok (.lstore_n 2, 1) := by decide +kernel
theorem dX2_paidBy_2 : decode cX2_paidBy 2 = .ok (.iconst 0, 1) := by decide +kernel
theorem dX2_paidBy_3 : decode cX2_paidBy 3 = .ok (.istore 4, 2) := by decide +kernel
theorem dX2_paidBy_5 : decode cX2_paidBy 5 = .ok (.iload 4, 2) := by decide +kernel
theorem dX2_paidBy_7 : decode cX2_paidBy 7 = .ok (.aload_n 0, 1) := by decide +kernel
theorem dX2_paidBy_8 : decode cX2_paidBy 8 = .ok (.getfield 50, 3) := by decide +kernel
theorem dX2_paidBy_11 : decode cX2_paidBy 11 = .ok (.if_icmp .ge 39, 3) := by decide +kernel
theorem dX2_paidBy_14 : decode cX2_paidBy 14 = .ok (.lload_n 2, 1) := by decide +kernel
theorem dX2_paidBy_15 : decode cX2_paidBy 15 = .ok (.aload_n 0, 1) := by decide +kernel
theorem dX2_paidBy_16 : decode cX2_paidBy 16 = .ok (.aload_n 0, 1) := by decide +kernel
theorem dX2_paidBy_17 : decode cX2_paidBy 17 = .ok (.getfield 11, 3) := by decide +kernel
theorem dX2_paidBy_20 : decode cX2_paidBy 20 = .ok (.iload 4, 2) := by decide +kernel
theorem dX2_paidBy_22 : decode cX2_paidBy 22 = .ok (.aaload, 1) := by decide +kernel
theorem dX2_paidBy_23 : decode cX2_paidBy 23 = .ok (.iload_n 1, 1) := by decide +kernel
theorem dX2_paidBy_24 : decode cX2_paidBy 24 = .ok (.iload 4, 2) := by decide +kernel
theorem dX2_paidBy_26 : decode cX2_paidBy 26 = .ok (.ishr, 1) := by decide +kernel
theorem dX2_paidBy_27 : decode cX2_paidBy 27 = .ok (.iconst 1, 1) := by decide +kernel
theorem dX2_paidBy_28 : decode cX2_paidBy 28 = .ok (.iand, 1) := by decide +kernel
theorem dX2_paidBy_29 : decode cX2_paidBy 29 = .ok (.iconst 1, 1) := by decide +kernel
theorem dX2_paidBy_30 : decode cX2_paidBy 30 = .ok (.if_icmp .ne 7, 3) := by decide +kernel
theorem dX2_paidBy_33 : decode cX2_paidBy 33 = .ok (.iconst 1, 1) := by decide +kernel
theorem dX2_paidBy_34 : decode cX2_paidBy 34 = .ok (.goto 4, 3) := by decide +kernel
theorem dX2_paidBy_37 : decode cX2_paidBy 37 = .ok (.iconst 0, 1) := by decide +kernel
theorem dX2_paidBy_38 : decode cX2_paidBy 38 = .ok (.iconst 1, 1) := by decide +kernel
theorem dX2_paidBy_39 : decode cX2_paidBy 39 = .ok (.invokevirtual 175, 3) := by decide +kernel
theorem dX2_paidBy_42 : decode cX2_paidBy 42 = .ok (.ladd, 1) := by decide +kernel
theorem dX2_paidBy_43 : decode cX2_paidBy 43 = .ok (.lstore_n 2, 1) := by decide +kernel
theorem dX2_paidBy_44 : decode cX2_paidBy 44 = .ok (.iinc 4 1, 3) := by decide +kernel
theorem dX2_paidBy_47 : decode cX2_paidBy 47 = .ok (.goto (-42), 3) := by decide +kernel
theorem dX2_paidBy_50 : decode cX2_paidBy 50 = .ok (.lload_n 2, 1) := by decide +kernel
theorem dX2_paidBy_51 : decode cX2_paidBy 51 = .ok (.lreturn, 1) := by decide +kernel
theorem dX2_paidAtEnd_0 : decode cX2_paidAtEnd 0 = .ok (.lconst 0, 1) := by decide +kernel
theorem dX2_paidAtEnd_1 : decode cX2_paidAtEnd 1 = .ok (.lstore_n 2, 1) := by decide +kernel
theorem dX2_paidAtEnd_2 : decode cX2_paidAtEnd 2 = .ok (.iconst 0, 1) := by decide +kernel
theorem dX2_paidAtEnd_3 : decode cX2_paidAtEnd 3 = .ok (.istore 4, 2) := by decide +kernel
theorem dX2_paidAtEnd_5 : decode cX2_paidAtEnd 5 = .ok (.iload 4, 2) := by decide +kernel
theorem dX2_paidAtEnd_7 : decode cX2_paidAtEnd 7 = .ok (.aload_n 0, 1) := by decide +kernel
theorem dX2_paidAtEnd_8 : decode cX2_paidAtEnd 8 = .ok (.getfield 50, 3) := by decide +kernel
theorem dX2_paidAtEnd_11 : decode cX2_paidAtEnd 11 = .ok (.if_icmp .ge 63, 3) := by decide +kernel
theorem dX2_paidAtEnd_14 : decode cX2_paidAtEnd 14 = .ok (.aload_n 0, 1) := by decide +kernel
theorem dX2_paidAtEnd_15 : decode cX2_paidAtEnd 15 = .ok (.aload_n 0, 1) := by decide +kernel
theorem dX2_paidAtEnd_16 : decode cX2_paidAtEnd 16 = .ok (.getfield 11, 3) := by decide +kernel
theorem dX2_paidAtEnd_19 : decode cX2_paidAtEnd 19 = .ok (.iload 4, 2) := by decide +kernel
theorem dX2_paidAtEnd_21 : decode cX2_paidAtEnd 21 = .ok (.aaload, 1) := by decide +kernel
theorem dX2_paidAtEnd_22 : decode cX2_paidAtEnd 22 = .ok (.iconst 1, 1) := by decide +kernel
theorem dX2_paidAtEnd_23 : decode cX2_paidAtEnd 23 = .ok (.iconst 1, 1) := by decide +kernel
theorem dX2_paidAtEnd_24 : decode cX2_paidAtEnd 24 = .ok (.invokevirtual 175, 3) := by decide +kernel
theorem dX2_paidAtEnd_27 : decode cX2_paidAtEnd 27 = .ok (.lstore 5, 2) := by decide +kernel
theorem dX2_paidAtEnd_29 : decode cX2_paidAtEnd 29 = .ok (.aload_n 0, 1) := by decide +kernel
theorem dX2_paidAtEnd_30 : decode cX2_paidAtEnd 30 = .ok (.aload_n 0, 1) := by decide +kernel
theorem dX2_paidAtEnd_31 : decode cX2_paidAtEnd 31 = .ok (.getfield 11, 3) := by decide +kernel
theorem dX2_paidAtEnd_34 : decode cX2_paidAtEnd 34 = .ok (.iload 4, 2) := by decide +kernel
theorem dX2_paidAtEnd_36 : decode cX2_paidAtEnd 36 = .ok (.aaload, 1) := by decide +kernel
theorem dX2_paidAtEnd_37 : decode cX2_paidAtEnd 37 = .ok (.iconst 0, 1) := by decide +kernel
theorem dX2_paidAtEnd_38 : decode cX2_paidAtEnd 38 = .ok (.iconst 1, 1) := by decide +kernel
theorem dX2_paidAtEnd_39 : decode cX2_paidAtEnd 39 = .ok (.invokevirtual 175, 3) := by decide +kernel
theorem dX2_paidAtEnd_42 : decode cX2_paidAtEnd 42 = .ok (.lstore 7, 2) := by decide +kernel
theorem dX2_paidAtEnd_44 : decode cX2_paidAtEnd 44 = .ok (.lload_n 2, 1) := by decide +kernel
theorem dX2_paidAtEnd_45 : decode cX2_paidAtEnd 45 = .ok (.iload_n 1, 1) := by decide +kernel
theorem dX2_paidAtEnd_46 : decode cX2_paidAtEnd 46 = .ok (.ifCond .eq 13, 3) := by decide +kernel
theorem dX2_paidAtEnd_49 : decode cX2_paidAtEnd 49 = .ok (.lload 5, 2) := by decide +kernel
theorem dX2_paidAtEnd_51 : decode cX2_paidAtEnd 51 = .ok (.lload 7, 2) := by decide +kernel
theorem dX2_paidAtEnd_53 : decode cX2_paidAtEnd 53 = .ok (.invokestatic 178, 3) := by decide +kernel
theorem dX2_paidAtEnd_56 : decode cX2_paidAtEnd 56 = .ok (.goto 10, 3) := by decide +kernel
theorem dX2_paidAtEnd_59 : decode cX2_paidAtEnd 59 = .ok (.lload 5, 2) := by decide +kernel
theorem dX2_paidAtEnd_61 : decode cX2_paidAtEnd 61 = .ok (.lload 7, 2) := by decide +kernel
theorem dX2_paidAtEnd_63 : decode cX2_paidAtEnd 63 = .ok (.invokestatic 182, 3) := by decide +kernel
theorem dX2_paidAtEnd_66 : decode cX2_paidAtEnd 66 = .ok (.ladd, 1) := by decide +kernel
theorem dX2_paidAtEnd_67 : decode cX2_paidAtEnd 67 = .ok (.lstore_n 2, 1) := by decide +kernel
theorem dX2_paidAtEnd_68 : decode cX2_paidAtEnd 68 = .ok (.iinc 4 1, 3) := by decide +kernel
theorem dX2_paidAtEnd_71 : decode cX2_paidAtEnd 71 = .ok (.goto (-66), 3) := by decide +kernel
theorem dX2_paidAtEnd_74 : decode cX2_paidAtEnd 74 = .ok (.lload_n 2, 1) := by decide +kernel
theorem dX2_paidAtEnd_75 : decode cX2_paidAtEnd 75 = .ok (.lreturn, 1) := by decide +kernel
theorem dX2_paidInTruth_0 : decode cX2_paidInTruth 0 = .ok (.lconst 0, 1) := by decide +kernel
theorem dX2_paidInTruth_1 : decode cX2_paidInTruth 1 = .ok (.lstore_n 1, 1) := by decide +kernel
theorem dX2_paidInTruth_2 : decode cX2_paidInTruth 2 = .ok (.iconst 0, 1) := by decide +kernel
theorem dX2_paidInTruth_3 : decode cX2_paidInTruth 3 = .ok (.istore_n 3, 1) := by decide +kernel
theorem dX2_paidInTruth_4 : decode cX2_paidInTruth 4 = .ok (.iload_n 3, 1) := by decide +kernel
theorem dX2_paidInTruth_5 : decode cX2_paidInTruth 5 = .ok (.aload_n 0, 1) := by decide +kernel
theorem dX2_paidInTruth_6 : decode cX2_paidInTruth 6 = .ok (.getfield 50, 3) := by decide +kernel
theorem dX2_paidInTruth_9 : decode cX2_paidInTruth 9 = .ok (.if_icmp .ge 36, 3) := by decide +kernel
theorem dX2_paidInTruth_12 : decode cX2_paidInTruth 12 = .ok (.aload_n 0, 1) := by decide +kernel
theorem dX2_paidInTruth_13 : decode cX2_paidInTruth 13 = .ok (.getfield 11, 3) := by decide +kernel
theorem dX2_paidInTruth_16 : decode cX2_paidInTruth 16 = .ok (.iload_n 3, 1) := by decide +kernel
theorem dX2_paidInTruth_17 : decode cX2_paidInTruth 17 = .ok (.aaload, 1) := by decide +kernel
theorem dX2_paidInTruth_18 : decode cX2_paidInTruth 18 = .ok (.astore 4, 2) := by decide +kernel
theorem dX2_paidInTruth_20 : decode cX2_paidInTruth 20 = .ok (.lload_n 1, 1) := by decide +kernel
theorem dX2_paidInTruth_21 : decode cX2_paidInTruth 21 = .ok (.aload_n 0, 1) := by decide +kernel
theorem dX2_paidInTruth_22 : decode cX2_paidInTruth 22 = .ok (.aload 4, 2) := by decide +kernel
theorem dX2_paidInTruth_24 : decode cX2_paidInTruth 24 = .ok (.aload 4, 2) := by decide +kernel
theorem dX2_paidInTruth_26 : decode cX2_paidInTruth 26 = .ok (.invokevirtual 184, 3) := by decide +kernel
theorem dX2_paidInTruth_29 : decode cX2_paidInTruth 29 = .ok (.aload 4, 2) := by decide +kernel
theorem dX2_paidInTruth_31 : decode cX2_paidInTruth 31 = .ok (.getfield 105, 3) := by decide +kernel
theorem dX2_paidInTruth_34 : decode cX2_paidInTruth 34 = .ok (.invokevirtual 175, 3) := by decide +kernel
theorem dX2_paidInTruth_37 : decode cX2_paidInTruth 37 = .ok (.ladd, 1) := by decide +kernel
theorem dX2_paidInTruth_38 : decode cX2_paidInTruth 38 = .ok (.lstore_n 1, 1) := by decide +kernel
theorem dX2_paidInTruth_39 : decode cX2_paidInTruth 39 = .ok (.iinc 3 1, 3) := by decide +kernel
theorem dX2_paidInTruth_42 : decode cX2_paidInTruth 42 = .ok (.goto (-38), 3) := by decide +kernel
theorem dX2_paidInTruth_45 : decode cX2_paidInTruth 45 = .ok (.lload_n 1, 1) := by decide +kernel
theorem dX2_paidInTruth_46 : decode cX2_paidInTruth 46 = .ok (.lreturn, 1) := by decide +kernel
theorem dX2_choicesInTruth_0 : decode cX2_choicesInTruth 0 = .ok (.iconst 0, 1) := by decide +kernel
theorem dX2_choicesInTruth_1 : decode cX2_choicesInTruth 1 = .ok (.istore_n 1, 1) := by decide +kernel
theorem dX2_choicesInTruth_2 : decode cX2_choicesInTruth 2 = .ok (.iconst 0, 1) := by decide +kernel
theorem dX2_choicesInTruth_3 : decode cX2_choicesInTruth 3 = .ok (.istore_n 2, 1) := by decide +kernel
theorem dX2_choicesInTruth_4 : decode cX2_choicesInTruth 4 = .ok (.iload_n 2, 1) := by decide +kernel
theorem dX2_choicesInTruth_5 : decode cX2_choicesInTruth 5 = .ok (.aload_n 0, 1) := by decide +kernel
theorem dX2_choicesInTruth_6 : decode cX2_choicesInTruth 6 = .ok (.getfield 50, 3) := by decide +kernel
theorem dX2_choicesInTruth_9 : decode cX2_choicesInTruth 9 = .ok (.if_icmp .ge 27, 3) := by decide +kernel
theorem dX2_choicesInTruth_12 : decode cX2_choicesInTruth 12 = .ok (.aload_n 0, 1) := by decide +kernel
theorem dX2_choicesInTruth_13 : decode cX2_choicesInTruth 13 = .ok (.getfield 11, 3) := by decide +kernel
theorem dX2_choicesInTruth_16 : decode cX2_choicesInTruth 16 = .ok (.iload_n 2, 1) := by decide +kernel
theorem dX2_choicesInTruth_17 : decode cX2_choicesInTruth 17 = .ok (.aaload, 1) := by decide +kernel
theorem dX2_choicesInTruth_18 : decode cX2_choicesInTruth 18 = .ok (.invokevirtual 184, 3) := by decide +kernel
theorem dX2_choicesInTruth_21 : decode cX2_choicesInTruth 21 = .ok (.ifCond .eq 9, 3) := by decide +kernel
theorem dX2_choicesInTruth_24 : decode cX2_choicesInTruth 24 = .ok (.iload_n 1, 1) := by decide +kernel
theorem dX2_choicesInTruth_25 : decode cX2_choicesInTruth 25 = .ok (.iconst 1, 1) := by decide +kernel
theorem dX2_choicesInTruth_26 : decode cX2_choicesInTruth 26 = .ok (.iload_n 2, 1) := by decide +kernel
theorem dX2_choicesInTruth_27 : decode cX2_choicesInTruth 27 = .ok (.ishl, 1) := by decide +kernel
theorem dX2_choicesInTruth_28 : decode cX2_choicesInTruth 28 = .ok (.ior, 1) := by decide +kernel
theorem dX2_choicesInTruth_29 : decode cX2_choicesInTruth 29 = .ok (.istore_n 1, 1) := by decide +kernel
theorem dX2_choicesInTruth_30 : decode cX2_choicesInTruth 30 = .ok (.iinc 2 1, 3) := by decide +kernel
theorem dX2_choicesInTruth_33 : decode cX2_choicesInTruth 33 = .ok (.goto (-29), 3) := by decide +kernel
theorem dX2_choicesInTruth_36 : decode cX2_choicesInTruth 36 = .ok (.iload_n 1, 1) := by decide +kernel
theorem dX2_choicesInTruth_37 : decode cX2_choicesInTruth 37 = .ok (.ireturn, 1) := by decide +kernel
theorem dX2_seekBest_0 : decode cX2_seekBest 0 = .ok (.aload_n 0, 1) := by decide +kernel
theorem dX2_seekBest_1 : decode cX2_seekBest 1 = .ok (.invokevirtual 187, 3) := by decide +kernel
theorem dX2_seekBest_4 : decode cX2_seekBest 4 = .ok (.aload_n 0, 1) := by decide +kernel
theorem dX2_seekBest_5 : decode cX2_seekBest 5 = .ok (.invokevirtual 190, 3) := by decide +kernel
theorem dX2_seekBest_8 : decode cX2_seekBest 8 = .ok (.istore_n 1, 1) := by decide +kernel
theorem dX2_seekBest_9 : decode cX2_seekBest 9 = .ok (.iconst 0, 1) := by decide +kernel
theorem dX2_seekBest_10 : decode cX2_seekBest 10 = .ok (.istore_n 2, 1) := by decide +kernel
theorem dX2_seekBest_11 : decode cX2_seekBest 11 = .ok (.iload_n 2, 1) := by decide +kernel
theorem dX2_seekBest_12 : decode cX2_seekBest 12 = .ok (.iload_n 1, 1) := by decide +kernel
theorem dX2_seekBest_13 : decode cX2_seekBest 13 = .ok (.if_icmp .ge 72, 3) := by decide +kernel
theorem dX2_seekBest_16 : decode cX2_seekBest 16 = .ok (.aload_n 0, 1) := by decide +kernel
theorem dX2_seekBest_17 : decode cX2_seekBest 17 = .ok (.iload_n 2, 1) := by decide +kernel
theorem dX2_seekBest_18 : decode cX2_seekBest 18 = .ok (.invokevirtual 194, 3) := by decide +kernel
theorem dX2_seekBest_21 : decode cX2_seekBest 21 = .ok (.aload_n 0, 1) := by decide +kernel
theorem dX2_seekBest_22 : decode cX2_seekBest 22 = .ok (.invokevirtual 198, 3) := by decide +kernel
theorem dX2_seekBest_25 : decode cX2_seekBest 25 = .ok (.lstore_n 3, 1) := by decide +kernel
theorem dX2_seekBest_26 : decode cX2_seekBest 26 = .ok (.aload_n 0, 1) := by decide +kernel
theorem dX2_seekBest_27 : decode cX2_seekBest 27 = .ok (.invokevirtual 201, 3) := by decide +kernel
theorem dX2_seekBest_30 : decode cX2_seekBest 30 = .ok (.istore 5, 2) := by decide +kernel
theorem dX2_seekBest_32 : decode cX2_seekBest 32 = .ok (.iload_n 2, 1) := by decide +kernel
theorem dX2_seekBest_33 : decode cX2_seekBest 33 = .ok (.ifCond .eq 30, 3) := by decide +kernel
theorem dX2_seekBest_36 : decode cX2_seekBest 36 = .ok (.lload_n 3, 1) := by decide +kernel
theorem dX2_seekBest_37 : decode cX2_seekBest 37 = .ok (.aload_n 0, 1) := by decide +kernel
theorem dX2_seekBest_38 : decode cX2_seekBest 38 = .ok (.getfield 204, 3) := by decide +kernel
theorem dX2_seekBest_41 : decode cX2_seekBest 41 = .ok (.lcmp, 1) := by decide +kernel
theorem dX2_seekBest_42 : decode cX2_seekBest 42 = .ok (.ifCond .lt 21, 3) := by decide +kernel
theorem dX2_seekBest_45 : decode cX2_seekBest 45 = .ok (.lload_n 3, 1) := by decide +kernel
theorem dX2_seekBest_46 : decode cX2_seekBest 46 = .ok (.aload_n 0, 1) := by decide +kernel
theorem dX2_seekBest_47 : decode cX2_seekBest 47 = .ok (.getfield 204, 3) := by decide +kernel
theorem dX2_seekBest_50 : decode cX2_seekBest 50 = .ok (.lcmp, 1) := by decide +kernel
theorem dX2_seekBest_51 : decode cX2_seekBest 51 = .ok (.ifCond .ne 28, 3) := by decide +kernel
theorem dX2_seekBest_54 : decode cX2_seekBest 54 = .ok (.iload 5, 2) := by decide +kernel
theorem dX2_seekBest_56 : decode cX2_seekBest 56 = .ok (.aload_n 0, 1) := by decide +kernel
theorem dX2_seekBest_57 : decode cX2_seekBest 57 = .ok (.getfield 208, 3) := by decide +kernel
theorem dX2_seekBest_60 : decode cX2_seekBest 60 = .ok (.if_icmp .ge 19, 3) := by decide +kernel
theorem dX2_seekBest_63 : decode cX2_seekBest 63 = .ok (.aload_n 0, 1) := by decide +kernel
theorem dX2_seekBest_64 : decode cX2_seekBest 64 = .ok (.iload_n 2, 1) := by decide +kernel
theorem dX2_seekBest_65 : decode cX2_seekBest 65 = .ok (.putfield 211, 3) := by decide +kernel
theorem dX2_seekBest_68 : decode cX2_seekBest 68 = .ok (.aload_n 0, 1) := by decide +kernel
theorem dX2_seekBest_69 : decode cX2_seekBest 69 = .ok (.lload_n 3, 1) := by decide +kernel
theorem dX2_seekBest_70 : decode cX2_seekBest 70 = .ok (.putfield 204, 3) := by decide +kernel
theorem dX2_seekBest_73 : decode cX2_seekBest 73 = .ok (.aload_n 0, 1) := by decide +kernel
theorem dX2_seekBest_74 : decode cX2_seekBest 74 = .ok (.iload 5, 2) := by decide +kernel
theorem dX2_seekBest_76 : decode cX2_seekBest 76 = .ok (.putfield 208, 3) := by decide +kernel
theorem dX2_seekBest_79 : decode cX2_seekBest 79 = .ok (.iinc 2 1, 3) := by decide +kernel
theorem dX2_seekBest_82 : decode cX2_seekBest 82 = .ok (.goto (-71), 3) := by decide +kernel
theorem dX2_seekBest_85 : decode cX2_seekBest 85 = .ok (.return_, 1) := by decide +kernel
theorem dX2_oathlessRows_0 : decode cX2_oathlessRows 0 = .ok (.iconst 0, 1) := by decide +kernel
theorem dX2_oathlessRows_1 : decode cX2_oathlessRows 1 = .ok (.istore_n 1, 1) := by decide +kernel
theorem dX2_oathlessRows_2 : decode cX2_oathlessRows 2 = .ok (.aload_n 0, 1) := by decide +kernel
theorem dX2_oathlessRows_3 : decode cX2_oathlessRows 3 = .ok (.invokevirtual 190, 3) := by decide +kernel
theorem dX2_oathlessRows_6 : decode cX2_oathlessRows 6 = .ok (.istore_n 2, 1) := by decide +kernel
theorem dX2_oathlessRows_7 : decode cX2_oathlessRows 7 = .ok (.iconst 0, 1) := by decide +kernel
theorem dX2_oathlessRows_8 : decode cX2_oathlessRows 8 = .ok (.istore_n 3, 1) := by decide +kernel
theorem dX2_oathlessRows_9 : decode cX2_oathlessRows 9 = .ok (.iload_n 3, 1) := by decide +kernel
theorem dX2_oathlessRows_10 : decode cX2_oathlessRows 10 = .ok (.iload_n 2, 1) := by decide +kernel
theorem dX2_oathlessRows_11 : decode cX2_oathlessRows 11 = .ok (.if_icmp .ge 36, 3) := by decide +kernel
theorem dX2_oathlessRows_14 : decode cX2_oathlessRows 14 = .ok (.aload_n 0, 1) := by decide +kernel
theorem dX2_oathlessRows_15 : decode cX2_oathlessRows 15 = .ok (.iload_n 3, 1) := by decide +kernel
theorem dX2_oathlessRows_16 : decode cX2_oathlessRows 16 = .ok (.invokevirtual 194, 3) := by decide +kernel
theorem dX2_oathlessRows_19 : decode cX2_oathlessRows 19 = .ok (.aload_n 0, 1) := by decide +kernel
theorem dX2_oathlessRows_20 : decode cX2_oathlessRows 20 = .ok (.invokevirtual 214, 3) := by decide +kernel
theorem dX2_oathlessRows_23 : decode cX2_oathlessRows 23 = .ok (.ifCond .ne 18, 3) := by decide +kernel
theorem dX2_oathlessRows_26 : decode cX2_oathlessRows 26 = .ok (.aload_n 0, 1) := by decide +kernel
theorem dX2_oathlessRows_27 : decode cX2_oathlessRows 27 = .ok (.invokevirtual 198, 3) := by decide +kernel
theorem dX2_oathlessRows_30 : decode cX2_oathlessRows 30 = .ok (.aload_n 0, 1) := by decide +kernel
theorem dX2_oathlessRows_31 : decode cX2_oathlessRows 31 = .ok (.getfield 204, 3) := by decide +kernel
theorem dX2_oathlessRows_34 : decode cX2_oathlessRows 34 = .ok (.lcmp, 1) := by decide +kernel
theorem dX2_oathlessRows_35 : decode cX2_oathlessRows 35 = .ok (.ifCond .gt 6, 3) := by decide +kernel
theorem dX2_oathlessRows_38 : decode cX2_oathlessRows 38 = .ok (.iinc 1 1, 3) := by decide +kernel
theorem dX2_oathlessRows_41 : decode cX2_oathlessRows 41 = .ok (.iinc 3 1, 3) := by decide +kernel
theorem dX2_oathlessRows_44 : decode cX2_oathlessRows 44 = .ok (.goto (-35), 3) := by decide +kernel
theorem dX2_oathlessRows_47 : decode cX2_oathlessRows 47 = .ok (.iload_n 1, 1) := by decide +kernel
theorem dX2_oathlessRows_48 : decode cX2_oathlessRows 48 = .ok (.ireturn, 1) := by decide +kernel
theorem dX2_weighAnswers_0 : decode cX2_weighAnswers 0 = .ok (.iconst 0, 1) := by decide +kernel
theorem dX2_weighAnswers_1 : decode cX2_weighAnswers 1 = .ok (.istore_n 1, 1) := by decide +kernel
theorem dX2_weighAnswers_2 : decode cX2_weighAnswers 2 = .ok (.iload_n 1, 1) := by decide +kernel
theorem dX2_weighAnswers_3 : decode cX2_weighAnswers 3 = .ok (.aload_n 0, 1) := by decide +kernel
theorem dX2_weighAnswers_4 : decode cX2_weighAnswers 4 = .ok (.getfield 50, 3) := by decide +kernel
theorem dX2_weighAnswers_7 : decode cX2_weighAnswers 7 = .ok (.if_icmp .ge 66, 3) := by decide +kernel
theorem dX2_weighAnswers_10 : decode cX2_weighAnswers 10 = .ok (.iload_n 1, 1) := by decide +kernel
theorem dX2_weighAnswers_11 : decode cX2_weighAnswers 11 = .ok (.iconst 4, 1) := by decide +kernel
theorem dX2_weighAnswers_12 : decode cX2_weighAnswers 12 = .ok (.if_icmp .ge 61, 3) := by decide +kernel
theorem dX2_weighAnswers_15 : decode cX2_weighAnswers 15 = .ok (.aload_n 0, 1) := by decide +kernel
theorem dX2_weighAnswers_16 : decode cX2_weighAnswers 16 = .ok (.getfield 34, 3) := by decide +kernel
theorem dX2_weighAnswers_19 : decode cX2_weighAnswers 19 = .ok (.aload_n 0, 1) := by decide +kernel
theorem dX2_weighAnswers_20 : decode cX2_weighAnswers 20 = .ok (.getfield 25, 3) := by decide +kernel
theorem dX2_weighAnswers_23 : decode cX2_weighAnswers 23 = .ok (.iload_n 1, 1) := by decide +kernel
theorem dX2_weighAnswers_24 : decode cX2_weighAnswers 24 = .ok (.aaload, 1) := by decide +kernel
theorem dX2_weighAnswers_25 : decode cX2_weighAnswers 25 = .ok (.invokevirtual 53, 3) := by decide +kernel
theorem dX2_weighAnswers_28 : decode cX2_weighAnswers 28 = .ok (.iconst 0, 1) := by decide +kernel
theorem dX2_weighAnswers_29 : decode cX2_weighAnswers 29 = .ok (.istore_n 2, 1) := by decide +kernel
theorem dX2_weighAnswers_30 : decode cX2_weighAnswers 30 = .ok (.iload_n 2, 1) := by decide +kernel
theorem dX2_weighAnswers_31 : decode cX2_weighAnswers 31 = .ok (.iconst 5, 1) := by decide +kernel
theorem dX2_weighAnswers_32 : decode cX2_weighAnswers 32 = .ok (.if_icmp .ge 35, 3) := by decide +kernel
theorem dX2_weighAnswers_35 : decode cX2_weighAnswers 35 = .ok (.aload_n 0, 1) := by decide +kernel
theorem dX2_weighAnswers_36 : decode cX2_weighAnswers 36 = .ok (.getfield 34, 3) := by decide +kernel
theorem dX2_weighAnswers_39 : decode cX2_weighAnswers 39 = .ok (.iload_n 2, 1) := by decide +kernel
theorem dX2_weighAnswers_40 : decode cX2_weighAnswers 40 = .ok (.invokevirtual 217, 3) := by decide +kernel
theorem dX2_weighAnswers_43 : decode cX2_weighAnswers 43 = .ok (.aload_n 0, 1) := by decide +kernel
theorem dX2_weighAnswers_44 : decode cX2_weighAnswers 44 = .ok (.aload_n 0, 1) := by decide +kernel
theorem dX2_weighAnswers_45 : decode cX2_weighAnswers 45 = .ok (.getfield 34, 3) := by decide +kernel
theorem dX2_weighAnswers_48 : decode cX2_weighAnswers 48 = .ok (.aload_n 0, 1) := by decide +kernel
theorem dX2_weighAnswers_49 : decode cX2_weighAnswers 49 = .ok (.getfield 20, 3) := by decide +kernel
theorem dX2_weighAnswers_52 : decode cX2_weighAnswers 52 = .ok (.iload_n 1, 1) := by decide +kernel
theorem dX2_weighAnswers_53 : decode cX2_weighAnswers 53 = .ok (.iconst 5, 1) := by decide +kernel
theorem dX2_weighAnswers_54 : decode cX2_weighAnswers 54 = .ok (.imul, 1) := by decide +kernel
theorem dX2_weighAnswers_55 : decode cX2_weighAnswers 55 = .ok (.iload_n 2, 1) := by decide +kernel
theorem dX2_weighAnswers_56 : decode cX2_weighAnswers 56 = .ok (.iadd, 1) := by decide +kernel
theorem dX2_weighAnswers_57 : decode cX2_weighAnswers 57 = .ok (.aaload, 1) := by decide +kernel
theorem dX2_weighAnswers_58 : decode cX2_weighAnswers 58 = .ok (.invokevirtual 57, 3) := by decide +kernel
theorem dX2_weighAnswers_61 : decode cX2_weighAnswers 61 = .ok (.iinc 2 1, 3) := by decide +kernel
theorem dX2_weighAnswers_64 : decode cX2_weighAnswers 64 = .ok (.goto (-34), 3) := by decide +kernel
theorem dX2_weighAnswers_67 : decode cX2_weighAnswers 67 = .ok (.iinc 1 1, 3) := by decide +kernel
theorem dX2_weighAnswers_70 : decode cX2_weighAnswers 70 = .ok (.goto (-68), 3) := by decide +kernel
theorem dX2_weighAnswers_73 : decode cX2_weighAnswers 73 = .ok (.return_, 1) := by decide +kernel
theorem dX2_rowCount_0 : decode cX2_rowCount 0 = .ok (.iconst 1, 1) := by decide +kernel
theorem dX2_rowCount_1 : decode cX2_rowCount 1 = .ok (.istore_n 1, 1) := by decide +kernel
theorem dX2_rowCount_2 : decode cX2_rowCount 2 = .ok (.iconst 0, 1) := by decide +kernel
theorem dX2_rowCount_3 : decode cX2_rowCount 3 = .ok (.istore_n 2, 1) := by decide +kernel
theorem dX2_rowCount_4 : decode cX2_rowCount 4 = .ok (.iload_n 2, 1) := by decide +kernel
theorem dX2_rowCount_5 : decode cX2_rowCount 5 = .ok (.aload_n 0, 1) := by decide +kernel
theorem dX2_rowCount_6 : decode cX2_rowCount 6 = .ok (.getfield 50, 3) := by decide +kernel
theorem dX2_rowCount_9 : decode cX2_rowCount 9 = .ok (.if_icmp .ge 18, 3) := by decide +kernel
theorem dX2_rowCount_12 : decode cX2_rowCount 12 = .ok (.iload_n 2, 1) := by decide +kernel
theorem dX2_rowCount_13 : decode cX2_rowCount 13 = .ok (.iconst 4, 1) := by decide +kernel
theorem dX2_rowCount_14 : decode cX2_rowCount 14 = .ok (.if_icmp .ge 13, 3) := by decide +kernel
theorem dX2_rowCount_17 : decode cX2_rowCount 17 = .ok (.iload_n 1, 1) := by decide +kernel
theorem dX2_rowCount_18 : decode cX2_rowCount 18 = .ok (.iconst 5, 1) := by decide +kernel
theorem dX2_rowCount_19 : decode cX2_rowCount 19 = .ok (.imul, 1) := by decide +kernel
theorem dX2_rowCount_20 : decode cX2_rowCount 20 = .ok (.istore_n 1, 1) := by decide +kernel
theorem dX2_rowCount_21 : decode cX2_rowCount 21 = .ok (.iinc 2 1, 3) := by decide +kernel
theorem dX2_rowCount_24 : decode cX2_rowCount 24 = .ok (.goto (-20), 3) := by decide +kernel
theorem dX2_rowCount_27 : decode cX2_rowCount 27 = .ok (.iload_n 1, 1) := by decide +kernel
theorem dX2_rowCount_28 : decode cX2_rowCount 28 = .ok (.ireturn, 1) := by decide +kernel
theorem dX2_answerIn_0 : decode cX2_answerIn 0 = .ok (.iload_n 1, 1) := by decide +kernel
theorem dX2_answerIn_1 : decode cX2_answerIn 1 = .ok (.istore_n 3, 1) := by decide +kernel
theorem dX2_answerIn_2 : decode cX2_answerIn 2 = .ok (.aload_n 0, 1) := by decide +kernel
theorem dX2_answerIn_3 : decode cX2_answerIn 3 = .ok (.getfield 50, 3) := by decide +kernel
theorem dX2_answerIn_6 : decode cX2_answerIn 6 = .ok (.iconst 1, 1) := by decide +kernel
theorem dX2_answerIn_7 : decode cX2_answerIn 7 = .ok (.isub, 1) := by decide +kernel
theorem dX2_answerIn_8 : decode cX2_answerIn 8 = .ok (.istore 4, 2) := by decide +kernel
theorem dX2_answerIn_10 : decode cX2_answerIn 10 = .ok (.iload 4, 2) := by decide +kernel
theorem dX2_answerIn_12 : decode cX2_answerIn 12 = .ok (.iload_n 2, 1) := by decide +kernel
theorem dX2_answerIn_13 : decode cX2_answerIn 13 = .ok (.if_icmp .le 13, 3) := by decide +kernel
theorem dX2_answerIn_16 : decode cX2_answerIn 16 = .ok (.iload_n 3, 1) := by decide +kernel
theorem dX2_answerIn_17 : decode cX2_answerIn 17 = .ok (.iconst 5, 1) := by decide +kernel
theorem dX2_answerIn_18 : decode cX2_answerIn 18 = .ok (.idiv, 1) := by decide +kernel
theorem dX2_answerIn_19 : decode cX2_answerIn 19 = .ok (.istore_n 3, 1) := by decide +kernel
theorem dX2_answerIn_20 : decode cX2_answerIn 20 = .ok (.iinc 4 (-1), 3) := by decide +kernel
theorem dX2_answerIn_23 : decode cX2_answerIn 23 = .ok (.goto (-13), 3) := by decide +kernel
theorem dX2_answerIn_26 : decode cX2_answerIn 26 = .ok (.iload_n 3, 1) := by decide +kernel
theorem dX2_answerIn_27 : decode cX2_answerIn 27 = .ok (.iconst 5, 1) := by decide +kernel
theorem dX2_answerIn_28 : decode cX2_answerIn 28 = .ok (.irem, 1) := by decide +kernel
theorem dX2_answerIn_29 : decode cX2_answerIn 29 = .ok (.ireturn, 1) := by decide +kernel
theorem dX2_answerBy_0 : decode cX2_answerBy 0 = .ok (.iload_n 1, 1) := by decide +kernel
theorem dX2_answerBy_1 : decode cX2_answerBy 1 = .ok (.istore_n 2, 1) := by decide +kernel
theorem dX2_answerBy_2 : decode cX2_answerBy 2 = .ok (.aload_n 0, 1) := by decide +kernel
theorem dX2_answerBy_3 : decode cX2_answerBy 3 = .ok (.getfield 50, 3) := by decide +kernel
theorem dX2_answerBy_6 : decode cX2_answerBy 6 = .ok (.iconst 4, 1) := by decide +kernel
theorem dX2_answerBy_7 : decode cX2_answerBy 7 = .ok (.invokestatic 85, 3) := by decide +kernel
theorem dX2_answerBy_10 : decode cX2_answerBy 10 = .ok (.iconst 1, 1) := by decide +kernel
theorem dX2_answerBy_11 : decode cX2_answerBy 11 = .ok (.isub, 1) := by decide +kernel
theorem dX2_answerBy_12 : decode cX2_answerBy 12 = .ok (.istore_n 3, 1) := by decide +kernel
theorem dX2_answerBy_13 : decode cX2_answerBy 13 = .ok (.iload_n 3, 1) := by decide +kernel
theorem dX2_answerBy_14 : decode cX2_answerBy 14 = .ok (.ifCond .lt 31, 3) := by decide +kernel
theorem dX2_answerBy_17 : decode cX2_answerBy 17 = .ok (.aload_n 0, 1) := by decide +kernel
theorem dX2_answerBy_18 : decode cX2_answerBy 18 = .ok (.getfield 11, 3) := by decide +kernel
theorem dX2_answerBy_21 : decode cX2_answerBy 21 = .ok (.iload_n 3, 1) := by decide +kernel
theorem dX2_answerBy_22 : decode cX2_answerBy 22 = .ok (.aload_n 0, 1) := by decide +kernel
theorem dX2_answerBy_23 : decode cX2_answerBy 23 = .ok (.getfield 20, 3) := by decide +kernel
theorem dX2_answerBy_26 : decode cX2_answerBy 26 = .ok (.iload_n 3, 1) := by decide +kernel
theorem dX2_answerBy_27 : decode cX2_answerBy 27 = .ok (.iconst 5, 1) := by decide +kernel
theorem dX2_answerBy_28 : decode cX2_answerBy 28 = .ok (.imul, 1) := by decide +kernel
theorem dX2_answerBy_29 : decode cX2_answerBy 29 = .ok (.iload_n 2, 1) := by decide +kernel
theorem dX2_answerBy_30 : decode cX2_answerBy 30 = .ok (.iconst 5, 1) := by decide +kernel
theorem dX2_answerBy_31 : decode cX2_answerBy 31 = .ok (.irem, 1) := by decide +kernel
theorem dX2_answerBy_32 : decode cX2_answerBy 32 = .ok (.iadd, 1) := by decide +kernel
theorem dX2_answerBy_33 : decode cX2_answerBy 33 = .ok (.aaload, 1) := by decide +kernel
theorem dX2_answerBy_34 : decode cX2_answerBy 34 = .ok (.aastore, 1) := by decide +kernel
theorem dX2_answerBy_35 : decode cX2_answerBy 35 = .ok (.iload_n 2, 1) := by decide +kernel
theorem dX2_answerBy_36 : decode cX2_answerBy 36 = .ok (.iconst 5, 1) := by decide +kernel
theorem dX2_answerBy_37 : decode cX2_answerBy 37 = .ok (.idiv, 1) := by decide +kernel
theorem dX2_answerBy_38 : decode cX2_answerBy 38 = .ok (.istore_n 2, 1) := by decide +kernel
theorem dX2_answerBy_39 : decode cX2_answerBy 39 = .ok (.iinc 3 (-1), 3) := by decide +kernel
theorem dX2_answerBy_42 : decode cX2_answerBy 42 = .ok (.goto (-29), 3) := by decide +kernel
theorem dX2_answerBy_45 : decode cX2_answerBy 45 = .ok (.aload_n 0, 1) := by decide +kernel
theorem dX2_answerBy_46 : decode cX2_answerBy 46 = .ok (.invokevirtual 91, 3) := by decide +kernel
theorem dX2_answerBy_49 : decode cX2_answerBy 49 = .ok (.return_, 1) := by decide +kernel
theorem dX2_oathsOfDefendant_0 : decode cX2_oathsOfDefendant 0 = .ok (.iconst 0, 1) := by decide +kernel
theorem dX2_oathsOfDefendant_1 : decode cX2_oathsOfDefendant 1 = .ok (.istore_n 1, 1) := by decide +kernel
theorem dX2_oathsOfDefendant_2 : decode cX2_oathsOfDefendant 2 = .ok (.iconst 0, 1) := by decide +kernel
theorem dX2_oathsOfDefendant_3 : decode cX2_oathsOfDefendant 3 = .ok (.istore_n 2, 1) := by decide +kernel
theorem dX2_oathsOfDefendant_4 : decode cX2_oathsOfDefendant 4 = .ok (.iload_n 2, 1) := by decide +kernel
theorem dX2_oathsOfDefendant_5 : decode cX2_oathsOfDefendant 5 = .ok (.aload_n 0, 1) := by decide +kernel
theorem dX2_oathsOfDefendant_6 : decode cX2_oathsOfDefendant 6 = .ok (.getfield 50, 3) := by decide +kernel
theorem dX2_oathsOfDefendant_9 : decode cX2_oathsOfDefendant 9 = .ok (.if_icmp .ge 36, 3) := by decide +kernel
theorem dX2_oathsOfDefendant_12 : decode cX2_oathsOfDefendant 12 = .ok (.aload_n 0, 1) := by decide +kernel
theorem dX2_oathsOfDefendant_13 : decode cX2_oathsOfDefendant 13 = .ok (.getfield 11, 3) := by decide +kernel
theorem dX2_oathsOfDefendant_16 : decode cX2_oathsOfDefendant 16 = .ok (.iload_n 2, 1) := by decide +kernel
theorem dX2_oathsOfDefendant_17 : decode cX2_oathsOfDefendant 17 = .ok (.aaload, 1) := by decide +kernel
theorem dX2_oathsOfDefendant_18 : decode cX2_oathsOfDefendant 18 = .ok (.invokevirtual 159, 3) := by decide +kernel
theorem dX2_oathsOfDefendant_21 : decode cX2_oathsOfDefendant 21 = .ok (.ifCond .eq 18, 3) := by decide +kernel
theorem dX2_oathsOfDefendant_24 : decode cX2_oathsOfDefendant 24 = .ok (.aload_n 0, 1) := by decide +kernel
theorem dX2_oathsOfDefendant_25 : decode cX2_oathsOfDefendant 25 = .ok (.getfield 11, 3) := by decide +kernel
theorem dX2_oathsOfDefendant_28 : decode cX2_oathsOfDefendant 28 = .ok (.iload_n 2, 1) := by decide +kernel
theorem dX2_oathsOfDefendant_29 : decode cX2_oathsOfDefendant 29 = .ok (.aaload, 1) := by decide +kernel
theorem dX2_oathsOfDefendant_30 : decode cX2_oathsOfDefendant 30 = .ok (.getfield 166, 3) := by decide +kernel
theorem dX2_oathsOfDefendant_33 : decode cX2_oathsOfDefendant 33 = .ok (.ifCond .ne 6, 3) := by decide +kernel
theorem dX2_oathsOfDefendant_36 : decode cX2_oathsOfDefendant 36 = .ok (.iinc 1 1, 3) := by decide +kernel
theorem dX2_oathsOfDefendant_39 : decode cX2_oathsOfDefendant 39 = .ok (.iinc 2 1, 3) := by decide +kernel
theorem dX2_oathsOfDefendant_42 : decode cX2_oathsOfDefendant 42 = .ok (.goto (-38), 3) := by decide +kernel
theorem dX2_oathsOfDefendant_45 : decode cX2_oathsOfDefendant 45 = .ok (.iload_n 1, 1) := by decide +kernel
theorem dX2_oathsOfDefendant_46 : decode cX2_oathsOfDefendant 46 = .ok (.ireturn, 1) := by decide +kernel
theorem dX2_someDue_0 : decode cX2_someDue 0 = .ok (.iconst 0, 1) := by decide +kernel
theorem dX2_someDue_1 : decode cX2_someDue 1 = .ok (.istore_n 1, 1) := by decide +kernel
theorem dX2_someDue_2 : decode cX2_someDue 2 = .ok (.iload_n 1, 1) := by decide +kernel
theorem dX2_someDue_3 : decode cX2_someDue 3 = .ok (.aload_n 0, 1) := by decide +kernel
theorem dX2_someDue_4 : decode cX2_someDue 4 = .ok (.getfield 50, 3) := by decide +kernel
theorem dX2_someDue_7 : decode cX2_someDue 7 = .ok (.if_icmp .ge 24, 3) := by decide +kernel
theorem dX2_someDue_10 : decode cX2_someDue 10 = .ok (.aload_n 0, 1) := by decide +kernel
theorem dX2_someDue_11 : decode cX2_someDue 11 = .ok (.getfield 11, 3) := by decide +kernel
theorem dX2_someDue_14 : decode cX2_someDue 14 = .ok (.iload_n 1, 1) := by decide +kernel
theorem dX2_someDue_15 : decode cX2_someDue 15 = .ok (.aaload, 1) := by decide +kernel
theorem dX2_someDue_16 : decode cX2_someDue 16 = .ok (.getfield 76, 3) := by decide +kernel
theorem dX2_someDue_19 : decode cX2_someDue 19 = .ok (.iconst 3, 1) := by decide +kernel
theorem dX2_someDue_20 : decode cX2_someDue 20 = .ok (.if_icmp .ne 5, 3) := by decide +kernel
theorem dX2_someDue_23 : decode cX2_someDue 23 = .ok (.iconst 1, 1) := by decide +kernel
theorem dX2_someDue_24 : decode cX2_someDue 24 = .ok (.ireturn, 1) := by decide +kernel
theorem dX2_someDue_25 : decode cX2_someDue 25 = .ok (.iinc 1 1, 3) := by decide +kernel
theorem dX2_someDue_28 : decode cX2_someDue 28 = .ok (.goto (-26), 3) := by decide +kernel
theorem dX2_someDue_31 : decode cX2_someDue 31 = .ok (.iconst 0, 1) := by decide +kernel
theorem dX2_someDue_32 : decode cX2_someDue 32 = .ok (.ireturn, 1) := by decide +kernel
theorem dX3_init_0 : decode cX3_init 0 = .ok (.aload_n 0, 1) := by decide +kernel
theorem dX3_init_1 : decode cX3_init 1 = .ok (.invokespecial 3, 3) := by decide +kernel
theorem dX3_init_4 : decode cX3_init 4 = .ok (.aload_n 0, 1) := by decide +kernel
theorem dX3_init_5 : decode cX3_init 5 = .ok (.bipush 8, 2) := by decide +kernel
theorem dX3_init_7 : decode cX3_init 7 = .ok (.newarray .int, 2) := by decide +kernel
theorem dX3_init_9 : decode cX3_init 9 = .ok (.putfield 9, 3) := by decide +kernel
theorem dX3_init_12 : decode cX3_init 12 = .ok (.aload_n 0, 1) := by decide +kernel
theorem dX3_init_13 : decode cX3_init 13 = .ok (.bipush 8, 2) := by decide +kernel
theorem dX3_init_15 : decode cX3_init 15 = .ok (.newarray .int, 2) := by decide +kernel
theorem dX3_init_17 : decode cX3_init 17 = .ok (.putfield 15, 3) := by decide +kernel
theorem dX3_init_20 : decode cX3_init 20 = .ok (.aload_n 0, 1) := by decide +kernel
theorem dX3_init_21 : decode cX3_init 21 = .ok (.bipush 8, 2) := by decide +kernel
theorem dX3_init_23 : decode cX3_init 23 = .ok (.newarray .int, 2) := by decide +kernel
theorem dX3_init_25 : decode cX3_init 25 = .ok (.putfield 18, 3) := by decide +kernel
theorem dX3_init_28 : decode cX3_init 28 = .ok (.aload_n 0, 1) := by decide +kernel
theorem dX3_init_29 : decode cX3_init 29 = .ok (.bipush 8, 2) := by decide +kernel
theorem dX3_init_31 : decode cX3_init 31 = .ok (.newarray .int, 2) := by decide +kernel
theorem dX3_init_33 : decode cX3_init 33 = .ok (.putfield 21, 3) := by decide +kernel
theorem dX3_init_36 : decode cX3_init 36 = .ok (.aload_n 0, 1) := by decide +kernel
theorem dX3_init_37 : decode cX3_init 37 = .ok (.bipush 100, 2) := by decide +kernel
theorem dX3_init_39 : decode cX3_init 39 = .ok (.newarray .int, 2) := by decide +kernel
theorem dX3_init_41 : decode cX3_init 41 = .ok (.putfield 24, 3) := by decide +kernel
theorem dX3_init_44 : decode cX3_init 44 = .ok (.return_, 1) := by decide +kernel
theorem dX3_clear_0 : decode cX3_clear 0 = .ok (.aload_n 0, 1) := by decide +kernel
theorem dX3_clear_1 : decode cX3_clear 1 = .ok (.iconst 0, 1) := by decide +kernel
theorem dX3_clear_2 : decode cX3_clear 2 = .ok (.putfield 27, 3) := by decide +kernel
theorem dX3_clear_5 : decode cX3_clear 5 = .ok (.aload_n 0, 1) := by decide +kernel
theorem dX3_clear_6 : decode cX3_clear 6 = .ok (.iconst 0, 1) := by decide +kernel
theorem dX3_clear_7 : decode cX3_clear 7 = .ok (.putfield 31, 3) := by decide +kernel
theorem dX3_clear_10 : decode cX3_clear 10 = .ok (.aload_n 0, 1) := by decide +kernel
theorem dX3_clear_11 : decode cX3_clear 11 = .ok (.iconst 1, 1) := by decide +kernel
theorem dX3_clear_12 : decode cX3_clear 12 = .ok (.putfield 34, 3) := by decide +kernel
theorem dX3_clear_15 : decode cX3_clear 15 = .ok (.aload_n 0, 1) := by decide +kernel
theorem dX3_clear_16 : decode cX3_clear 16 = .ok (.iconst 1, 1) := by decide +kernel
theorem dX3_clear_17 : decode cX3_clear 17 = .ok (.putfield 37, 3) := by decide +kernel
theorem dX3_clear_20 : decode cX3_clear 20 = .ok (.aload_n 0, 1) := by decide +kernel
theorem dX3_clear_21 : decode cX3_clear 21 = .ok (.iconst 0, 1) := by decide +kernel
theorem dX3_clear_22 : decode cX3_clear 22 = .ok (.putfield 40, 3) := by decide +kernel
theorem dX3_clear_25 : decode cX3_clear 25 = .ok (.aload_n 0, 1) := by decide +kernel
theorem dX3_clear_26 : decode cX3_clear 26 = .ok (.iconst 1, 1) := by decide +kernel
theorem dX3_clear_27 : decode cX3_clear 27 = .ok (.putfield 43, 3) := by decide +kernel
theorem dX3_clear_30 : decode cX3_clear 30 = .ok (.aload_n 0, 1) := by decide +kernel
theorem dX3_clear_31 : decode cX3_clear 31 = .ok (.iconst 0, 1) := by decide +kernel
theorem dX3_clear_32 : decode cX3_clear 32 = .ok (.putfield 46, 3) := by decide +kernel
theorem dX3_clear_35 : decode cX3_clear 35 = .ok (.return_, 1) := by decide +kernel
theorem dX3_beginClause_0 : decode cX3_beginClause 0 = .ok (.aload_n 0, 1) := by decide +kernel
theorem dX3_beginClause_1 : decode cX3_beginClause 1 = .ok (.getfield 27, 3) := by decide +kernel
theorem dX3_beginClause_4 : decode cX3_beginClause 4 = .ok (.bipush 8, 2) := by decide +kernel
theorem dX3_beginClause_6 : decode cX3_beginClause 6 = .ok (.if_icmp .lt 4, 3) := by decide +kernel
theorem dX3_beginClause_9 : decode cX3_beginClause 9 = .ok (.return_, 1) := by decide +kernel
theorem dX3_beginClause_10 : decode cX3_beginClause 10 = .ok (.aload_n 0, 1) := by decide +kernel
theorem dX3_beginClause_11 : decode cX3_beginClause 11 = .ok (.getfield 9, 3) := by decide +kernel
theorem dX3_beginClause_14 : decode cX3_beginClause 14 = .ok (.aload_n 0, 1) := by decide +kernel
theorem dX3_beginClause_15 : decode cX3_beginClause 15 = .ok (.getfield 27, 3) := by decide +kernel
theorem dX3_beginClause_18 : decode cX3_beginClause 18 = .ok (.iload_n 1, 1) := by decide +kernel
theorem dX3_beginClause_19 : decode cX3_beginClause 19 = .ok (.iastore, 1) := by decide +kernel
theorem dX3_beginClause_20 : decode cX3_beginClause 20 = .ok (.aload_n 0, 1) := by decide +kernel
theorem dX3_beginClause_21 : decode cX3_beginClause 21 = .ok (.getfield 15, 3) := by decide +kernel
theorem dX3_beginClause_24 : decode cX3_beginClause 24 = .ok (.aload_n 0, 1) := by decide +kernel
theorem dX3_beginClause_25 : decode cX3_beginClause 25 = .ok (.getfield 27, 3) := by decide +kernel
theorem dX3_beginClause_28 : decode cX3_beginClause 28 = .ok (.iload_n 2, 1) := by decide +kernel
theorem dX3_beginClause_29 : decode cX3_beginClause 29 = .ok (.iastore, 1) := by decide +kernel
theorem dX3_beginClause_30 : decode cX3_beginClause 30 = .ok (.aload_n 0, 1) := by decide +kernel
theorem dX3_beginClause_31 : decode cX3_beginClause 31 = .ok (.getfield 18, 3) := by decide +kernel
theorem dX3_beginClause_34 : decode cX3_beginClause 34 = .ok (.aload_n 0, 1) := by decide +kernel
theorem dX3_beginClause_35 : decode cX3_beginClause 35 = .ok (.getfield 27, 3) := by decide +kernel
theorem dX3_beginClause_38 : decode cX3_beginClause 38 = .ok (.aload_n 0, 1) := by decide +kernel
theorem dX3_beginClause_39 : decode cX3_beginClause 39 = .ok (.getfield 31, 3) := by decide +kernel
theorem dX3_beginClause_42 : decode cX3_beginClause 42 = .ok (.iastore, 1) := by decide +kernel
theorem dX3_beginClause_43 : decode cX3_beginClause 43 = .ok (.aload_n 0, 1) := by decide +kernel
theorem dX3_beginClause_44 : decode cX3_beginClause 44 = .ok (.getfield 21, 3) := by decide +kernel
theorem dX3_beginClause_47 : decode cX3_beginClause 47 = .ok (.aload_n 0, 1) := by decide +kernel
theorem dX3_beginClause_48 : decode cX3_beginClause 48 = .ok (.getfield 27, 3) := by decide +kernel
theorem dX3_beginClause_51 : decode cX3_beginClause 51 = .ok (.aload_n 0, 1) := by decide +kernel
theorem dX3_beginClause_52 : decode cX3_beginClause 52 = .ok (.getfield 31, 3) := by decide +kernel
theorem dX3_beginClause_55 : decode cX3_beginClause 55 = .ok (.iastore, 1) := by decide +kernel
theorem dX3_beginClause_56 : decode cX3_beginClause 56 = .ok (.aload_n 0, 1) := by decide +kernel
theorem dX3_beginClause_57 : decode cX3_beginClause 57 = .ok (.dup, 1) := by decide +kernel
theorem dX3_beginClause_58 : decode cX3_beginClause 58 = .ok (.getfield 27, 3) := by decide +kernel
theorem dX3_beginClause_61 : decode cX3_beginClause 61 = .ok (.iconst 1, 1) := by decide +kernel
theorem dX3_beginClause_62 : decode cX3_beginClause 62 = .ok (.iadd, 1) := by decide +kernel
theorem dX3_beginClause_63 : decode cX3_beginClause 63 = .ok (.putfield 27, 3) := by decide +kernel
theorem dX3_beginClause_66 : decode cX3_beginClause 66 = .ok (.return_, 1) := by decide +kernel
theorem dX3_addStep_0 : decode cX3_addStep 0 = .ok (.aload_n 0, 1) := by decide +kernel
theorem dX3_addStep_1 : decode cX3_addStep 1 = .ok (.getfield 31, 3) := by decide +kernel
theorem dX3_addStep_4 : decode cX3_addStep 4 = .ok (.bipush 100, 2) := by decide +kernel
theorem dX3_addStep_6 : decode cX3_addStep 6 = .ok (.if_icmp .ge 11, 3) := by decide +kernel
theorem dX3_addStep_9 : decode cX3_addStep 9 = .ok (.aload_n 0, 1) := by decide +kernel
theorem dX3_addStep_10 : decode cX3_addStep 10 = .ok (.getfield 27, 3) := by decide +kernel
theorem dX3_addStep_13 : decode cX3_addStep 13 = .ok (.iconst 1, 1) := by decide +kernel
theorem dX3_addStep_14 : decode cX3_addStep 14 = .ok (.if_icmp .ge 4, 3) := by decide +kernel
theorem dX3_addStep_17 : decode cX3_addStep 17 = .ok (.return_, 1) := by decide +kernel
theorem dX3_addStep_18 : decode cX3_addStep 18 = .ok (.aload_n 0, 1) := by decide +kernel
theorem dX3_addStep_19 : decode cX3_addStep 19 = .ok (.getfield 24, 3) := by decide +kernel
theorem dX3_addStep_22 : decode cX3_addStep 22 = .ok (.aload_n 0, 1) := by decide +kernel
theorem dX3_addStep_23 : decode cX3_addStep 23 = .ok (.getfield 31, 3) := by decide +kernel
theorem dX3_addStep_26 : decode cX3_addStep 26 = .ok (.iload_n 1, 1) := by decide +kernel
theorem dX3_addStep_27 : decode cX3_addStep 27 = .ok (.iastore, 1) := by decide +kernel
theorem dX3_addStep_28 : decode cX3_addStep 28 = .ok (.aload_n 0, 1) := by decide +kernel
theorem dX3_addStep_29 : decode cX3_addStep 29 = .ok (.dup, 1) := by decide +kernel
theorem dX3_addStep_30 : decode cX3_addStep 30 = .ok (.getfield 31, 3) := by decide +kernel
theorem dX3_addStep_33 : decode cX3_addStep 33 = .ok (.iconst 1, 1) := by decide +kernel
theorem dX3_addStep_34 : decode cX3_addStep 34 = .ok (.iadd, 1) := by decide +kernel
theorem dX3_addStep_35 : decode cX3_addStep 35 = .ok (.putfield 31, 3) := by decide +kernel
theorem dX3_addStep_38 : decode cX3_addStep 38 = .ok (.aload_n 0, 1) := by decide +kernel
theorem dX3_addStep_39 : decode cX3_addStep 39 = .ok (.getfield 21, 3) := by decide +kernel
theorem dX3_addStep_42 : decode cX3_addStep 42 = .ok (.aload_n 0, 1) := by decide +kernel
theorem dX3_addStep_43 : decode cX3_addStep 43 = .ok (.getfield 27, 3) := by decide +kernel
theorem dX3_addStep_46 : decode cX3_addStep 46 = .ok (.iconst 1, 1) := by decide +kernel
theorem dX3_addStep_47 : decode cX3_addStep 47 = .ok (.isub, 1) := by decide +kernel
theorem dX3_addStep_48 : decode cX3_addStep 48 = .ok (.aload_n 0, 1) := by decide +kernel
theorem dX3_addStep_49 : decode cX3_addStep 49 = .ok (.getfield 31, 3) := by decide +kernel
theorem dX3_addStep_52 : decode cX3_addStep 52 = .ok (.iastore, 1) := by decide +kernel
theorem dX3_addStep_53 : decode cX3_addStep 53 = .ok (.return_, 1) := by decide +kernel
theorem dX3_addTest_0 : decode cX3_addTest 0 = .ok (.aload_n 0, 1) := by decide +kernel
theorem dX3_addTest_1 : decode cX3_addTest 1 = .ok (.iload_n 1, 1) := by decide +kernel
theorem dX3_addTest_2 : decode cX3_addTest 2 = .ok (.iconst 3, 1) := by decide +kernel
theorem dX3_addTest_3 : decode cX3_addTest 3 = .ok (.imul, 1) := by decide +kernel
theorem dX3_addTest_4 : decode cX3_addTest 4 = .ok (.iload_n 2, 1) := by decide +kernel
theorem dX3_addTest_5 : decode cX3_addTest 5 = .ok (.iadd, 1) := by decide +kernel
theorem dX3_addTest_6 : decode cX3_addTest 6 = .ok (.bipush 100, 2) := by decide +kernel
theorem dX3_addTest_8 : decode cX3_addTest 8 = .ok (.imul, 1) := by decide +kernel
theorem dX3_addTest_9 : decode cX3_addTest 9 = .ok (.iload_n 3, 1) := by decide +kernel
theorem dX3_addTest_10 : decode cX3_addTest 10 = .ok (.iadd, 1) := by decide +kernel
theorem dX3_addTest_11 : decode cX3_addTest 11 = .ok (.invokevirtual 49, 3) := by decide +kernel
theorem dX3_addTest_14 : decode cX3_addTest 14 = .ok (.return_, 1) := by decide +kernel
theorem dX3_holding_0 : decode cX3_holding 0 = .ok (.iconst 0, 1) := by decide +kernel
theorem dX3_holding_1 : decode cX3_holding 1 = .ok (.istore_n 3, 1) := by decide +kernel
theorem dX3_holding_2 : decode cX3_holding 2 = .ok (.iconst 0, 1) := by decide +kernel
theorem dX3_holding_3 : decode cX3_holding 3 = .ok (.istore 4, 2) := by decide +kernel
theorem dX3_holding_5 : decode cX3_holding 5 = .ok (.iload 4, 2) := by decide +kernel
theorem dX3_holding_7 : decode cX3_holding 7 = .ok (.aload_n 0, 1) := by decide +kernel
theorem dX3_holding_8 : decode cX3_holding 8 = .ok (.getfield 27, 3) := by decide +kernel
theorem dX3_holding_11 : decode cX3_holding 11 = .ok (.if_icmp .ge 27, 3) := by decide +kernel
theorem dX3_holding_14 : decode cX3_holding 14 = .ok (.aload_n 0, 1) := by decide +kernel
theorem dX3_holding_15 : decode cX3_holding 15 = .ok (.iload 4, 2) := by decide +kernel
theorem dX3_holding_17 : decode cX3_holding 17 = .ok (.aload_n 1, 1) := by decide +kernel
theorem dX3_holding_18 : decode cX3_holding 18 = .ok (.iload_n 2, 1) := by decide +kernel
theorem dX3_holding_19 : decode cX3_holding 19 = .ok (.invokevirtual 53, 3) := by decide +kernel
theorem dX3_holding_22 : decode cX3_holding 22 = .ok (.ifCond .eq 10, 3) := by decide +kernel
theorem dX3_holding_25 : decode cX3_holding 25 = .ok (.iload_n 3, 1) := by decide +kernel
theorem dX3_holding_26 : decode cX3_holding 26 = .ok (.iconst 1, 1) := by decide +kernel
theorem dX3_holding_27 : decode cX3_holding 27 = .ok (.iload 4, 2) := by decide +kernel
theorem dX3_holding_29 : decode cX3_holding 29 = .ok (.ishl, 1) := by decide +kernel
theorem dX3_holding_30 : decode cX3_holding 30 = .ok (.ior, 1) := by decide +kernel
theorem dX3_holding_31 : decode cX3_holding 31 = .ok (.istore_n 3, 1) := by decide +kernel
theorem dX3_holding_32 : decode cX3_holding 32 = .ok (.iinc 4 1, 3) := by decide +kernel
theorem dX3_holding_35 : decode cX3_holding 35 = .ok (.goto (-30), 3) := by decide +kernel
theorem dX3_holding_38 : decode cX3_holding 38 = .ok (.iload_n 3, 1) := by decide +kernel
theorem dX3_holding_39 : decode cX3_holding 39 = .ok (.ireturn, 1) := by decide +kernel
theorem dX3_hasAmong_0 : decode cX3_hasAmong 0 = .ok (.iconst 0, 1) := by decide +kernel
theorem dX3_hasAmong_1 : decode cX3_hasAmong 1 = .ok (.istore_n 3, 1) := by decide +kernel
theorem dX3_hasAmong_2 : decode cX3_hasAmong 2 = .ok (.iload_n 3, 1) := by decide +kernel
theorem dX3_hasAmong_3 : decode cX3_hasAmong 3 = .ok (.aload_n 0, 1) := by decide +kernel
theorem dX3_hasAmong_4 : decode cX3_hasAmong 4 = .ok (.getfield 27, 3) := by decide +kernel
theorem dX3_hasAmong_7 : decode cX3_hasAmong 7 = .ok (.if_icmp .ge 30, 3) := by decide +kernel
theorem dX3_hasAmong_10 : decode cX3_hasAmong 10 = .ok (.aload_n 0, 1) := by decide +kernel
theorem dX3_hasAmong_11 : decode cX3_hasAmong 11 = .ok (.getfield 9, 3) := by decide +kernel
theorem dX3_hasAmong_14 : decode cX3_hasAmong 14 = .ok (.iload_n 3, 1) := by decide +kernel
theorem dX3_hasAmong_15 : decode cX3_hasAmong 15 = .ok (.iaload, 1) := by decide +kernel
theorem dX3_hasAmong_16 : decode cX3_hasAmong 16 = .ok (.iload_n 1, 1) := by decide +kernel
theorem dX3_hasAmong_17 : decode cX3_hasAmong 17 = .ok (.if_icmp .ne 14, 3) := by decide +kernel
theorem dX3_hasAmong_20 : decode cX3_hasAmong 20 = .ok (.iload_n 2, 1) := by decide +kernel
theorem dX3_hasAmong_21 : decode cX3_hasAmong 21 = .ok (.iload_n 3, 1) := by decide +kernel
theorem dX3_hasAmong_22 : decode cX3_hasAmong 22 = .ok (.ishr, 1) := by decide +kernel
theorem dX3_hasAmong_23 : decode cX3_hasAmong 23 = .ok (.iconst 1, 1) := by decide +kernel
theorem dX3_hasAmong_24 : decode cX3_hasAmong 24 = .ok (.iand, 1) := by decide +kernel
theorem dX3_hasAmong_25 : decode cX3_hasAmong 25 = .ok (.iconst 1, 1) := by decide +kernel
theorem dX3_hasAmong_26 : decode cX3_hasAmong 26 = .ok (.if_icmp .ne 5, 3) := by decide +kernel
theorem dX3_hasAmong_29 : decode cX3_hasAmong 29 = .ok (.iconst 1, 1) := by decide +kernel
theorem dX3_hasAmong_30 : decode cX3_hasAmong 30 = .ok (.ireturn, 1) := by decide +kernel
theorem dX3_hasAmong_31 : decode cX3_hasAmong 31 = .ok (.iinc 3 1, 3) := by decide +kernel
theorem dX3_hasAmong_34 : decode cX3_hasAmong 34 = .ok (.goto (-32), 3) := by decide +kernel
theorem dX3_hasAmong_37 : decode cX3_hasAmong 37 = .ok (.iconst 0, 1) := by decide +kernel
theorem dX3_hasAmong_38 : decode cX3_hasAmong 38 = .ok (.ireturn, 1) := by decide +kernel
theorem dX3_firstOathAmong_0 : decode cX3_firstOathAmong 0 = .ok (.iconst 0, 1) := by decide +kernel
theorem dX3_firstOathAmong_1 : decode cX3_firstOathAmong 1 = .ok (.istore_n 3, 1) := by decide +kernel
theorem dX3_firstOathAmong_2 : decode cX3_firstOathAmong 2 = .ok (.iload_n 3, 1) := by decide +kernel
theorem dX3_firstOathAmong_3 : decode cX3_firstOathAmong 3 = .ok (.aload_n 0, 1) := by decide +kernel
theorem dX3_firstOathAmong_4 : decode cX3_firstOathAmong 4 = .ok (.getfield 27, 3) := by decide +kernel
theorem dX3_firstOathAmong_7 : decode cX3_firstOathAmong 7 = .ok (.if_icmp .ge 49, 3) := by decide +kernel
theorem dX3_firstOathAmong_10 : decode cX3_firstOathAmong 10 = .ok (.aload_n 0, 1) := by decide +kernel
theorem dX3_firstOathAmong_11 : decode cX3_firstOathAmong 11 = .ok (.getfield 15, 3) := by decide +kernel
theorem dX3_firstOathAmong_14 : decode cX3_firstOathAmong 14 = .ok (.iload_n 3, 1) := by decide +kernel
theorem dX3_firstOathAmong_15 : decode cX3_firstOathAmong 15 = .ok (.iaload, 1) := by decide +kernel
theorem dX3_firstOathAmong_16 : decode cX3_firstOathAmong 16 = .ok (.bipush 6, 2) := by decide +kernel
theorem dX3_firstOathAmong_18 : decode cX3_firstOathAmong 18 = .ok (.if_icmp .ne 7, 3) := by decide +kernel
theorem dX3_firstOathAmong_21 : decode cX3_firstOathAmong 21 = .ok (.iload_n 1, 1) := by decide +kernel
theorem dX3_firstOathAmong_22 : decode cX3_firstOathAmong 22 = .ok (.goto 4, 3) := by decide +kernel
theorem dX3_firstOathAmong_25 : decode cX3_firstOathAmong 25 = .ok (.iload_n 2, 1) := by decide +kernel
theorem dX3_firstOathAmong_26 : decode cX3_firstOathAmong 26 = .ok (.istore 4, 2) := by decide +kernel
theorem dX3_firstOathAmong_28 : decode cX3_firstOathAmong 28 = .ok (.aload_n 0, 1) := by decide +kernel
theorem dX3_firstOathAmong_29 : decode cX3_firstOathAmong 29 = .ok (.getfield 9, 3) := by decide +kernel
theorem dX3_firstOathAmong_32 : decode cX3_firstOathAmong 32 = .ok (.iload_n 3, 1) := by decide +kernel
theorem dX3_firstOathAmong_33 : decode cX3_firstOathAmong 33 = .ok (.iaload, 1) := by decide +kernel
theorem dX3_firstOathAmong_34 : decode cX3_firstOathAmong 34 = .ok (.iconst 2, 1) := by decide +kernel
theorem dX3_firstOathAmong_35 : decode cX3_firstOathAmong 35 = .ok (.if_icmp .ne 15, 3) := by decide +kernel
theorem dX3_firstOathAmong_38 : decode cX3_firstOathAmong 38 = .ok (.iload 4, 2) := by decide +kernel
theorem dX3_firstOathAmong_40 : decode cX3_firstOathAmong 40 = .ok (.iload_n 3, 1) := by decide +kernel
theorem dX3_firstOathAmong_41 : decode cX3_firstOathAmong 41 = .ok (.ishr, 1) := by decide +kernel
theorem dX3_firstOathAmong_42 : decode cX3_firstOathAmong 42 = .ok (.iconst 1, 1) := by decide +kernel
theorem dX3_firstOathAmong_43 : decode cX3_firstOathAmong 43 = .ok (.iand, 1) := by decide +kernel
theorem dX3_firstOathAmong_44 : decode cX3_firstOathAmong 44 = .ok (.iconst 1, 1) := by decide +kernel
theorem dX3_firstOathAmong_45 : decode cX3_firstOathAmong 45 = .ok (.if_icmp .ne 5, 3) := by decide +kernel
theorem dX3_firstOathAmong_48 : decode cX3_firstOathAmong 48 = .ok (.iload_n 3, 1) := by decide +kernel
theorem dX3_firstOathAmong_49 : decode cX3_firstOathAmong 49 = .ok (.ireturn, 1) := by decide +kernel
theorem dX3_firstOathAmong_50 : decode cX3_firstOathAmong 50 = .ok (.iinc 3 1, 3) := by decide +kernel
theorem dX3_firstOathAmong_53 : decode cX3_firstOathAmong 53 = .ok (.goto (-51), 3) := by decide +kernel
theorem dX3_firstOathAmong_56 : decode cX3_firstOathAmong 56 = .ok (.iconst (-1), 1) := by decide +kernel
theorem dX3_firstOathAmong_57 : decode cX3_firstOathAmong 57 = .ok (.ireturn, 1) := by decide +kernel
theorem dX3_holds_0 : decode cX3_holds 0 = .ok (.lconst 0, 1) := by decide +kernel
theorem dX3_holds_1 : decode cX3_holds 1 = .ok (.lstore 4, 2) := by decide +kernel
theorem dX3_holds_3 : decode cX3_holds 3 = .ok (.aload_n 0, 1) := by decide +kernel
theorem dX3_holds_4 : decode cX3_holds 4 = .ok (.getfield 18, 3) := by decide +kernel
theorem dX3_holds_7 : decode cX3_holds 7 = .ok (.iload_n 1, 1) := by decide +kernel
theorem dX3_holds_8 : decode cX3_holds 8 = .ok (.iaload, 1) := by decide +kernel
theorem dX3_holds_9 : decode cX3_holds 9 = .ok (.istore 6, 2) := by decide +kernel
theorem dX3_holds_11 : decode cX3_holds 11 = .ok (.iload 6, 2) := by decide +kernel
theorem dX3_holds_13 : decode cX3_holds 13 = .ok (.aload_n 0, 1) := by decide +kernel
theorem dX3_holds_14 : decode cX3_holds 14 = .ok (.getfield 21, 3) := by decide +kernel
theorem dX3_holds_17 : decode cX3_holds 17 = .ok (.iload_n 1, 1) := by decide +kernel
theorem dX3_holds_18 : decode cX3_holds 18 = .ok (.iaload, 1) := by decide +kernel
theorem dX3_holds_19 : decode cX3_holds 19 = .ok (.if_icmp .ge 121, 3) := by decide +kernel
theorem dX3_holds_22 : decode cX3_holds 22 = .ok (.aload_n 0, 1) := by decide +kernel
theorem dX3_holds_23 : decode cX3_holds 23 = .ok (.getfield 24, 3) := by decide +kernel
theorem dX3_holds_26 : decode cX3_holds 26 = .ok (.iload 6, 2) := by decide +kernel
theorem dX3_holds_28 : decode cX3_holds 28 = .ok (.iaload, 1) := by decide +kernel
theorem dX3_holds_29 : decode cX3_holds 29 = .ok (.istore 7, 2) := by decide +kernel
theorem dX3_holds_31 : decode cX3_holds 31 = .ok (.iload 7, 2) := by decide +kernel
theorem dX3_holds_33 : decode cX3_holds 33 = .ok (.ifCond .lt 52, 3) := by decide +kernel
theorem dX3_holds_36 : decode cX3_holds 36 = .ok (.aload_n 2, 1) := by decide +kernel
theorem dX3_holds_37 : decode cX3_holds 37 = .ok (.iload 7, 2) := by decide +kernel
theorem dX3_holds_39 : decode cX3_holds 39 = .ok (.sipush 300, 3) := by decide +kernel
theorem dX3_holds_42 : decode cX3_holds 42 = .ok (.idiv, 1) := by decide +kernel
theorem dX3_holds_43 : decode cX3_holds 43 = .ok (.iload_n 3, 1) := by decide +kernel
theorem dX3_holds_44 : decode cX3_holds 44 = .ok (.invokevirtual 57, 3) := by decide +kernel
theorem dX3_holds_47 : decode cX3_holds 47 = .ok (.iload 7, 2) := by decide +kernel
theorem dX3_holds_49 : decode cX3_holds 49 = .ok (.bipush 100, 2) := by decide +kernel
theorem dX3_holds_51 : decode cX3_holds 51 = .ok (.idiv, 1) := by decide +kernel
theorem dX3_holds_52 : decode cX3_holds 52 = .ok (.iconst 3, 1) := by decide +kernel
theorem dX3_holds_53 : decode cX3_holds 53 = .ok (.irem, 1) := by decide +kernel
theorem dX3_holds_54 : decode cX3_holds 54 = .ok (.iload 7, 2) := by decide +kernel
theorem dX3_holds_56 : decode cX3_holds 56 = .ok (.bipush 100, 2) := by decide +kernel
theorem dX3_holds_58 : decode cX3_holds 58 = .ok (.irem, 1) := by decide +kernel
theorem dX3_holds_59 : decode cX3_holds 59 = .ok (.invokestatic 63, 3) := by decide +kernel
theorem dX3_holds_62 : decode cX3_holds 62 = .ok (.istore 8, 2) := by decide +kernel
theorem dX3_holds_64 : decode cX3_holds 64 = .ok (.lload 4, 2) := by decide +kernel
theorem dX3_holds_66 : decode cX3_holds 66 = .ok (.iconst 1, 1) := by decide +kernel
theorem dX3_holds_67 : decode cX3_holds 67 = .ok (.lshl, 1) := by decide +kernel
theorem dX3_holds_68 : decode cX3_holds 68 = .ok (.iload 8, 2) := by decide +kernel
theorem dX3_holds_70 : decode cX3_holds 70 = .ok (.ifCond .eq 7, 3) := by decide +kernel
theorem dX3_holds_73 : decode cX3_holds 73 = .ok (.iconst 1, 1) := by decide +kernel
theorem dX3_holds_74 : decode cX3_holds 74 = .ok (.goto 4, 3) := by decide +kernel
theorem dX3_holds_77 : decode cX3_holds 77 = .ok (.iconst 0, 1) := by decide +kernel
theorem dX3_holds_78 : decode cX3_holds 78 = .ok (.i2l, 1) := by decide +kernel
theorem dX3_holds_79 : decode cX3_holds 79 = .ok (.lor, 1) := by decide +kernel
theorem dX3_holds_80 : decode cX3_holds 80 = .ok (.lstore 4, 2) := by decide +kernel
theorem dX3_holds_82 : decode cX3_holds 82 = .ok (.goto 52, 3) := by decide +kernel
theorem dX3_holds_85 : decode cX3_holds 85 = .ok (.iload 7, 2) := by decide +kernel
theorem dX3_holds_87 : decode cX3_holds 87 = .ok (.iconst (-1), 1) := by decide +kernel
theorem dX3_holds_88 : decode cX3_holds 88 = .ok (.if_icmp .ne 12, 3) := by decide +kernel
theorem dX3_holds_91 : decode cX3_holds 91 = .ok (.lload 4, 2) := by decide +kernel
theorem dX3_holds_93 : decode cX3_holds 93 = .ok (.lconst 1, 1) := by decide +kernel
theorem dX3_holds_94 : decode cX3_holds 94 = .ok (.lxor, 1) := by decide +kernel
theorem dX3_holds_95 : decode cX3_holds 95 = .ok (.lstore 4, 2) := by decide +kernel
theorem dX3_holds_97 : decode cX3_holds 97 = .ok (.goto 37, 3) := by decide +kernel
theorem dX3_holds_100 : decode cX3_holds 100 = .ok (.iload 7, 2) := by decide +kernel
theorem dX3_holds_102 : decode cX3_holds 102 = .ok (.bipush (-2), 2) := by decide +kernel
theorem dX3_holds_104 : decode cX3_holds 104 = .ok (.if_icmp .ne 19, 3) := by decide +kernel
theorem dX3_holds_107 : decode cX3_holds 107 = .ok (.lload 4, 2) := by decide +kernel
theorem dX3_holds_109 : decode cX3_holds 109 = .ok (.iconst 1, 1) := by decide +kernel
theorem dX3_holds_110 : decode cX3_holds 110 = .ok (.lushr, 1) := by decide +kernel
theorem dX3_holds_111 : decode cX3_holds 111 = .ok (.lload 4, 2) := by decide +kernel
theorem dX3_holds_113 : decode cX3_holds 113 = .ok (.ldc2_w 67, 3) := by decide +kernel
theorem dX3_holds_116 : decode cX3_holds 116 = .ok (.lor, 1) := by decide +kernel
theorem dX3_holds_117 : decode cX3_holds 117 = .ok (.land, 1) := by decide +kernel
theorem dX3_holds_118 : decode cX3_holds 118 = .ok (.lstore 4, 2) := by decide +kernel
theorem dX3_holds_120 : decode cX3_holds 120 = .ok (.goto 14, 3) := by decide +kernel
theorem dX3_holds_123 : decode cX3_holds 123 = .ok (.lload 4, 2) := by decide +kernel
theorem dX3_holds_125 : decode cX3_holds 125 = .ok (.iconst 1, 1) := by decide +kernel
theorem dX3_holds_126 : decode cX3_holds 126 = .ok (.lushr, 1) := by decide +kernel
theorem dX3_holds_127 : decode cX3_holds 127 = .ok (.lload 4, 2) := by decide +kernel
theorem dX3_holds_129 : decode cX3_holds 129 = .ok (.lconst 1, 1) := by decide +kernel
theorem dX3_holds_130 : decode cX3_holds 130 = .ok (.land, 1) := by decide +kernel
theorem dX3_holds_131 : decode cX3_holds 131 = .ok (.lor, 1) := by decide +kernel
theorem dX3_holds_132 : decode cX3_holds 132 = .ok (.lstore 4, 2) := by decide +kernel
theorem dX3_holds_134 : decode cX3_holds 134 = .ok (.iinc 6 1, 3) := by decide +kernel
theorem dX3_holds_137 : decode cX3_holds 137 = .ok (.goto (-126), 3) := by decide +kernel
theorem dX3_holds_140 : decode cX3_holds 140 = .ok (.lload 4, 2) := by decide +kernel
theorem dX3_holds_142 : decode cX3_holds 142 = .ok (.lconst 1, 1) := by decide +kernel
theorem dX3_holds_143 : decode cX3_holds 143 = .ok (.land, 1) := by decide +kernel
theorem dX3_holds_144 : decode cX3_holds 144 = .ok (.lconst 1, 1) := by decide +kernel
theorem dX3_holds_145 : decode cX3_holds 145 = .ok (.lcmp, 1) := by decide +kernel
theorem dX3_holds_146 : decode cX3_holds 146 = .ok (.ifCond .ne 7, 3) := by decide +kernel
theorem dX3_holds_149 : decode cX3_holds 149 = .ok (.iconst 1, 1) := by decide +kernel
theorem dX3_holds_150 : decode cX3_holds 150 = .ok (.goto 4, 3) := by decide +kernel
theorem dX3_holds_153 : decode cX3_holds 153 = .ok (.iconst 0, 1) := by decide +kernel
theorem dX3_holds_154 : decode cX3_holds 154 = .ok (.ireturn, 1) := by decide +kernel
theorem dX3_passes_0 : decode cX3_passes 0 = .ok (.iload_n 1, 1) := by decide +kernel
theorem dX3_passes_1 : decode cX3_passes 1 = .ok (.ifCond .ne 14, 3) := by decide +kernel
theorem dX3_passes_4 : decode cX3_passes 4 = .ok (.iload_n 0, 1) := by decide +kernel
theorem dX3_passes_5 : decode cX3_passes 5 = .ok (.iload_n 2, 1) := by decide +kernel
theorem dX3_passes_6 : decode cX3_passes 6 = .ok (.if_icmp .ge 7, 3) := by decide +kernel
theorem dX3_passes_9 : decode cX3_passes 9 = .ok (.iconst 1, 1) := by decide +kernel
theorem dX3_passes_10 : decode cX3_passes 10 = .ok (.goto 4, 3) := by decide +kernel
theorem dX3_passes_13 : decode cX3_passes 13 = .ok (.iconst 0, 1) := by decide +kernel
theorem dX3_passes_14 : decode cX3_passes 14 = .ok (.ireturn, 1) := by decide +kernel
theorem dX3_passes_15 : decode cX3_passes 15 = .ok (.iload_n 1, 1) := by decide +kernel
theorem dX3_passes_16 : decode cX3_passes 16 = .ok (.iconst 1, 1) := by decide +kernel
theorem dX3_passes_17 : decode cX3_passes 17 = .ok (.if_icmp .ne 16, 3) := by decide +kernel
theorem dX3_passes_20 : decode cX3_passes 20 = .ok (.iload_n 0, 1) := by decide +kernel
theorem dX3_passes_21 : decode cX3_passes 21 = .ok (.iload_n 2, 1) := by decide +kernel
theorem dX3_passes_22 : decode cX3_passes 22 = .ok (.if_icmp .ne 7, 3) := by decide +kernel
theorem dX3_passes_25 : decode cX3_passes 25 = .ok (.iconst 1, 1) := by decide +kernel
theorem dX3_passes_26 : decode cX3_passes 26 = .ok (.goto 17, 3) := by decide +kernel
theorem dX3_passes_29 : decode cX3_passes 29 = .ok (.iconst 0, 1) := by decide +kernel
theorem dX3_passes_30 : decode cX3_passes 30 = .ok (.goto 13, 3) := by decide +kernel
theorem dX3_passes_33 : decode cX3_passes 33 = .ok (.iload_n 0, 1) := by decide +kernel
theorem dX3_passes_34 : decode cX3_passes 34 = .ok (.iload_n 2, 1) := by decide +kernel
theorem dX3_passes_35 : decode cX3_passes 35 = .ok (.if_icmp .le 7, 3) := by decide +kernel
theorem dX3_passes_38 : decode cX3_passes 38 = .ok (.iconst 1, 1) := by decide +kernel
theorem dX3_passes_39 : decode cX3_passes 39 = .ok (.goto 4, 3) := by decide +kernel
theorem dX3_passes_42 : decode cX3_passes 42 = .ok (.iconst 0, 1) := by decide +kernel
theorem dX3_passes_43 : decode cX3_passes 43 = .ok (.ireturn, 1) := by decide +kernel
theorem dX4_init_0 : decode cX4_init 0 = .ok (.aload_n 0, 1) := by decide +kernel
theorem dX4_init_1 : decode cX4_init 1 = .ok (.invokespecial 3, 3) := by decide +kernel
theorem dX4_init_4 : decode cX4_init 4 = .ok (.aload_n 0, 1) := by decide +kernel
theorem dX4_init_5 : decode cX4_init 5 = .ok (.bipush 100, 2) := by decide +kernel
theorem dX4_init_7 : decode cX4_init 7 = .ok (.newarray .int, 2) := by decide +kernel
theorem dX4_init_9 : decode cX4_init 9 = .ok (.putfield 9, 3) := by decide +kernel
theorem dX4_init_12 : decode cX4_init 12 = .ok (.return_, 1) := by decide +kernel
theorem dX4_put_0 : decode cX4_put 0 = .ok (.aload_n 0, 1) := by decide +kernel
theorem dX4_put_1 : decode cX4_put 1 = .ok (.getfield 15, 3) := by decide +kernel
theorem dX4_put_4 : decode cX4_put 4 = .ok (.bipush 100, 2) := by decide +kernel
theorem dX4_put_6 : decode cX4_put 6 = .ok (.if_icmp .ge 23, 3) := by decide +kernel
theorem dX4_put_9 : decode cX4_put 9 = .ok (.aload_n 0, 1) := by decide +kernel
theorem dX4_put_10 : decode cX4_put 10 = .ok (.getfield 9, 3) := by decide +kernel
theorem dX4_put_13 : decode cX4_put 13 = .ok (.aload_n 0, 1) := by decide +kernel
theorem dX4_put_14 : decode cX4_put 14 = .ok (.getfield 15, 3) := by decide +kernel
theorem dX4_put_17 : decode cX4_put 17 = .ok (.iload_n 1, 1) := by decide +kernel
theorem dX4_put_18 : decode cX4_put 18 = .ok (.iastore, 1) := by decide +kernel
theorem dX4_put_19 : decode cX4_put 19 = .ok (.aload_n 0, 1) := by decide +kernel
theorem dX4_put_20 : decode cX4_put 20 = .ok (.dup, 1) := by decide +kernel
theorem dX4_put_21 : decode cX4_put 21 = .ok (.getfield 15, 3) := by decide +kernel
theorem dX4_put_24 : decode cX4_put 24 = .ok (.iconst 1, 1) := by decide +kernel
theorem dX4_put_25 : decode cX4_put 25 = .ok (.iadd, 1) := by decide +kernel
theorem dX4_put_26 : decode cX4_put 26 = .ok (.putfield 15, 3) := by decide +kernel
theorem dX4_put_29 : decode cX4_put 29 = .ok (.return_, 1) := by decide +kernel
theorem dX4_readInto_0 : decode cX4_readInto 0 = .ok (.aload_n 0, 1) := by decide +kernel
theorem dX4_readInto_1 : decode cX4_readInto 1 = .ok (.aload_n 1, 1) := by decide +kernel
theorem dX4_readInto_2 : decode cX4_readInto 2 = .ok (.putfield 19, 3) := by decide +kernel
theorem dX4_readInto_5 : decode cX4_readInto 5 = .ok (.aload_n 0, 1) := by decide +kernel
theorem dX4_readInto_6 : decode cX4_readInto 6 = .ok (.getfield 19, 3) := by decide +kernel
theorem dX4_readInto_9 : decode cX4_readInto 9 = .ok (.invokevirtual 23, 3) := by decide +kernel
theorem dX4_readInto_12 : decode cX4_readInto 12 = .ok (.aload_n 0, 1) := by decide +kernel
theorem dX4_readInto_13 : decode cX4_readInto 13 = .ok (.iconst 0, 1) := by decide +kernel
theorem dX4_readInto_14 : decode cX4_readInto 14 = .ok (.putfield 28, 3) := by decide +kernel
theorem dX4_readInto_17 : decode cX4_readInto 17 = .ok (.iconst 1, 1) := by decide +kernel
theorem dX4_readInto_18 : decode cX4_readInto 18 = .ok (.istore_n 2, 1) := by decide +kernel
theorem dX4_readInto_19 : decode cX4_readInto 19 = .ok (.iload_n 2, 1) := by decide +kernel
theorem dX4_readInto_20 : decode cX4_readInto 20 = .ok (.bipush 8, 2) := by decide +kernel
theorem dX4_readInto_22 : decode cX4_readInto 22 = .ok (.if_icmp .gt 48, 3) := by decide +kernel
theorem dX4_readInto_25 : decode cX4_readInto 25 = .ok (.aload_n 0, 1) := by decide +kernel
theorem dX4_readInto_26 : decode cX4_readInto 26 = .ok (.invokevirtual 31, 3) := by decide +kernel
theorem dX4_readInto_29 : decode cX4_readInto 29 = .ok (.ifCond .ne 5, 3) := by decide +kernel
theorem dX4_readInto_32 : decode cX4_readInto 32 = .ok (.iconst 0, 1) := by decide +kernel
theorem dX4_readInto_33 : decode cX4_readInto 33 = .ok (.ireturn, 1) := by decide +kernel
theorem dX4_readInto_34 : decode cX4_readInto 34 = .ok (.aload_n 0, 1) := by decide +kernel
theorem dX4_readInto_35 : decode cX4_readInto 35 = .ok (.getfield 28, 3) := by decide +kernel
theorem dX4_readInto_38 : decode cX4_readInto 38 = .ok (.aload_n 0, 1) := by decide +kernel
theorem dX4_readInto_39 : decode cX4_readInto 39 = .ok (.getfield 15, 3) := by decide +kernel
theorem dX4_readInto_42 : decode cX4_readInto 42 = .ok (.if_icmp .ne 5, 3) := by decide +kernel
theorem dX4_readInto_45 : decode cX4_readInto 45 = .ok (.iconst 1, 1) := by decide +kernel
theorem dX4_readInto_46 : decode cX4_readInto 46 = .ok (.ireturn, 1) := by decide +kernel
theorem dX4_readInto_47 : decode cX4_readInto 47 = .ok (.iload_n 2, 1) := by decide +kernel
theorem dX4_readInto_48 : decode cX4_readInto 48 = .ok (.bipush 8, 2) := by decide +kernel
theorem dX4_readInto_50 : decode cX4_readInto 50 = .ok (.if_icmp .eq 12, 3) := by decide +kernel
theorem dX4_readInto_53 : decode cX4_readInto 53 = .ok (.aload_n 0, 1) := by decide +kernel
theorem dX4_readInto_54 : decode cX4_readInto 54 = .ok (.bipush 59, 2) := by decide +kernel
theorem dX4_readInto_56 : decode cX4_readInto 56 = .ok (.invokevirtual 35, 3) := by decide +kernel
theorem dX4_readInto_59 : decode cX4_readInto 59 = .ok (.ifCond .ne 5, 3) := by decide +kernel
theorem dX4_readInto_62 : decode cX4_readInto 62 = .ok (.iconst 0, 1) := by decide +kernel
theorem dX4_readInto_63 : decode cX4_readInto 63 = .ok (.ireturn, 1) := by decide +kernel
theorem dX4_readInto_64 : decode cX4_readInto 64 = .ok (.iinc 2 1, 3) := by decide +kernel
theorem dX4_readInto_67 : decode cX4_readInto 67 = .ok (.goto (-48), 3) := by decide +kernel
theorem dX4_readInto_70 : decode cX4_readInto 70 = .ok (.iconst 0, 1) := by decide +kernel
theorem dX4_readInto_71 : decode cX4_readInto 71 = .ok (.ireturn, 1) := by decide +kernel
theorem dX4_readClause_0 : decode cX4_readClause 0 = .ok (.aload_n 0, 1) := by decide +kernel
theorem dX4_readClause_1 : decode cX4_readClause 1 = .ok (.invokevirtual 39, 3) := by decide +kernel
theorem dX4_readClause_4 : decode cX4_readClause 4 = .ok (.istore_n 1, 1) := by decide +kernel
theorem dX4_readClause_5 : decode cX4_readClause 5 = .ok (.iload_n 1, 1) := by decide +kernel
theorem dX4_readClause_6 : decode cX4_readClause 6 = .ok (.ifCond .lt 12, 3) := by decide +kernel
theorem dX4_readClause_9 : decode cX4_readClause 9 = .ok (.aload_n 0, 1) := by decide +kernel
theorem dX4_readClause_10 : decode cX4_readClause 10 = .ok (.bipush 32, 2) := by decide +kernel
theorem dX4_readClause_12 : decode cX4_readClause 12 = .ok (.invokevirtual 35, 3) := by decide +kernel
theorem dX4_readClause_15 : decode cX4_readClause 15 = .ok (.ifCond .ne 5, 3) := by decide +kernel
theorem dX4_readClause_18 : decode cX4_readClause 18 = .ok (.iconst 0, 1) := by decide +kernel
theorem dX4_readClause_19 : decode cX4_readClause 19 = .ok (.ireturn, 1) := by decide +kernel
theorem dX4_readClause_20 : decode cX4_readClause 20 = .ok (.iload_n 1, 1) := by decide +kernel
theorem dX4_readClause_21 : decode cX4_readClause 21 = .ok (.iconst 4, 1) := by decide +kernel
theorem dX4_readClause_22 : decode cX4_readClause 22 = .ok (.if_icmp .eq 8, 3) := by decide +kernel
theorem dX4_readClause_25 : decode cX4_readClause 25 = .ok (.iload_n 1, 1) := by decide +kernel
theorem dX4_readClause_26 : decode cX4_readClause 26 = .ok (.iconst 5, 1) := by decide +kernel
theorem dX4_readClause_27 : decode cX4_readClause 27 = .ok (.if_icmp .ne 9, 3) := by decide +kernel
theorem dX4_readClause_30 : decode cX4_readClause 30 = .ok (.aload_n 0, 1) := by decide +kernel
theorem dX4_readClause_31 : decode cX4_readClause 31 = .ok (.iload_n 1, 1) := by decide +kernel
theorem dX4_readClause_32 : decode cX4_readClause 32 = .ok (.invokevirtual 43, 3) := by decide +kernel
theorem dX4_readClause_35 : decode cX4_readClause 35 = .ok (.ireturn, 1) := by decide +kernel
theorem dX4_readClause_36 : decode cX4_readClause 36 = .ok (.iload_n 1, 1) := by decide +kernel
theorem dX4_readClause_37 : decode cX4_readClause 37 = .ok (.bipush 8, 2) := by decide +kernel
theorem dX4_readClause_39 : decode cX4_readClause 39 = .ok (.if_icmp .ne 39, 3) := by decide +kernel
theorem dX4_readClause_42 : decode cX4_readClause 42 = .ok (.aload_n 0, 1) := by decide +kernel
theorem dX4_readClause_43 : decode cX4_readClause 43 = .ok (.getfield 19, 3) := by decide +kernel
theorem dX4_readClause_46 : decode cX4_readClause 46 = .ok (.iload_n 1, 1) := by decide +kernel
theorem dX4_readClause_47 : decode cX4_readClause 47 = .ok (.iconst 0, 1) := by decide +kernel
theorem dX4_readClause_48 : decode cX4_readClause 48 = .ok (.invokevirtual 46, 3) := by decide +kernel
theorem dX4_readClause_51 : decode cX4_readClause 51 = .ok (.aload_n 0, 1) := by decide +kernel
theorem dX4_readClause_52 : decode cX4_readClause 52 = .ok (.getfield 19, 3) := by decide +kernel
theorem dX4_readClause_55 : decode cX4_readClause 55 = .ok (.aload_n 0, 1) := by decide +kernel
theorem dX4_readClause_56 : decode cX4_readClause 56 = .ok (.invokevirtual 50, 3) := by decide +kernel
theorem dX4_readClause_59 : decode cX4_readClause 59 = .ok (.putfield 53, 3) := by decide +kernel
theorem dX4_readClause_62 : decode cX4_readClause 62 = .ok (.aload_n 0, 1) := by decide +kernel
theorem dX4_readClause_63 : decode cX4_readClause 63 = .ok (.getfield 19, 3) := by decide +kernel
theorem dX4_readClause_66 : decode cX4_readClause 66 = .ok (.getfield 53, 3) := by decide +kernel
theorem dX4_readClause_69 : decode cX4_readClause 69 = .ok (.ifCond .lt 7, 3) := by decide +kernel
theorem dX4_readClause_72 : decode cX4_readClause 72 = .ok (.iconst 1, 1) := by decide +kernel
theorem dX4_readClause_73 : decode cX4_readClause 73 = .ok (.goto 4, 3) := by decide +kernel
theorem dX4_readClause_76 : decode cX4_readClause 76 = .ok (.iconst 0, 1) := by decide +kernel
theorem dX4_readClause_77 : decode cX4_readClause 77 = .ok (.ireturn, 1) := by decide +kernel
theorem dX4_readClause_78 : decode cX4_readClause 78 = .ok (.iconst 0, 1) := by decide +kernel
theorem dX4_readClause_79 : decode cX4_readClause 79 = .ok (.istore_n 2, 1) := by decide +kernel
theorem dX4_readClause_80 : decode cX4_readClause 80 = .ok (.iload_n 1, 1) := by decide +kernel
theorem dX4_readClause_81 : decode cX4_readClause 81 = .ok (.iconst 2, 1) := by decide +kernel
theorem dX4_readClause_82 : decode cX4_readClause 82 = .ok (.if_icmp .ne 27, 3) := by decide +kernel
theorem dX4_readClause_85 : decode cX4_readClause 85 = .ok (.iconst 1, 1) := by decide +kernel
theorem dX4_readClause_86 : decode cX4_readClause 86 = .ok (.aload_n 0, 1) := by decide +kernel
theorem dX4_readClause_87 : decode cX4_readClause 87 = .ok (.ldc 56, 2) := by decide +kernel
theorem dX4_readClause_89 : decode cX4_readClause 89 = .ok (.invokevirtual 58, 3) := by decide +kernel
theorem dX4_readClause_92 : decode cX4_readClause 92 = .ok (.iadd, 1) := by decide +kernel
theorem dX4_readClause_93 : decode cX4_readClause 93 = .ok (.istore_n 2, 1) := by decide +kernel
theorem dX4_readClause_94 : decode cX4_readClause 94 = .ok (.iload_n 2, 1) := by decide +kernel
theorem dX4_readClause_95 : decode cX4_readClause 95 = .ok (.ifCond .eq 12, 3) := by decide +kernel
theorem dX4_readClause_98 : decode cX4_readClause 98 = .ok (.aload_n 0, 1) := by decide +kernel
theorem dX4_readClause_99 : decode cX4_readClause 99 = .ok (.bipush 32, 2) := by decide +kernel
theorem dX4_readClause_101 : decode cX4_readClause 101 = .ok (.invokevirtual 35, 3) := by decide +kernel
theorem dX4_readClause_104 : decode cX4_readClause 104 = .ok (.ifCond .ne 5, 3) := by decide +kernel
theorem dX4_readClause_107 : decode cX4_readClause 107 = .ok (.iconst 0, 1) := by decide +kernel
theorem dX4_readClause_108 : decode cX4_readClause 108 = .ok (.ireturn, 1) := by decide +kernel
theorem dX4_readClause_109 : decode cX4_readClause 109 = .ok (.aload_n 0, 1) := by decide +kernel
theorem dX4_readClause_110 : decode cX4_readClause 110 = .ok (.getfield 19, 3) := by decide +kernel
theorem dX4_readClause_113 : decode cX4_readClause 113 = .ok (.iload_n 1, 1) := by decide +kernel
theorem dX4_readClause_114 : decode cX4_readClause 114 = .ok (.iload_n 2, 1) := by decide +kernel
theorem dX4_readClause_115 : decode cX4_readClause 115 = .ok (.invokevirtual 46, 3) := by decide +kernel
theorem dX4_readClause_118 : decode cX4_readClause 118 = .ok (.aload_n 0, 1) := by decide +kernel
theorem dX4_readClause_119 : decode cX4_readClause 119 = .ok (.iconst 0, 1) := by decide +kernel
theorem dX4_readClause_120 : decode cX4_readClause 120 = .ok (.invokevirtual 62, 3) := by decide +kernel
theorem dX4_readClause_123 : decode cX4_readClause 123 = .ok (.ireturn, 1) := by decide +kernel
theorem dX4_readWord_0 : decode cX4_readWord 0 = .ok (.sipush 511, 3) := by decide +kernel
theorem dX4_readWord_3 : decode cX4_readWord 3 = .ok (.istore_n 1, 1) := by decide +kernel
theorem dX4_readWord_4 : decode cX4_readWord 4 = .ok (.iconst 0, 1) := by decide +kernel
theorem dX4_readWord_5 : decode cX4_readWord 5 = .ok (.istore_n 2, 1) := by decide +kernel
theorem dX4_readWord_6 : decode cX4_readWord 6 = .ok (.iload_n 2, 1) := by decide +kernel
theorem dX4_readWord_7 : decode cX4_readWord 7 = .ok (.iconst 5, 1) := by decide +kernel
theorem dX4_readWord_8 : decode cX4_readWord 8 = .ok (.if_icmp .ge 114, 3) := by decide +kernel
theorem dX4_readWord_11 : decode cX4_readWord 11 = .ok (.iconst (-1), 1) := by decide +kernel
theorem dX4_readWord_12 : decode cX4_readWord 12 = .ok (.istore_n 3, 1) := by decide +kernel
theorem dX4_readWord_13 : decode cX4_readWord 13 = .ok (.iconst 0, 1) := by decide +kernel
theorem dX4_readWord_14 : decode cX4_readWord 14 = .ok (.istore 4, 2) := by decide +kernel
theorem dX4_readWord_16 : decode cX4_readWord 16 = .ok (.iload 4, 2) := by decide +kernel
theorem dX4_readWord_18 : decode cX4_readWord 18 = .ok (.bipush 9, 2) := by decide +kernel
theorem dX4_readWord_20 : decode cX4_readWord 20 = .ok (.if_icmp .ge 74, 3) := by decide +kernel
theorem dX4_readWord_23 : decode cX4_readWord 23 = .ok (.iload 4, 2) := by decide +kernel
theorem dX4_readWord_25 : decode cX4_readWord 25 = .ok (.invokestatic 65, 3) := by decide +kernel
theorem dX4_readWord_28 : decode cX4_readWord 28 = .ok (.astore 5, 2) := by decide +kernel
theorem dX4_readWord_30 : decode cX4_readWord 30 = .ok (.iload_n 2, 1) := by decide +kernel
theorem dX4_readWord_31 : decode cX4_readWord 31 = .ok (.aload 5, 2) := by decide +kernel
theorem dX4_readWord_33 : decode cX4_readWord 33 = .ok (.invokevirtual 69, 3) := by decide +kernel
theorem dX4_readWord_36 : decode cX4_readWord 36 = .ok (.if_icmp .ge 16, 3) := by decide +kernel
theorem dX4_readWord_39 : decode cX4_readWord 39 = .ok (.aload 5, 2) := by decide +kernel
theorem dX4_readWord_41 : decode cX4_readWord 41 = .ok (.iload_n 2, 1) := by decide +kernel
theorem dX4_readWord_42 : decode cX4_readWord 42 = .ok (.invokevirtual 73, 3) := by decide +kernel
theorem dX4_readWord_45 : decode cX4_readWord 45 = .ok (.aload_n 0, 1) := by decide +kernel
theorem dX4_readWord_46 : decode cX4_readWord 46 = .ok (.invokevirtual 77, 3) := by decide +kernel
theorem dX4_readWord_49 : decode cX4_readWord 49 = .ok (.if_icmp .eq 15, 3) := by decide +kernel
theorem dX4_readWord_52 : decode cX4_readWord 52 = .ok (.iload_n 1, 1) := by decide +kernel
theorem dX4_readWord_53 : decode cX4_readWord 53 = .ok (.iconst 1, 1) := by decide +kernel
theorem dX4_readWord_54 : decode cX4_readWord 54 = .ok (.iload 4, 2) := by decide +kernel
theorem dX4_readWord_56 : decode cX4_readWord 56 = .ok (.ishl, 1) := by decide +kernel
theorem dX4_readWord_57 : decode cX4_readWord 57 = .ok (.iconst (-1), 1) := by decide +kernel
theorem dX4_readWord_58 : decode cX4_readWord 58 = .ok (.ixor, 1) := by decide +kernel
theorem dX4_readWord_59 : decode cX4_readWord 59 = .ok (.iand, 1) := by decide +kernel
theorem dX4_readWord_60 : decode cX4_readWord 60 = .ok (.istore_n 1, 1) := by decide +kernel
theorem dX4_readWord_61 : decode cX4_readWord 61 = .ok (.goto 27, 3) := by decide +kernel
theorem dX4_readWord_64 : decode cX4_readWord 64 = .ok (.iload_n 1, 1) := by decide +kernel
theorem dX4_readWord_65 : decode cX4_readWord 65 = .ok (.iload 4, 2) := by decide +kernel
theorem dX4_readWord_67 : decode cX4_readWord 67 = .ok (.ishr, 1) := by decide +kernel
theorem dX4_readWord_68 : decode cX4_readWord 68 = .ok (.iconst 1, 1) := by decide +kernel
theorem dX4_readWord_69 : decode cX4_readWord 69 = .ok (.iand, 1) := by decide +kernel
theorem dX4_readWord_70 : decode cX4_readWord 70 = .ok (.iconst 1, 1) := by decide +kernel
theorem dX4_readWord_71 : decode cX4_readWord 71 = .ok (.if_icmp .ne 17, 3) := by decide +kernel
theorem dX4_readWord_74 : decode cX4_readWord 74 = .ok (.iload_n 2, 1) := by decide +kernel
theorem dX4_readWord_75 : decode cX4_readWord 75 = .ok (.iconst 1, 1) := by decide +kernel
theorem dX4_readWord_76 : decode cX4_readWord 76 = .ok (.iadd, 1) := by decide +kernel
theorem dX4_readWord_77 : decode cX4_readWord 77 = .ok (.aload 5, 2) := by decide +kernel
theorem dX4_readWord_79 : decode cX4_readWord 79 = .ok (.invokevirtual 69, 3) := by decide +kernel
theorem dX4_readWord_82 : decode cX4_readWord 82 = .ok (.if_icmp .ne 6, 3) := by decide +kernel
theorem dX4_readWord_85 : decode cX4_readWord 85 = .ok (.iload 4, 2) := by decide +kernel
theorem dX4_readWord_87 : decode cX4_readWord 87 = .ok (.istore_n 3, 1) := by decide +kernel
theorem dX4_readWord_88 : decode cX4_readWord 88 = .ok (.iinc 4 1, 3) := by decide +kernel
theorem dX4_readWord_91 : decode cX4_readWord 91 = .ok (.goto (-75), 3) := by decide +kernel
theorem dX4_readWord_94 : decode cX4_readWord 94 = .ok (.iload_n 1, 1) := by decide +kernel
theorem dX4_readWord_95 : decode cX4_readWord 95 = .ok (.ifCond .ne 5, 3) := by decide +kernel
theorem dX4_readWord_98 : decode cX4_readWord 98 = .ok (.iconst (-1), 1) := by decide +kernel
theorem dX4_readWord_99 : decode cX4_readWord 99 = .ok (.ireturn, 1) := by decide +kernel
theorem dX4_readWord_100 : decode cX4_readWord 100 = .ok (.aload_n 0, 1) := by decide +kernel
theorem dX4_readWord_101 : decode cX4_readWord 101 = .ok (.dup, 1) := by decide +kernel
theorem dX4_readWord_102 : decode cX4_readWord 102 = .ok (.getfield 28, 3) := by decide +kernel
theorem dX4_readWord_105 : decode cX4_readWord 105 = .ok (.iconst 1, 1) := by decide +kernel
theorem dX4_readWord_106 : decode cX4_readWord 106 = .ok (.iadd, 1) := by decide +kernel
theorem dX4_readWord_107 : decode cX4_readWord 107 = .ok (.putfield 28, 3) := by decide +kernel
theorem dX4_readWord_110 : decode cX4_readWord 110 = .ok (.iload_n 3, 1) := by decide +kernel
theorem dX4_readWord_111 : decode cX4_readWord 111 = .ok (.ifCond .lt 5, 3) := by decide +kernel
theorem dX4_readWord_114 : decode cX4_readWord 114 = .ok (.iload_n 3, 1) := by decide +kernel
theorem dX4_readWord_115 : decode cX4_readWord 115 = .ok (.ireturn, 1) := by decide +kernel
theorem dX4_readWord_116 : decode cX4_readWord 116 = .ok (.iinc 2 1, 3) := by decide +kernel
theorem dX4_readWord_119 : decode cX4_readWord 119 = .ok (.goto (-113), 3) := by decide +kernel
theorem dX4_readWord_122 : decode cX4_readWord 122 = .ok (.iconst (-1), 1) := by decide +kernel
theorem dX4_readWord_123 : decode cX4_readWord 123 = .ok (.ireturn, 1) := by decide +kernel
theorem dX4_wordOf_0 : decode cX4_wordOf 0 = .ok (.iload_n 0, 1) := by decide +kernel
theorem dX4_wordOf_1 : decode cX4_wordOf 1 = .ok (.tableswitch 71 0 7 #[47, 50, 53, 56, 59, 62, 65, 68], 47) := by decide +kernel
theorem dX4_wordOf_48 : decode cX4_wordOf 48 = .ok (.ldc 80, 2) := by decide +kernel
theorem dX4_wordOf_50 : decode cX4_wordOf 50 = .ok (.areturn, 1) := by decide +kernel
theorem dX4_wordOf_51 : decode cX4_wordOf 51 = .ok (.ldc 82, 2) := by decide +kernel
theorem dX4_wordOf_53 : decode cX4_wordOf 53 = .ok (.areturn, 1) := by decide +kernel
theorem dX4_wordOf_54 : decode cX4_wordOf 54 = .ok (.ldc 84, 2) := by decide +kernel
theorem dX4_wordOf_56 : decode cX4_wordOf 56 = .ok (.areturn, 1) := by decide +kernel
theorem dX4_wordOf_57 : decode cX4_wordOf 57 = .ok (.ldc 86, 2) := by decide +kernel
theorem dX4_wordOf_59 : decode cX4_wordOf 59 = .ok (.areturn, 1) := by decide +kernel
theorem dX4_wordOf_60 : decode cX4_wordOf 60 = .ok (.ldc 88, 2) := by decide +kernel
theorem dX4_wordOf_62 : decode cX4_wordOf 62 = .ok (.areturn, 1) := by decide +kernel
theorem dX4_wordOf_63 : decode cX4_wordOf 63 = .ok (.ldc 90, 2) := by decide +kernel
theorem dX4_wordOf_65 : decode cX4_wordOf 65 = .ok (.areturn, 1) := by decide +kernel
theorem dX4_wordOf_66 : decode cX4_wordOf 66 = .ok (.ldc 92, 2) := by decide +kernel
theorem dX4_wordOf_68 : decode cX4_wordOf 68 = .ok (.areturn, 1) := by decide +kernel
theorem dX4_wordOf_69 : decode cX4_wordOf 69 = .ok (.ldc 94, 2) := by decide +kernel
theorem dX4_wordOf_71 : decode cX4_wordOf 71 = .ok (.areturn, 1) := by decide +kernel
theorem dX4_wordOf_72 : decode cX4_wordOf 72 = .ok (.ldc 96, 2) := by decide +kernel
theorem dX4_wordOf_74 : decode cX4_wordOf 74 = .ok (.areturn, 1) := by decide +kernel
theorem dX4_readShare_0 : decode cX4_readShare 0 = .ok (.aload_n 0, 1) := by decide +kernel
theorem dX4_readShare_1 : decode cX4_readShare 1 = .ok (.invokevirtual 50, 3) := by decide +kernel
theorem dX4_readShare_4 : decode cX4_readShare 4 = .ok (.istore_n 2, 1) := by decide +kernel
theorem dX4_readShare_5 : decode cX4_readShare 5 = .ok (.iload_n 2, 1) := by decide +kernel
theorem dX4_readShare_6 : decode cX4_readShare 6 = .ok (.ifCond .lt 12, 3) := by decide +kernel
theorem dX4_readShare_9 : decode cX4_readShare 9 = .ok (.aload_n 0, 1) := by decide +kernel
theorem dX4_readShare_10 : decode cX4_readShare 10 = .ok (.bipush 32, 2) := by decide +kernel
theorem dX4_readShare_12 : decode cX4_readShare 12 = .ok (.invokevirtual 35, 3) := by decide +kernel
theorem dX4_readShare_15 : decode cX4_readShare 15 = .ok (.ifCond .ne 5, 3) := by decide +kernel
theorem dX4_readShare_18 : decode cX4_readShare 18 = .ok (.iconst 0, 1) := by decide +kernel
theorem dX4_readShare_19 : decode cX4_readShare 19 = .ok (.ireturn, 1) := by decide +kernel
theorem dX4_readShare_20 : decode cX4_readShare 20 = .ok (.aload_n 0, 1) := by decide +kernel
theorem dX4_readShare_21 : decode cX4_readShare 21 = .ok (.invokevirtual 97, 3) := by decide +kernel
theorem dX4_readShare_24 : decode cX4_readShare 24 = .ok (.istore_n 3, 1) := by decide +kernel
theorem dX4_readShare_25 : decode cX4_readShare 25 = .ok (.iload_n 3, 1) := by decide +kernel
theorem dX4_readShare_26 : decode cX4_readShare 26 = .ok (.iconst 1, 1) := by decide +kernel
theorem dX4_readShare_27 : decode cX4_readShare 27 = .ok (.if_icmp .ge 5, 3) := by decide +kernel
theorem dX4_readShare_30 : decode cX4_readShare 30 = .ok (.iconst 0, 1) := by decide +kernel
theorem dX4_readShare_31 : decode cX4_readShare 31 = .ok (.ireturn, 1) := by decide +kernel
theorem dX4_readShare_32 : decode cX4_readShare 32 = .ok (.aload_n 0, 1) := by decide +kernel
theorem dX4_readShare_33 : decode cX4_readShare 33 = .ok (.getfield 19, 3) := by decide +kernel
theorem dX4_readShare_36 : decode cX4_readShare 36 = .ok (.iload_n 1, 1) := by decide +kernel
theorem dX4_readShare_37 : decode cX4_readShare 37 = .ok (.iconst 0, 1) := by decide +kernel
theorem dX4_readShare_38 : decode cX4_readShare 38 = .ok (.invokevirtual 46, 3) := by decide +kernel
theorem dX4_readShare_41 : decode cX4_readShare 41 = .ok (.iload_n 1, 1) := by decide +kernel
theorem dX4_readShare_42 : decode cX4_readShare 42 = .ok (.iconst 4, 1) := by decide +kernel
theorem dX4_readShare_43 : decode cX4_readShare 43 = .ok (.if_icmp .ne 22, 3) := by decide +kernel
theorem dX4_readShare_46 : decode cX4_readShare 46 = .ok (.aload_n 0, 1) := by decide +kernel
theorem dX4_readShare_47 : decode cX4_readShare 47 = .ok (.getfield 19, 3) := by decide +kernel
theorem dX4_readShare_50 : decode cX4_readShare 50 = .ok (.iload_n 2, 1) := by decide +kernel
theorem dX4_readShare_51 : decode cX4_readShare 51 = .ok (.putfield 100, 3) := by decide +kernel
theorem dX4_readShare_54 : decode cX4_readShare 54 = .ok (.aload_n 0, 1) := by decide +kernel
theorem dX4_readShare_55 : decode cX4_readShare 55 = .ok (.getfield 19, 3) := by decide +kernel
theorem dX4_readShare_58 : decode cX4_readShare 58 = .ok (.iload_n 3, 1) := by decide +kernel
theorem dX4_readShare_59 : decode cX4_readShare 59 = .ok (.putfield 103, 3) := by decide +kernel
theorem dX4_readShare_62 : decode cX4_readShare 62 = .ok (.goto 19, 3) := by decide +kernel
theorem dX4_readShare_65 : decode cX4_readShare 65 = .ok (.aload_n 0, 1) := by decide +kernel
theorem dX4_readShare_66 : decode cX4_readShare 66 = .ok (.getfield 19, 3) := by decide +kernel
theorem dX4_readShare_69 : decode cX4_readShare 69 = .ok (.iload_n 2, 1) := by decide +kernel
theorem dX4_readShare_70 : decode cX4_readShare 70 = .ok (.putfield 106, 3) := by decide +kernel
theorem dX4_readShare_73 : decode cX4_readShare 73 = .ok (.aload_n 0, 1) := by decide +kernel
theorem dX4_readShare_74 : decode cX4_readShare 74 = .ok (.getfield 19, 3) := by decide +kernel
theorem dX4_readShare_77 : decode cX4_readShare 77 = .ok (.iload_n 3, 1) := by decide +kernel
theorem dX4_readShare_78 : decode cX4_readShare 78 = .ok (.putfield 109, 3) := by decide +kernel
theorem dX4_readShare_81 : decode cX4_readShare 81 = .ok (.iconst 1, 1) := by decide +kernel
theorem dX4_readShare_82 : decode cX4_readShare 82 = .ok (.ireturn, 1) := by decide +kernel
theorem dX4_readNumber_0 : decode cX4_readNumber 0 = .ok (.aload_n 0, 1) := by decide +kernel
theorem dX4_readNumber_1 : decode cX4_readNumber 1 = .ok (.invokevirtual 77, 3) := by decide +kernel
theorem dX4_readNumber_4 : decode cX4_readNumber 4 = .ok (.invokestatic 112, 3) := by decide +kernel
theorem dX4_readNumber_7 : decode cX4_readNumber 7 = .ok (.ifCond .ne 5, 3) := by decide +kernel
theorem dX4_readNumber_10 : decode cX4_readNumber 10 = .ok (.iconst (-1), 1) := by decide +kernel
theorem dX4_readNumber_11 : decode cX4_readNumber 11 = .ok (.ireturn, 1) := by decide +kernel
theorem dX4_readNumber_12 : decode cX4_readNumber 12 = .ok (.aload_n 0, 1) := by decide +kernel
theorem dX4_readNumber_13 : decode cX4_readNumber 13 = .ok (.invokevirtual 77, 3) := by decide +kernel
theorem dX4_readNumber_16 : decode cX4_readNumber 16 = .ok (.bipush 48, 2) := by decide +kernel
theorem dX4_readNumber_18 : decode cX4_readNumber 18 = .ok (.isub, 1) := by decide +kernel
theorem dX4_readNumber_19 : decode cX4_readNumber 19 = .ok (.istore_n 1, 1) := by decide +kernel
theorem dX4_readNumber_20 : decode cX4_readNumber 20 = .ok (.aload_n 0, 1) := by decide +kernel
theorem dX4_readNumber_21 : decode cX4_readNumber 21 = .ok (.dup, 1) := by decide +kernel
theorem dX4_readNumber_22 : decode cX4_readNumber 22 = .ok (.getfield 28, 3) := by decide +kernel
theorem dX4_readNumber_25 : decode cX4_readNumber 25 = .ok (.iconst 1, 1) := by decide +kernel
theorem dX4_readNumber_26 : decode cX4_readNumber 26 = .ok (.iadd, 1) := by decide +kernel
theorem dX4_readNumber_27 : decode cX4_readNumber 27 = .ok (.putfield 28, 3) := by decide +kernel
theorem dX4_readNumber_30 : decode cX4_readNumber 30 = .ok (.aload_n 0, 1) := by decide +kernel
theorem dX4_readNumber_31 : decode cX4_readNumber 31 = .ok (.invokevirtual 77, 3) := by decide +kernel
theorem dX4_readNumber_34 : decode cX4_readNumber 34 = .ok (.invokestatic 112, 3) := by decide +kernel
theorem dX4_readNumber_37 : decode cX4_readNumber 37 = .ok (.ifCond .eq 26, 3) := by decide +kernel
theorem dX4_readNumber_40 : decode cX4_readNumber 40 = .ok (.iload_n 1, 1) := by decide +kernel
theorem dX4_readNumber_41 : decode cX4_readNumber 41 = .ok (.bipush 10, 2) := by decide +kernel
theorem dX4_readNumber_43 : decode cX4_readNumber 43 = .ok (.imul, 1) := by decide +kernel
theorem dX4_readNumber_44 : decode cX4_readNumber 44 = .ok (.aload_n 0, 1) := by decide +kernel
theorem dX4_readNumber_45 : decode cX4_readNumber 45 = .ok (.invokevirtual 77, 3) := by decide +kernel
theorem dX4_readNumber_48 : decode cX4_readNumber 48 = .ok (.iadd, 1) := by decide +kernel
theorem dX4_readNumber_49 : decode cX4_readNumber 49 = .ok (.bipush 48, 2) := by decide +kernel
theorem dX4_readNumber_51 : decode cX4_readNumber 51 = .ok (.isub, 1) := by decide +kernel
theorem dX4_readNumber_52 : decode cX4_readNumber 52 = .ok (.istore_n 1, 1) := by decide +kernel
theorem dX4_readNumber_53 : decode cX4_readNumber 53 = .ok (.aload_n 0, 1) := by decide +kernel
theorem dX4_readNumber_54 : decode cX4_readNumber 54 = .ok (.dup, 1) := by decide +kernel
theorem dX4_readNumber_55 : decode cX4_readNumber 55 = .ok (.getfield 28, 3) := by decide +kernel
theorem dX4_readNumber_58 : decode cX4_readNumber 58 = .ok (.iconst 1, 1) := by decide +kernel
theorem dX4_readNumber_59 : decode cX4_readNumber 59 = .ok (.iadd, 1) := by decide +kernel
theorem dX4_readNumber_60 : decode cX4_readNumber 60 = .ok (.putfield 28, 3) := by decide +kernel
theorem dX4_readNumber_63 : decode cX4_readNumber 63 = .ok (.iload_n 1, 1) := by decide +kernel
theorem dX4_readNumber_64 : decode cX4_readNumber 64 = .ok (.ireturn, 1) := by decide +kernel
theorem dX4_readDivisor_0 : decode cX4_readDivisor 0 = .ok (.aload_n 0, 1) := by decide +kernel
theorem dX4_readDivisor_1 : decode cX4_readDivisor 1 = .ok (.invokevirtual 77, 3) := by decide +kernel
theorem dX4_readDivisor_4 : decode cX4_readDivisor 4 = .ok (.bipush 48, 2) := by decide +kernel
theorem dX4_readDivisor_6 : decode cX4_readDivisor 6 = .ok (.if_icmp .eq 8, 3) := by decide +kernel
theorem dX4_readDivisor_9 : decode cX4_readDivisor 9 = .ok (.aload_n 0, 1) := by decide +kernel
theorem dX4_readDivisor_10 : decode cX4_readDivisor 10 = .ok (.invokevirtual 50, 3) := by decide +kernel
theorem dX4_readDivisor_13 : decode cX4_readDivisor 13 = .ok (.ireturn, 1) := by decide +kernel
theorem dX4_readDivisor_14 : decode cX4_readDivisor 14 = .ok (.aload_n 0, 1) := by decide +kernel
theorem dX4_readDivisor_15 : decode cX4_readDivisor 15 = .ok (.dup, 1) := by decide +kernel
theorem dX4_readDivisor_16 : decode cX4_readDivisor 16 = .ok (.getfield 28, 3) := by decide +kernel
theorem dX4_readDivisor_19 : decode cX4_readDivisor 19 = .ok (.iconst 1, 1) := by decide +kernel
theorem dX4_readDivisor_20 : decode cX4_readDivisor 20 = .ok (.iadd, 1) := by decide +kernel
theorem dX4_readDivisor_21 : decode cX4_readDivisor 21 = .ok (.putfield 28, 3) := by decide +kernel
theorem dX4_readDivisor_24 : decode cX4_readDivisor 24 = .ok (.aload_n 0, 1) := by decide +kernel
theorem dX4_readDivisor_25 : decode cX4_readDivisor 25 = .ok (.invokevirtual 77, 3) := by decide +kernel
theorem dX4_readDivisor_28 : decode cX4_readDivisor 28 = .ok (.invokestatic 112, 3) := by decide +kernel
theorem dX4_readDivisor_31 : decode cX4_readDivisor 31 = .ok (.ifCond .eq 12, 3) := by decide +kernel
theorem dX4_readDivisor_34 : decode cX4_readDivisor 34 = .ok (.aload_n 0, 1) := by decide +kernel
theorem dX4_readDivisor_35 : decode cX4_readDivisor 35 = .ok (.invokevirtual 77, 3) := by decide +kernel
theorem dX4_readDivisor_38 : decode cX4_readDivisor 38 = .ok (.bipush 48, 2) := by decide +kernel
theorem dX4_readDivisor_40 : decode cX4_readDivisor 40 = .ok (.if_icmp .ne 5, 3) := by decide +kernel
theorem dX4_readDivisor_43 : decode cX4_readDivisor 43 = .ok (.iconst (-1), 1) := by decide +kernel
theorem dX4_readDivisor_44 : decode cX4_readDivisor 44 = .ok (.ireturn, 1) := by decide +kernel
theorem dX4_readDivisor_45 : decode cX4_readDivisor 45 = .ok (.aload_n 0, 1) := by decide +kernel
theorem dX4_readDivisor_46 : decode cX4_readDivisor 46 = .ok (.invokevirtual 77, 3) := by decide +kernel
theorem dX4_readDivisor_49 : decode cX4_readDivisor 49 = .ok (.bipush 48, 2) := by decide +kernel
theorem dX4_readDivisor_51 : decode cX4_readDivisor 51 = .ok (.isub, 1) := by decide +kernel
theorem dX4_readDivisor_52 : decode cX4_readDivisor 52 = .ok (.istore_n 1, 1) := by decide +kernel
theorem dX4_readDivisor_53 : decode cX4_readDivisor 53 = .ok (.aload_n 0, 1) := by decide +kernel
theorem dX4_readDivisor_54 : decode cX4_readDivisor 54 = .ok (.dup, 1) := by decide +kernel
theorem dX4_readDivisor_55 : decode cX4_readDivisor 55 = .ok (.getfield 28, 3) := by decide +kernel
theorem dX4_readDivisor_58 : decode cX4_readDivisor 58 = .ok (.iconst 1, 1) := by decide +kernel
theorem dX4_readDivisor_59 : decode cX4_readDivisor 59 = .ok (.iadd, 1) := by decide +kernel
theorem dX4_readDivisor_60 : decode cX4_readDivisor 60 = .ok (.putfield 28, 3) := by decide +kernel
theorem dX4_readDivisor_63 : decode cX4_readDivisor 63 = .ok (.iload_n 1, 1) := by decide +kernel
theorem dX4_readDivisor_64 : decode cX4_readDivisor 64 = .ok (.ireturn, 1) := by decide +kernel
theorem dX4_readEither_0 : decode cX4_readEither 0 = .ok (.iconst 0, 1) := by decide +kernel
theorem dX4_readEither_1 : decode cX4_readEither 1 = .ok (.istore_n 2, 1) := by decide +kernel
theorem dX4_readEither_2 : decode cX4_readEither 2 = .ok (.iconst 0, 1) := by decide +kernel
theorem dX4_readEither_3 : decode cX4_readEither 3 = .ok (.istore_n 3, 1) := by decide +kernel
theorem dX4_readEither_4 : decode cX4_readEither 4 = .ok (.iconst 0, 1) := by decide +kernel
theorem dX4_readEither_5 : decode cX4_readEither 5 = .ok (.istore 4, 2) := by decide +kernel
theorem dX4_readEither_7 : decode cX4_readEither 7 = .ok (.iload 4, 2) := by decide +kernel
theorem dX4_readEither_9 : decode cX4_readEither 9 = .ok (.bipush 100, 2) := by decide +kernel
theorem dX4_readEither_11 : decode cX4_readEither 11 = .ok (.if_icmp .ge 72, 3) := by decide +kernel
theorem dX4_readEither_14 : decode cX4_readEither 14 = .ok (.aload_n 0, 1) := by decide +kernel
theorem dX4_readEither_15 : decode cX4_readEither 15 = .ok (.iload_n 1, 1) := by decide +kernel
theorem dX4_readEither_16 : decode cX4_readEither 16 = .ok (.invokevirtual 115, 3) := by decide +kernel
theorem dX4_readEither_19 : decode cX4_readEither 19 = .ok (.ifCond .ne 5, 3) := by decide +kernel
theorem dX4_readEither_22 : decode cX4_readEither 22 = .ok (.iconst 0, 1) := by decide +kernel
theorem dX4_readEither_23 : decode cX4_readEither 23 = .ok (.ireturn, 1) := by decide +kernel
theorem dX4_readEither_24 : decode cX4_readEither 24 = .ok (.iload_n 2, 1) := by decide +kernel
theorem dX4_readEither_25 : decode cX4_readEither 25 = .ok (.ifCond .eq 12, 3) := by decide +kernel
theorem dX4_readEither_28 : decode cX4_readEither 28 = .ok (.aload_n 0, 1) := by decide +kernel
theorem dX4_readEither_29 : decode cX4_readEither 29 = .ok (.getfield 19, 3) := by decide +kernel
theorem dX4_readEither_32 : decode cX4_readEither 32 = .ok (.bipush (-2), 2) := by decide +kernel
theorem dX4_readEither_34 : decode cX4_readEither 34 = .ok (.invokevirtual 118, 3) := by decide +kernel
theorem dX4_readEither_37 : decode cX4_readEither 37 = .ok (.aload_n 0, 1) := by decide +kernel
theorem dX4_readEither_38 : decode cX4_readEither 38 = .ok (.bipush 38, 2) := by decide +kernel
theorem dX4_readEither_40 : decode cX4_readEither 40 = .ok (.invokevirtual 35, 3) := by decide +kernel
theorem dX4_readEither_43 : decode cX4_readEither 43 = .ok (.istore_n 2, 1) := by decide +kernel
theorem dX4_readEither_44 : decode cX4_readEither 44 = .ok (.iload_n 2, 1) := by decide +kernel
theorem dX4_readEither_45 : decode cX4_readEither 45 = .ok (.ifCond .eq 6, 3) := by decide +kernel
theorem dX4_readEither_48 : decode cX4_readEither 48 = .ok (.goto 29, 3) := by decide +kernel
theorem dX4_readEither_51 : decode cX4_readEither 51 = .ok (.iload_n 3, 1) := by decide +kernel
theorem dX4_readEither_52 : decode cX4_readEither 52 = .ok (.ifCond .eq 12, 3) := by decide +kernel
theorem dX4_readEither_55 : decode cX4_readEither 55 = .ok (.aload_n 0, 1) := by decide +kernel
theorem dX4_readEither_56 : decode cX4_readEither 56 = .ok (.getfield 19, 3) := by decide +kernel
theorem dX4_readEither_59 : decode cX4_readEither 59 = .ok (.bipush (-3), 2) := by decide +kernel
theorem dX4_readEither_61 : decode cX4_readEither 61 = .ok (.invokevirtual 118, 3) := by decide +kernel
theorem dX4_readEither_64 : decode cX4_readEither 64 = .ok (.aload_n 0, 1) := by decide +kernel
theorem dX4_readEither_65 : decode cX4_readEither 65 = .ok (.bipush 124, 2) := by decide +kernel
theorem dX4_readEither_67 : decode cX4_readEither 67 = .ok (.invokevirtual 35, 3) := by decide +kernel
theorem dX4_readEither_70 : decode cX4_readEither 70 = .ok (.istore_n 3, 1) := by decide +kernel
theorem dX4_readEither_71 : decode cX4_readEither 71 = .ok (.iload_n 3, 1) := by decide +kernel
theorem dX4_readEither_72 : decode cX4_readEither 72 = .ok (.ifCond .ne 5, 3) := by decide +kernel
theorem dX4_readEither_75 : decode cX4_readEither 75 = .ok (.iconst 1, 1) := by decide +kernel
theorem dX4_readEither_76 : decode cX4_readEither 76 = .ok (.ireturn, 1) := by decide +kernel
theorem dX4_readEither_77 : decode cX4_readEither 77 = .ok (.iinc 4 1, 3) := by decide +kernel
theorem dX4_readEither_80 : decode cX4_readEither 80 = .ok (.goto (-73), 3) := by decide +kernel
theorem dX4_readEither_83 : decode cX4_readEither 83 = .ok (.iconst 0, 1) := by decide +kernel
theorem dX4_readEither_84 : decode cX4_readEither 84 = .ok (.ireturn, 1) := by decide +kernel
theorem dX4_readSingle_0 : decode cX4_readSingle 0 = .ok (.aload_n 0, 1) := by decide +kernel
theorem dX4_readSingle_1 : decode cX4_readSingle 1 = .ok (.invokevirtual 77, 3) := by decide +kernel
theorem dX4_readSingle_4 : decode cX4_readSingle 4 = .ok (.bipush 40, 2) := by decide +kernel
theorem dX4_readSingle_6 : decode cX4_readSingle 6 = .ok (.if_icmp .eq 17, 3) := by decide +kernel
theorem dX4_readSingle_9 : decode cX4_readSingle 9 = .ok (.aload_n 0, 1) := by decide +kernel
theorem dX4_readSingle_10 : decode cX4_readSingle 10 = .ok (.invokevirtual 77, 3) := by decide +kernel
theorem dX4_readSingle_13 : decode cX4_readSingle 13 = .ok (.bipush 33, 2) := by decide +kernel
theorem dX4_readSingle_15 : decode cX4_readSingle 15 = .ok (.if_icmp .eq 8, 3) := by decide +kernel
theorem dX4_readSingle_18 : decode cX4_readSingle 18 = .ok (.aload_n 0, 1) := by decide +kernel
theorem dX4_readSingle_19 : decode cX4_readSingle 19 = .ok (.invokevirtual 122, 3) := by decide +kernel
theorem dX4_readSingle_22 : decode cX4_readSingle 22 = .ok (.ireturn, 1) := by decide +kernel
theorem dX4_readSingle_23 : decode cX4_readSingle 23 = .ok (.iload_n 1, 1) := by decide +kernel
theorem dX4_readSingle_24 : decode cX4_readSingle 24 = .ok (.iconst 4, 1) := by decide +kernel
theorem dX4_readSingle_25 : decode cX4_readSingle 25 = .ok (.if_icmp .lt 5, 3) := by decide +kernel
theorem dX4_readSingle_28 : decode cX4_readSingle 28 = .ok (.iconst 0, 1) := by decide +kernel
theorem dX4_readSingle_29 : decode cX4_readSingle 29 = .ok (.ireturn, 1) := by decide +kernel
theorem dX4_readSingle_30 : decode cX4_readSingle 30 = .ok (.aload_n 0, 1) := by decide +kernel
theorem dX4_readSingle_31 : decode cX4_readSingle 31 = .ok (.bipush 40, 2) := by decide +kernel
theorem dX4_readSingle_33 : decode cX4_readSingle 33 = .ok (.invokevirtual 35, 3) := by decide +kernel
theorem dX4_readSingle_36 : decode cX4_readSingle 36 = .ok (.ifCond .eq 28, 3) := by decide +kernel
theorem dX4_readSingle_39 : decode cX4_readSingle 39 = .ok (.aload_n 0, 1) := by decide +kernel
theorem dX4_readSingle_40 : decode cX4_readSingle 40 = .ok (.iload_n 1, 1) := by decide +kernel
theorem dX4_readSingle_41 : decode cX4_readSingle 41 = .ok (.iconst 1, 1) := by decide +kernel
theorem dX4_readSingle_42 : decode cX4_readSingle 42 = .ok (.iadd, 1) := by decide +kernel
theorem dX4_readSingle_43 : decode cX4_readSingle 43 = .ok (.invokevirtual 62, 3) := by decide +kernel
theorem dX4_readSingle_46 : decode cX4_readSingle 46 = .ok (.ifCond .eq 16, 3) := by decide +kernel
theorem dX4_readSingle_49 : decode cX4_readSingle 49 = .ok (.aload_n 0, 1) := by decide +kernel
theorem dX4_readSingle_50 : decode cX4_readSingle 50 = .ok (.bipush 41, 2) := by decide +kernel
theorem dX4_readSingle_52 : decode cX4_readSingle 52 = .ok (.invokevirtual 35, 3) := by decide +kernel
theorem dX4_readSingle_55 : decode cX4_readSingle 55 = .ok (.ifCond .eq 7, 3) := by decide +kernel
theorem dX4_readSingle_58 : decode cX4_readSingle 58 = .ok (.iconst 1, 1) := by decide +kernel
theorem dX4_readSingle_59 : decode cX4_readSingle 59 = .ok (.goto 4, 3) := by decide +kernel
theorem dX4_readSingle_62 : decode cX4_readSingle 62 = .ok (.iconst 0, 1) := by decide +kernel
theorem dX4_readSingle_63 : decode cX4_readSingle 63 = .ok (.ireturn, 1) := by decide +kernel
theorem dX4_readSingle_64 : decode cX4_readSingle 64 = .ok (.aload_n 0, 1) := by decide +kernel
theorem dX4_readSingle_65 : decode cX4_readSingle 65 = .ok (.dup, 1) := by decide +kernel
theorem dX4_readSingle_66 : decode cX4_readSingle 66 = .ok (.getfield 28, 3) := by decide +kernel
theorem dX4_readSingle_69 : decode cX4_readSingle 69 = .ok (.iconst 1, 1) := by decide +kernel
theorem dX4_readSingle_70 : decode cX4_readSingle 70 = .ok (.iadd, 1) := by decide +kernel
theorem dX4_readSingle_71 : decode cX4_readSingle 71 = .ok (.putfield 28, 3) := by decide +kernel
theorem dX4_readSingle_74 : decode cX4_readSingle 74 = .ok (.aload_n 0, 1) := by decide +kernel
theorem dX4_readSingle_75 : decode cX4_readSingle 75 = .ok (.iload_n 1, 1) := by decide +kernel
theorem dX4_readSingle_76 : decode cX4_readSingle 76 = .ok (.iconst 1, 1) := by decide +kernel
theorem dX4_readSingle_77 : decode cX4_readSingle 77 = .ok (.iadd, 1) := by decide +kernel
theorem dX4_readSingle_78 : decode cX4_readSingle 78 = .ok (.invokevirtual 115, 3) := by decide +kernel
theorem dX4_readSingle_81 : decode cX4_readSingle 81 = .ok (.ifCond .ne 5, 3) := by decide +kernel
theorem dX4_readSingle_84 : decode cX4_readSingle 84 = .ok (.iconst 0, 1) := by decide +kernel
theorem dX4_readSingle_85 : decode cX4_readSingle 85 = .ok (.ireturn, 1) := by decide +kernel
theorem dX4_readSingle_86 : decode cX4_readSingle 86 = .ok (.aload_n 0, 1) := by decide +kernel
theorem dX4_readSingle_87 : decode cX4_readSingle 87 = .ok (.getfield 19, 3) := by decide +kernel
theorem dX4_readSingle_90 : decode cX4_readSingle 90 = .ok (.iconst (-1), 1) := by decide +kernel
theorem dX4_readSingle_91 : decode cX4_readSingle 91 = .ok (.invokevirtual 118, 3) := by decide +kernel
theorem dX4_readSingle_94 : decode cX4_readSingle 94 = .ok (.iconst 1, 1) := by decide +kernel
theorem dX4_readSingle_95 : decode cX4_readSingle 95 = .ok (.ireturn, 1) := by decide +kernel
theorem dX4_readTest_0 : decode cX4_readTest 0 = .ok (.aload_n 0, 1) := by decide +kernel
theorem dX4_readTest_1 : decode cX4_readTest 1 = .ok (.ldc 125, 2) := by decide +kernel
theorem dX4_readTest_3 : decode cX4_readTest 3 = .ok (.invokevirtual 58, 3) := by decide +kernel
theorem dX4_readTest_6 : decode cX4_readTest 6 = .ok (.istore_n 1, 1) := by decide +kernel
theorem dX4_readTest_7 : decode cX4_readTest 7 = .ok (.iload_n 1, 1) := by decide +kernel
theorem dX4_readTest_8 : decode cX4_readTest 8 = .ok (.ifCond .ge 5, 3) := by decide +kernel
theorem dX4_readTest_11 : decode cX4_readTest 11 = .ok (.iconst 0, 1) := by decide +kernel
theorem dX4_readTest_12 : decode cX4_readTest 12 = .ok (.ireturn, 1) := by decide +kernel
theorem dX4_readTest_13 : decode cX4_readTest 13 = .ok (.aload_n 0, 1) := by decide +kernel
theorem dX4_readTest_14 : decode cX4_readTest 14 = .ok (.ldc 127, 2) := by decide +kernel
theorem dX4_readTest_16 : decode cX4_readTest 16 = .ok (.invokevirtual 58, 3) := by decide +kernel
theorem dX4_readTest_19 : decode cX4_readTest 19 = .ok (.istore_n 2, 1) := by decide +kernel
theorem dX4_readTest_20 : decode cX4_readTest 20 = .ok (.iload_n 2, 1) := by decide +kernel
theorem dX4_readTest_21 : decode cX4_readTest 21 = .ok (.ifCond .ge 5, 3) := by decide +kernel
theorem dX4_readTest_24 : decode cX4_readTest 24 = .ok (.iconst 0, 1) := by decide +kernel
theorem dX4_readTest_25 : decode cX4_readTest 25 = .ok (.ireturn, 1) := by decide +kernel
theorem dX4_readTest_26 : decode cX4_readTest 26 = .ok (.aload_n 0, 1) := by decide +kernel
theorem dX4_readTest_27 : decode cX4_readTest 27 = .ok (.invokevirtual 50, 3) := by decide +kernel
theorem dX4_readTest_30 : decode cX4_readTest 30 = .ok (.istore_n 3, 1) := by decide +kernel
theorem dX4_readTest_31 : decode cX4_readTest 31 = .ok (.iload_n 3, 1) := by decide +kernel
theorem dX4_readTest_32 : decode cX4_readTest 32 = .ok (.ifCond .ge 5, 3) := by decide +kernel
theorem dX4_readTest_35 : decode cX4_readTest 35 = .ok (.iconst 0, 1) := by decide +kernel
theorem dX4_readTest_36 : decode cX4_readTest 36 = .ok (.ireturn, 1) := by decide +kernel
theorem dX4_readTest_37 : decode cX4_readTest 37 = .ok (.aload_n 0, 1) := by decide +kernel
theorem dX4_readTest_38 : decode cX4_readTest 38 = .ok (.getfield 19, 3) := by decide +kernel
theorem dX4_readTest_41 : decode cX4_readTest 41 = .ok (.iload_n 1, 1) := by decide +kernel
theorem dX4_readTest_42 : decode cX4_readTest 42 = .ok (.iload_n 2, 1) := by decide +kernel
theorem dX4_readTest_43 : decode cX4_readTest 43 = .ok (.iload_n 3, 1) := by decide +kernel
theorem dX4_readTest_44 : decode cX4_readTest 44 = .ok (.invokevirtual 129, 3) := by decide +kernel
theorem dX4_readTest_47 : decode cX4_readTest 47 = .ok (.iconst 1, 1) := by decide +kernel
theorem dX4_readTest_48 : decode cX4_readTest 48 = .ok (.ireturn, 1) := by decide +kernel
theorem dX4_readOneOf_0 : decode cX4_readOneOf 0 = .ok (.aload_n 0, 1) := by decide +kernel
theorem dX4_readOneOf_1 : decode cX4_readOneOf 1 = .ok (.invokevirtual 77, 3) := by decide +kernel
theorem dX4_readOneOf_4 : decode cX4_readOneOf 4 = .ok (.ifCond .ge 7, 3) := by decide +kernel
theorem dX4_readOneOf_7 : decode cX4_readOneOf 7 = .ok (.iconst (-1), 1) := by decide +kernel
theorem dX4_readOneOf_8 : decode cX4_readOneOf 8 = .ok (.goto 12, 3) := by decide +kernel
theorem dX4_readOneOf_11 : decode cX4_readOneOf 11 = .ok (.aload_n 1, 1) := by decide +kernel
theorem dX4_readOneOf_12 : decode cX4_readOneOf 12 = .ok (.aload_n 0, 1) := by decide +kernel
theorem dX4_readOneOf_13 : decode cX4_readOneOf 13 = .ok (.invokevirtual 77, 3) := by decide +kernel
theorem dX4_readOneOf_16 : decode cX4_readOneOf 16 = .ok (.i2c, 1) := by decide +kernel
theorem dX4_readOneOf_17 : decode cX4_readOneOf 17 = .ok (.invokevirtual 133, 3) := by decide +kernel
theorem dX4_readOneOf_20 : decode cX4_readOneOf 20 = .ok (.istore_n 2, 1) := by decide +kernel
theorem dX4_readOneOf_21 : decode cX4_readOneOf 21 = .ok (.iload_n 2, 1) := by decide +kernel
theorem dX4_readOneOf_22 : decode cX4_readOneOf 22 = .ok (.ifCond .lt 13, 3) := by decide +kernel
theorem dX4_readOneOf_25 : decode cX4_readOneOf 25 = .ok (.aload_n 0, 1) := by decide +kernel
theorem dX4_readOneOf_26 : decode cX4_readOneOf 26 = .ok (.dup, 1) := by decide +kernel
theorem dX4_readOneOf_27 : decode cX4_readOneOf 27 = .ok (.getfield 28, 3) := by decide +kernel
theorem dX4_readOneOf_30 : decode cX4_readOneOf 30 = .ok (.iconst 1, 1) := by decide +kernel
theorem dX4_readOneOf_31 : decode cX4_readOneOf 31 = .ok (.iadd, 1) := by decide +kernel
theorem dX4_readOneOf_32 : decode cX4_readOneOf 32 = .ok (.putfield 28, 3) := by decide +kernel
theorem dX4_readOneOf_35 : decode cX4_readOneOf 35 = .ok (.iload_n 2, 1) := by decide +kernel
theorem dX4_readOneOf_36 : decode cX4_readOneOf 36 = .ok (.ireturn, 1) := by decide +kernel
theorem dX4_pass_0 : decode cX4_pass 0 = .ok (.aload_n 0, 1) := by decide +kernel
theorem dX4_pass_1 : decode cX4_pass 1 = .ok (.invokevirtual 77, 3) := by decide +kernel
theorem dX4_pass_4 : decode cX4_pass 4 = .ok (.iload_n 1, 1) := by decide +kernel
theorem dX4_pass_5 : decode cX4_pass 5 = .ok (.if_icmp .eq 5, 3) := by decide +kernel
theorem dX4_pass_8 : decode cX4_pass 8 = .ok (.iconst 0, 1) := by decide +kernel
theorem dX4_pass_9 : decode cX4_pass 9 = .ok (.ireturn, 1) := by decide +kernel
theorem dX4_pass_10 : decode cX4_pass 10 = .ok (.aload_n 0, 1) := by decide +kernel
theorem dX4_pass_11 : decode cX4_pass 11 = .ok (.dup, 1) := by decide +kernel
theorem dX4_pass_12 : decode cX4_pass 12 = .ok (.getfield 28, 3) := by decide +kernel
theorem dX4_pass_15 : decode cX4_pass 15 = .ok (.iconst 1, 1) := by decide +kernel
theorem dX4_pass_16 : decode cX4_pass 16 = .ok (.iadd, 1) := by decide +kernel
theorem dX4_pass_17 : decode cX4_pass 17 = .ok (.putfield 28, 3) := by decide +kernel
theorem dX4_pass_20 : decode cX4_pass 20 = .ok (.iconst 1, 1) := by decide +kernel
theorem dX4_pass_21 : decode cX4_pass 21 = .ok (.ireturn, 1) := by decide +kernel
theorem dX4_here_0 : decode cX4_here 0 = .ok (.aload_n 0, 1) := by decide +kernel
theorem dX4_here_1 : decode cX4_here 1 = .ok (.getfield 28, 3) := by decide +kernel
theorem dX4_here_4 : decode cX4_here 4 = .ok (.ifCond .lt 35, 3) := by decide +kernel
theorem dX4_here_7 : decode cX4_here 7 = .ok (.aload_n 0, 1) := by decide +kernel
theorem dX4_here_8 : decode cX4_here 8 = .ok (.getfield 28, 3) := by decide +kernel
theorem dX4_here_11 : decode cX4_here 11 = .ok (.aload_n 0, 1) := by decide +kernel
theorem dX4_here_12 : decode cX4_here 12 = .ok (.getfield 15, 3) := by decide +kernel
theorem dX4_here_15 : decode cX4_here 15 = .ok (.if_icmp .ge 24, 3) := by decide +kernel
theorem dX4_here_18 : decode cX4_here 18 = .ok (.aload_n 0, 1) := by decide +kernel
theorem dX4_here_19 : decode cX4_here 19 = .ok (.getfield 28, 3) := by decide +kernel
theorem dX4_here_22 : decode cX4_here 22 = .ok (.bipush 100, 2) := by decide +kernel
theorem dX4_here_24 : decode cX4_here 24 = .ok (.if_icmp .ge 15, 3) := by decide +kernel
theorem dX4_here_27 : decode cX4_here 27 = .ok (.aload_n 0, 1) := by decide +kernel
theorem dX4_here_28 : decode cX4_here 28 = .ok (.getfield 9, 3) := by decide +kernel
theorem dX4_here_31 : decode cX4_here 31 = .ok (.aload_n 0, 1) := by decide +kernel
theorem dX4_here_32 : decode cX4_here 32 = .ok (.getfield 28, 3) := by decide +kernel
theorem dX4_here_35 : decode cX4_here 35 = .ok (.iaload, 1) := by decide +kernel
theorem dX4_here_36 : decode cX4_here 36 = .ok (.goto 4, 3) := by decide +kernel
theorem dX4_here_39 : decode cX4_here 39 = .ok (.iconst (-1), 1) := by decide +kernel
theorem dX4_here_40 : decode cX4_here 40 = .ok (.ireturn, 1) := by decide +kernel
theorem dX4_isFigure_0 : decode cX4_isFigure 0 = .ok (.iload_n 0, 1) := by decide +kernel
theorem dX4_isFigure_1 : decode cX4_isFigure 1 = .ok (.bipush 48, 2) := by decide +kernel
theorem dX4_isFigure_3 : decode cX4_isFigure 3 = .ok (.if_icmp .lt 13, 3) := by decide +kernel
theorem dX4_isFigure_6 : decode cX4_isFigure 6 = .ok (.iload_n 0, 1) := by decide +kernel
theorem dX4_isFigure_7 : decode cX4_isFigure 7 = .ok (.bipush 57, 2) := by decide +kernel
theorem dX4_isFigure_9 : decode cX4_isFigure 9 = .ok (.if_icmp .gt 7, 3) := by decide +kernel
theorem dX4_isFigure_12 : decode cX4_isFigure 12 = .ok (.iconst 1, 1) := by decide +kernel
theorem dX4_isFigure_13 : decode cX4_isFigure 13 = .ok (.goto 4, 3) := by decide +kernel
theorem dX4_isFigure_16 : decode cX4_isFigure 16 = .ok (.iconst 0, 1) := by decide +kernel
theorem dX4_isFigure_17 : decode cX4_isFigure 17 = .ok (.ireturn, 1) := by decide +kernel
theorem dX5_init_0 : decode cX5_init 0 = .ok (.aload_n 0, 1) := by decide +kernel
theorem dX5_init_1 : decode cX5_init 1 = .ok (.invokespecial 3, 3) := by decide +kernel
theorem dX5_init_4 : decode cX5_init 4 = .ok (.return_, 1) := by decide +kernel
theorem dX5_hasOath_0 : decode cX5_hasOath 0 = .ok (.aload_n 0, 1) := by decide +kernel
theorem dX5_hasOath_1 : decode cX5_hasOath 1 = .ok (.getfield 9, 3) := by decide +kernel
theorem dX5_hasOath_4 : decode cX5_hasOath 4 = .ok (.iconst 3, 1) := by decide +kernel
theorem dX5_hasOath_5 : decode cX5_hasOath 5 = .ok (.if_icmp .eq 11, 3) := by decide +kernel
theorem dX5_hasOath_8 : decode cX5_hasOath 8 = .ok (.aload_n 0, 1) := by decide +kernel
theorem dX5_hasOath_9 : decode cX5_hasOath 9 = .ok (.getfield 9, 3) := by decide +kernel
theorem dX5_hasOath_12 : decode cX5_hasOath 12 = .ok (.iconst 4, 1) := by decide +kernel
theorem dX5_hasOath_13 : decode cX5_hasOath 13 = .ok (.if_icmp .ne 7, 3) := by decide +kernel
theorem dX5_hasOath_16 : decode cX5_hasOath 16 = .ok (.iconst 1, 1) := by decide +kernel
theorem dX5_hasOath_17 : decode cX5_hasOath 17 = .ok (.goto 4, 3) := by decide +kernel
theorem dX5_hasOath_20 : decode cX5_hasOath 20 = .ok (.iconst 0, 1) := by decide +kernel
theorem dX5_hasOath_21 : decode cX5_hasOath 21 = .ok (.ireturn, 1) := by decide +kernel
theorem dX5_canBeRolledOnto_0 : decode cX5_canBeRolledOnto 0 = .ok (.aload_n 0, 1) := by decide +kernel
theorem dX5_canBeRolledOnto_1 : decode cX5_canBeRolledOnto 1 = .ok (.getfield 15, 3) := by decide +kernel
theorem dX5_canBeRolledOnto_4 : decode cX5_canBeRolledOnto 4 = .ok (.iconst 3, 1) := by decide +kernel
theorem dX5_canBeRolledOnto_5 : decode cX5_canBeRolledOnto 5 = .ok (.if_icmp .ne 23, 3) := by decide +kernel
theorem dX5_canBeRolledOnto_8 : decode cX5_canBeRolledOnto 8 = .ok (.aload_n 0, 1) := by decide +kernel
theorem dX5_canBeRolledOnto_9 : decode cX5_canBeRolledOnto 9 = .ok (.getfield 18, 3) := by decide +kernel
theorem dX5_canBeRolledOnto_12 : decode cX5_canBeRolledOnto 12 = .ok (.bipush 6, 2) := by decide +kernel
theorem dX5_canBeRolledOnto_14 : decode cX5_canBeRolledOnto 14 = .ok (.if_icmp .eq 14, 3) := by decide +kernel
theorem dX5_canBeRolledOnto_17 : decode cX5_canBeRolledOnto 17 = .ok (.aload_n 0, 1) := by decide +kernel
theorem dX5_canBeRolledOnto_18 : decode cX5_canBeRolledOnto 18 = .ok (.getfield 21, 3) := by decide +kernel
theorem dX5_canBeRolledOnto_21 : decode cX5_canBeRolledOnto 21 = .ok (.ifCond .ne 7, 3) := by decide +kernel
theorem dX5_canBeRolledOnto_24 : decode cX5_canBeRolledOnto 24 = .ok (.iconst 1, 1) := by decide +kernel
theorem dX5_canBeRolledOnto_25 : decode cX5_canBeRolledOnto 25 = .ok (.goto 4, 3) := by decide +kernel
theorem dX5_canBeRolledOnto_28 : decode cX5_canBeRolledOnto 28 = .ok (.iconst 0, 1) := by decide +kernel
theorem dX5_canBeRolledOnto_29 : decode cX5_canBeRolledOnto 29 = .ok (.ireturn, 1) := by decide +kernel
theorem dX5_settleWith_0 : decode cX5_settleWith 0 = .ok (.aload_n 0, 1) := by decide +kernel
theorem dX5_settleWith_1 : decode cX5_settleWith 1 = .ok (.aload_n 0, 1) := by decide +kernel
theorem dX5_settleWith_2 : decode cX5_settleWith 2 = .ok (.getfield 15, 3) := by decide +kernel
theorem dX5_settleWith_5 : decode cX5_settleWith 5 = .ok (.putfield 9, 3) := by decide +kernel
theorem dX5_settleWith_8 : decode cX5_settleWith 8 = .ok (.aload_n 0, 1) := by decide +kernel
theorem dX5_settleWith_9 : decode cX5_settleWith 9 = .ok (.aload_n 0, 1) := by decide +kernel
theorem dX5_settleWith_10 : decode cX5_settleWith 10 = .ok (.getfield 24, 3) := by decide +kernel
theorem dX5_settleWith_13 : decode cX5_settleWith 13 = .ok (.putfield 27, 3) := by decide +kernel
theorem dX5_settleWith_16 : decode cX5_settleWith 16 = .ok (.aload_n 0, 1) := by decide +kernel
theorem dX5_settleWith_17 : decode cX5_settleWith 17 = .ok (.aload_n 0, 1) := by decide +kernel
theorem dX5_settleWith_18 : decode cX5_settleWith 18 = .ok (.getfield 18, 3) := by decide +kernel
theorem dX5_settleWith_21 : decode cX5_settleWith 21 = .ok (.putfield 30, 3) := by decide +kernel
theorem dX5_settleWith_24 : decode cX5_settleWith 24 = .ok (.aload_n 0, 1) := by decide +kernel
theorem dX5_settleWith_25 : decode cX5_settleWith 25 = .ok (.aload_n 0, 1) := by decide +kernel
theorem dX5_settleWith_26 : decode cX5_settleWith 26 = .ok (.getfield 21, 3) := by decide +kernel
theorem dX5_settleWith_29 : decode cX5_settleWith 29 = .ok (.putfield 33, 3) := by decide +kernel
theorem dX5_settleWith_32 : decode cX5_settleWith 32 = .ok (.aload_n 0, 1) := by decide +kernel
theorem dX5_settleWith_33 : decode cX5_settleWith 33 = .ok (.getfield 15, 3) := by decide +kernel
theorem dX5_settleWith_36 : decode cX5_settleWith 36 = .ok (.iconst 4, 1) := by decide +kernel
theorem dX5_settleWith_37 : decode cX5_settleWith 37 = .ok (.if_icmp .eq 4, 3) := by decide +kernel
theorem dX5_settleWith_40 : decode cX5_settleWith 40 = .ok (.return_, 1) := by decide +kernel
theorem dX5_settleWith_41 : decode cX5_settleWith 41 = .ok (.aload_n 1, 1) := by decide +kernel
theorem dX5_settleWith_42 : decode cX5_settleWith 42 = .ok (.ifnonnull 9, 3) := by decide +kernel
theorem dX5_settleWith_45 : decode cX5_settleWith 45 = .ok (.aload_n 0, 1) := by decide +kernel
theorem dX5_settleWith_46 : decode cX5_settleWith 46 = .ok (.iconst 5, 1) := by decide +kernel
theorem dX5_settleWith_47 : decode cX5_settleWith 47 = .ok (.putfield 9, 3) := by decide +kernel
theorem dX5_settleWith_50 : decode cX5_settleWith 50 = .ok (.return_, 1) := by decide +kernel
theorem dX5_settleWith_51 : decode cX5_settleWith 51 = .ok (.aload_n 0, 1) := by decide +kernel
theorem dX5_settleWith_52 : decode cX5_settleWith 52 = .ok (.aload_n 1, 1) := by decide +kernel
theorem dX5_settleWith_53 : decode cX5_settleWith 53 = .ok (.getfield 24, 3) := by decide +kernel
theorem dX5_settleWith_56 : decode cX5_settleWith 56 = .ok (.putfield 27, 3) := by decide +kernel
theorem dX5_settleWith_59 : decode cX5_settleWith 59 = .ok (.aload_n 0, 1) := by decide +kernel
theorem dX5_settleWith_60 : decode cX5_settleWith 60 = .ok (.aload_n 1, 1) := by decide +kernel
theorem dX5_settleWith_61 : decode cX5_settleWith 61 = .ok (.getfield 18, 3) := by decide +kernel
theorem dX5_settleWith_64 : decode cX5_settleWith 64 = .ok (.putfield 30, 3) := by decide +kernel
theorem dX5_settleWith_67 : decode cX5_settleWith 67 = .ok (.aload_n 0, 1) := by decide +kernel
theorem dX5_settleWith_68 : decode cX5_settleWith 68 = .ok (.aload_n 0, 1) := by decide +kernel
theorem dX5_settleWith_69 : decode cX5_settleWith 69 = .ok (.getfield 36, 3) := by decide +kernel
theorem dX5_settleWith_72 : decode cX5_settleWith 72 = .ok (.putfield 33, 3) := by decide +kernel
theorem dX5_settleWith_75 : decode cX5_settleWith 75 = .ok (.return_, 1) := by decide +kernel
theorem dX5_swearsInTruth_0 : decode cX5_swearsInTruth 0 = .ok (.aload_n 0, 1) := by decide +kernel
theorem dX5_swearsInTruth_1 : decode cX5_swearsInTruth 1 = .ok (.invokevirtual 39, 3) := by decide +kernel
theorem dX5_swearsInTruth_4 : decode cX5_swearsInTruth 4 = .ok (.ifCond .eq 11, 3) := by decide +kernel
theorem dX5_swearsInTruth_7 : decode cX5_swearsInTruth 7 = .ok (.aload_n 0, 1) := by decide +kernel
theorem dX5_swearsInTruth_8 : decode cX5_swearsInTruth 8 = .ok (.getfield 33, 3) := by decide +kernel
theorem dX5_swearsInTruth_11 : decode cX5_swearsInTruth 11 = .ok (.iconst 2, 1) := by decide +kernel
theorem dX5_swearsInTruth_12 : decode cX5_swearsInTruth 12 = .ok (.if_icmp .ne 5, 3) := by decide +kernel
theorem dX5_swearsInTruth_15 : decode cX5_swearsInTruth 15 = .ok (.iconst 0, 1) := by decide +kernel
theorem dX5_swearsInTruth_16 : decode cX5_swearsInTruth 16 = .ok (.ireturn, 1) := by decide +kernel
theorem dX5_swearsInTruth_17 : decode cX5_swearsInTruth 17 = .ok (.aload_n 0, 1) := by decide +kernel
theorem dX5_swearsInTruth_18 : decode cX5_swearsInTruth 18 = .ok (.getfield 33, 3) := by decide +kernel
theorem dX5_swearsInTruth_21 : decode cX5_swearsInTruth 21 = .ok (.iconst 1, 1) := by decide +kernel
theorem dX5_swearsInTruth_22 : decode cX5_swearsInTruth 22 = .ok (.if_icmp .ne 8, 3) := by decide +kernel
theorem dX5_swearsInTruth_25 : decode cX5_swearsInTruth 25 = .ok (.aload_n 0, 1) := by decide +kernel
theorem dX5_swearsInTruth_26 : decode cX5_swearsInTruth 26 = .ok (.getfield 43, 3) := by decide +kernel
theorem dX5_swearsInTruth_29 : decode cX5_swearsInTruth 29 = .ok (.ireturn, 1) := by decide +kernel
theorem dX5_swearsInTruth_30 : decode cX5_swearsInTruth 30 = .ok (.aload_n 0, 1) := by decide +kernel
theorem dX5_swearsInTruth_31 : decode cX5_swearsInTruth 31 = .ok (.getfield 47, 3) := by decide +kernel
theorem dX5_swearsInTruth_34 : decode cX5_swearsInTruth 34 = .ok (.ifCond .ne 11, 3) := by decide +kernel
theorem dX5_swearsInTruth_37 : decode cX5_swearsInTruth 37 = .ok (.aload_n 0, 1) := by decide +kernel
theorem dX5_swearsInTruth_38 : decode cX5_swearsInTruth 38 = .ok (.getfield 30, 3) := by decide +kernel
theorem dX5_swearsInTruth_41 : decode cX5_swearsInTruth 41 = .ok (.iconst 4, 1) := by decide +kernel
theorem dX5_swearsInTruth_42 : decode cX5_swearsInTruth 42 = .ok (.if_icmp .ne 7, 3) := by decide +kernel
theorem dX5_swearsInTruth_45 : decode cX5_swearsInTruth 45 = .ok (.iconst 1, 1) := by decide +kernel
theorem dX5_swearsInTruth_46 : decode cX5_swearsInTruth 46 = .ok (.goto 4, 3) := by decide +kernel
theorem dX5_swearsInTruth_49 : decode cX5_swearsInTruth 49 = .ok (.iconst 0, 1) := by decide +kernel
theorem dX5_swearsInTruth_50 : decode cX5_swearsInTruth 50 = .ok (.ireturn, 1) := by decide +kernel
theorem dX6_init_0 : decode cX6_init 0 = .ok (.aload_n 0, 1) := by decide +kernel
theorem dX6_init_1 : decode cX6_init 1 = .ok (.invokespecial 1, 3) := by decide +kernel
theorem dX6_init_4 : decode cX6_init 4 = .ok (.return_, 1) := by decide +kernel
theorem dX7_init_0 : decode cX7_init 0 = .ok (.aload_n 0, 1) := by decide +kernel
theorem dX7_init_1 : decode cX7_init 1 = .ok (.invokespecial 3, 3) := by decide +kernel
theorem dX7_init_4 : decode cX7_init 4 = .ok (.aload_n 0, 1) := by decide +kernel
theorem dX7_init_5 : decode cX7_init 5 = .ok (.bipush 60, 2) := by decide +kernel
theorem dX7_init_7 : decode cX7_init 7 = .ok (.newarray .long, 2) := by decide +kernel
theorem dX7_init_9 : decode cX7_init 9 = .ok (.putfield 9, 3) := by decide +kernel
theorem dX7_init_12 : decode cX7_init 12 = .ok (.aload_n 0, 1) := by decide +kernel
theorem dX7_init_13 : decode cX7_init 13 = .ok (.iconst (-1), 1) := by decide +kernel
theorem dX7_init_14 : decode cX7_init 14 = .ok (.putfield 15, 3) := by decide +kernel
theorem dX7_init_17 : decode cX7_init 17 = .ok (.return_, 1) := by decide +kernel
theorem dX7_become_0 : decode cX7_become 0 = .ok (.aload_n 0, 1) := by decide +kernel
theorem dX7_become_1 : decode cX7_become 1 = .ok (.iload_n 1, 1) := by decide +kernel
theorem dX7_become_2 : decode cX7_become 2 = .ok (.putfield 15, 3) := by decide +kernel
theorem dX7_become_5 : decode cX7_become 5 = .ok (.aload_n 0, 1) := by decide +kernel
theorem dX7_become_6 : decode cX7_become 6 = .ok (.iload_n 2, 1) := by decide +kernel
theorem dX7_become_7 : decode cX7_become 7 = .ok (.putfield 19, 3) := by decide +kernel
theorem dX7_become_10 : decode cX7_become 10 = .ok (.aload_n 0, 1) := by decide +kernel
theorem dX7_become_11 : decode cX7_become 11 = .ok (.getfield 9, 3) := by decide +kernel
theorem dX7_become_14 : decode cX7_become 14 = .ok (.lconst 0, 1) := by decide +kernel
theorem dX7_become_15 : decode cX7_become 15 = .ok (.invokestatic 22, 3) := by decide +kernel
theorem dX7_become_18 : decode cX7_become 18 = .ok (.return_, 1) := by decide +kernel
theorem dX7_holdsPlace_0 : decode cX7_holdsPlace 0 = .ok (.lload_n 1, 1) := by decide +kernel
theorem dX7_holdsPlace_1 : decode cX7_holdsPlace 1 = .ok (.lconst 0, 1) := by decide +kernel
theorem dX7_holdsPlace_2 : decode cX7_holdsPlace 2 = .ok (.lcmp, 1) := by decide +kernel
theorem dX7_holdsPlace_3 : decode cX7_holdsPlace 3 = .ok (.ifCond .lt 25, 3) := by decide +kernel
theorem dX7_holdsPlace_6 : decode cX7_holdsPlace 6 = .ok (.lload_n 1, 1) := by decide +kernel
theorem dX7_holdsPlace_7 : decode cX7_holdsPlace 7 = .ok (.aload_n 0, 1) := by decide +kernel
theorem dX7_holdsPlace_8 : decode cX7_holdsPlace 8 = .ok (.getfield 19, 3) := by decide +kernel
theorem dX7_holdsPlace_11 : decode cX7_holdsPlace 11 = .ok (.i2l, 1) := by decide +kernel
theorem dX7_holdsPlace_12 : decode cX7_holdsPlace 12 = .ok (.lcmp, 1) := by decide +kernel
theorem dX7_holdsPlace_13 : decode cX7_holdsPlace 13 = .ok (.ifCond .ge 15, 3) := by decide +kernel
theorem dX7_holdsPlace_16 : decode cX7_holdsPlace 16 = .ok (.lload_n 1, 1) := by decide +kernel
theorem dX7_holdsPlace_17 : decode cX7_holdsPlace 17 = .ok (.ldc2_w 28, 3) := by decide +kernel
theorem dX7_holdsPlace_20 : decode cX7_holdsPlace 20 = .ok (.lcmp, 1) := by decide +kernel
theorem dX7_holdsPlace_21 : decode cX7_holdsPlace 21 = .ok (.ifCond .ge 7, 3) := by decide +kernel
theorem dX7_holdsPlace_24 : decode cX7_holdsPlace 24 = .ok (.iconst 1, 1) := by decide +kernel
theorem dX7_holdsPlace_25 : decode cX7_holdsPlace 25 = .ok (.goto 4, 3) := by decide +kernel
theorem dX7_holdsPlace_28 : decode cX7_holdsPlace 28 = .ok (.iconst 0, 1) := by decide +kernel
theorem dX7_holdsPlace_29 : decode cX7_holdsPlace 29 = .ok (.ireturn, 1) := by decide +kernel
theorem dX7_holdsRun_0 : decode cX7_holdsRun 0 = .ok (.iload_n 1, 1) := by decide +kernel
theorem dX7_holdsRun_1 : decode cX7_holdsRun 1 = .ok (.ifCond .lt 25, 3) := by decide +kernel
theorem dX7_holdsRun_4 : decode cX7_holdsRun 4 = .ok (.iload_n 2, 1) := by decide +kernel
theorem dX7_holdsRun_5 : decode cX7_holdsRun 5 = .ok (.ifCond .lt 21, 3) := by decide +kernel
theorem dX7_holdsRun_8 : decode cX7_holdsRun 8 = .ok (.iload_n 1, 1) := by decide +kernel
theorem dX7_holdsRun_9 : decode cX7_holdsRun 9 = .ok (.i2l, 1) := by decide +kernel
theorem dX7_holdsRun_10 : decode cX7_holdsRun 10 = .ok (.iload_n 2, 1) := by decide +kernel
theorem dX7_holdsRun_11 : decode cX7_holdsRun 11 = .ok (.i2l, 1) := by decide +kernel
theorem dX7_holdsRun_12 : decode cX7_holdsRun 12 = .ok (.ladd, 1) := by decide +kernel
theorem dX7_holdsRun_13 : decode cX7_holdsRun 13 = .ok (.aload_n 0, 1) := by decide +kernel
theorem dX7_holdsRun_14 : decode cX7_holdsRun 14 = .ok (.getfield 19, 3) := by decide +kernel
theorem dX7_holdsRun_17 : decode cX7_holdsRun 17 = .ok (.i2l, 1) := by decide +kernel
theorem dX7_holdsRun_18 : decode cX7_holdsRun 18 = .ok (.lcmp, 1) := by decide +kernel
theorem dX7_holdsRun_19 : decode cX7_holdsRun 19 = .ok (.ifCond .gt 7, 3) := by decide +kernel
theorem dX7_holdsRun_22 : decode cX7_holdsRun 22 = .ok (.iconst 1, 1) := by decide +kernel
theorem dX7_holdsRun_23 : decode cX7_holdsRun 23 = .ok (.goto 4, 3) := by decide +kernel
theorem dX7_holdsRun_26 : decode cX7_holdsRun 26 = .ok (.iconst 0, 1) := by decide +kernel
theorem dX7_holdsRun_27 : decode cX7_holdsRun 27 = .ok (.ireturn, 1) := by decide +kernel
theorem dX7_cut_0 : decode cX7_cut 0 = .ok (.aload_n 0, 1) := by decide +kernel
theorem dX7_cut_1 : decode cX7_cut 1 = .ok (.getfield 15, 3) := by decide +kernel
theorem dX7_cut_4 : decode cX7_cut 4 = .ok (.tableswitch 62 0 4 #[36, 41, 46, 62, 50], 36) := by decide +kernel
theorem dX7_cut_40 : decode cX7_cut 40 = .ok (.lload_n 1, 1) := by decide +kernel
theorem dX7_cut_41 : decode cX7_cut 41 = .ok (.l2i, 1) := by decide +kernel
theorem dX7_cut_42 : decode cX7_cut 42 = .ok (.i2b, 1) := by decide +kernel
theorem dX7_cut_43 : decode cX7_cut 43 = .ok (.i2l, 1) := by decide +kernel
theorem dX7_cut_44 : decode cX7_cut 44 = .ok (.lreturn, 1) := by decide +kernel
theorem dX7_cut_45 : decode cX7_cut 45 = .ok (.lload_n 1, 1) := by decide +kernel
theorem dX7_cut_46 : decode cX7_cut 46 = .ok (.l2i, 1) := by decide +kernel
theorem dX7_cut_47 : decode cX7_cut 47 = .ok (.i2s, 1) := by decide +kernel
theorem dX7_cut_48 : decode cX7_cut 48 = .ok (.i2l, 1) := by decide +kernel
theorem dX7_cut_49 : decode cX7_cut 49 = .ok (.lreturn, 1) := by decide +kernel
theorem dX7_cut_50 : decode cX7_cut 50 = .ok (.lload_n 1, 1) := by decide +kernel
theorem dX7_cut_51 : decode cX7_cut 51 = .ok (.l2i, 1) := by decide +kernel
theorem dX7_cut_52 : decode cX7_cut 52 = .ok (.i2l, 1) := by decide +kernel
theorem dX7_cut_53 : decode cX7_cut 53 = .ok (.lreturn, 1) := by decide +kernel
theorem dX7_cut_54 : decode cX7_cut 54 = .ok (.lload_n 1, 1) := by decide +kernel
theorem dX7_cut_55 : decode cX7_cut 55 = .ok (.lconst 0, 1) := by decide +kernel
theorem dX7_cut_56 : decode cX7_cut 56 = .ok (.lcmp, 1) := by decide +kernel
theorem dX7_cut_57 : decode cX7_cut 57 = .ok (.ifCond .eq 7, 3) := by decide +kernel
theorem dX7_cut_60 : decode cX7_cut 60 = .ok (.lconst 1, 1) := by decide +kernel
theorem dX7_cut_61 : decode cX7_cut 61 = .ok (.goto 4, 3) := by decide +kernel
theorem dX7_cut_64 : decode cX7_cut 64 = .ok (.lconst 0, 1) := by decide +kernel
theorem dX7_cut_65 : decode cX7_cut 65 = .ok (.lreturn, 1) := by decide +kernel
theorem dX7_cut_66 : decode cX7_cut 66 = .ok (.lload_n 1, 1) := by decide +kernel
theorem dX7_cut_67 : decode cX7_cut 67 = .ok (.lreturn, 1) := by decide +kernel
theorem dX8_init_0 : decode cX8_init 0 = .ok (.aload_n 0, 1) := by decide +kernel
theorem dX8_init_1 : decode cX8_init 1 = .ok (.invokespecial 3, 3) := by decide +kernel
theorem dX8_init_4 : decode cX8_init 4 = .ok (.aload_n 0, 1) := by decide +kernel
theorem dX8_init_5 : decode cX8_init 5 = .ok (.bipush 8, 2) := by decide +kernel
theorem dX8_init_7 : decode cX8_init 7 = .ok (.newarray .int, 2) := by decide +kernel
theorem dX8_init_9 : decode cX8_init 9 = .ok (.putfield 11, 3) := by decide +kernel
theorem dX8_init_12 : decode cX8_init 12 = .ok (.aload_n 0, 1) := by decide +kernel
theorem dX8_init_13 : decode cX8_init 13 = .ok (.bipush 8, 2) := by decide +kernel
theorem dX8_init_15 : decode cX8_init 15 = .ok (.newarray .int, 2) := by decide +kernel
theorem dX8_init_17 : decode cX8_init 17 = .ok (.putfield 15, 3) := by decide +kernel
theorem dX8_init_20 : decode cX8_init 20 = .ok (.aload_n 0, 1) := by decide +kernel
theorem dX8_init_21 : decode cX8_init 21 = .ok (.iconst 5, 1) := by decide +kernel
theorem dX8_init_22 : decode cX8_init 22 = .ok (.anewarray 18, 3) := by decide +kernel
theorem dX8_init_25 : decode cX8_init 25 = .ok (.putfield 20, 3) := by decide +kernel
theorem dX8_init_28 : decode cX8_init 28 = .ok (.aload_n 0, 1) := by decide +kernel
theorem dX8_init_29 : decode cX8_init 29 = .ok (.bipush 24, 2) := by decide +kernel
theorem dX8_init_31 : decode cX8_init 31 = .ok (.anewarray 24, 3) := by decide +kernel
theorem dX8_init_34 : decode cX8_init 34 = .ok (.putfield 26, 3) := by decide +kernel
theorem dX8_init_37 : decode cX8_init 37 = .ok (.aload_n 0, 1) := by decide +kernel
theorem dX8_init_38 : decode cX8_init 38 = .ok (.bipush 24, 2) := by decide +kernel
theorem dX8_init_40 : decode cX8_init 40 = .ok (.anewarray 24, 3) := by decide +kernel
theorem dX8_init_43 : decode cX8_init 43 = .ok (.putfield 30, 3) := by decide +kernel
theorem dX8_init_46 : decode cX8_init 46 = .ok (.aload_n 0, 1) := by decide +kernel
theorem dX8_init_47 : decode cX8_init 47 = .ok (.bipush 6, 2) := by decide +kernel
theorem dX8_init_49 : decode cX8_init 49 = .ok (.anewarray 33, 3) := by decide +kernel
theorem dX8_init_52 : decode cX8_init 52 = .ok (.putfield 35, 3) := by decide +kernel
theorem dX8_init_55 : decode cX8_init 55 = .ok (.aload_n 0, 1) := by decide +kernel
theorem dX8_init_56 : decode cX8_init 56 = .ok (.bipush 6, 2) := by decide +kernel
theorem dX8_init_58 : decode cX8_init 58 = .ok (.anewarray 39, 3) := by decide +kernel
theorem dX8_init_61 : decode cX8_init 61 = .ok (.putfield 41, 3) := by decide +kernel
theorem dX8_init_64 : decode cX8_init 64 = .ok (.aload_n 0, 1) := by decide +kernel
theorem dX8_init_65 : decode cX8_init 65 = .ok (.new 45, 3) := by decide +kernel
theorem dX8_init_68 : decode cX8_init 68 = .ok (.dup, 1) := by decide +kernel
theorem dX8_init_69 : decode cX8_init 69 = .ok (.invokespecial 47, 3) := by decide +kernel
theorem dX8_init_72 : decode cX8_init 72 = .ok (.putfield 48, 3) := by decide +kernel
theorem dX8_init_75 : decode cX8_init 75 = .ok (.aload_n 0, 1) := by decide +kernel
theorem dX8_init_76 : decode cX8_init 76 = .ok (.new 52, 3) := by decide +kernel
theorem dX8_init_79 : decode cX8_init 79 = .ok (.dup, 1) := by decide +kernel
theorem dX8_init_80 : decode cX8_init 80 = .ok (.invokespecial 54, 3) := by decide +kernel
theorem dX8_init_83 : decode cX8_init 83 = .ok (.putfield 55, 3) := by decide +kernel
theorem dX8_init_86 : decode cX8_init 86 = .ok (.aload_n 0, 1) := by decide +kernel
theorem dX8_init_87 : decode cX8_init 87 = .ok (.new 52, 3) := by decide +kernel
theorem dX8_init_90 : decode cX8_init 90 = .ok (.dup, 1) := by decide +kernel
theorem dX8_init_91 : decode cX8_init 91 = .ok (.invokespecial 54, 3) := by decide +kernel
theorem dX8_init_94 : decode cX8_init 94 = .ok (.putfield 59, 3) := by decide +kernel
theorem dX8_init_97 : decode cX8_init 97 = .ok (.aload_n 0, 1) := by decide +kernel
theorem dX8_init_98 : decode cX8_init 98 = .ok (.new 62, 3) := by decide +kernel
theorem dX8_init_101 : decode cX8_init 101 = .ok (.dup, 1) := by decide +kernel
theorem dX8_init_102 : decode cX8_init 102 = .ok (.invokespecial 64, 3) := by decide +kernel
theorem dX8_init_105 : decode cX8_init 105 = .ok (.putfield 65, 3) := by decide +kernel
theorem dX8_init_108 : decode cX8_init 108 = .ok (.iconst 0, 1) := by decide +kernel
theorem dX8_init_109 : decode cX8_init 109 = .ok (.istore_n 1, 1) := by decide +kernel
theorem dX8_init_110 : decode cX8_init 110 = .ok (.iload_n 1, 1) := by decide +kernel
theorem dX8_init_111 : decode cX8_init 111 = .ok (.iconst 5, 1) := by decide +kernel
theorem dX8_init_112 : decode cX8_init 112 = .ok (.if_icmp .ge 22, 3) := by decide +kernel
theorem dX8_init_115 : decode cX8_init 115 = .ok (.aload_n 0, 1) := by decide +kernel
theorem dX8_init_116 : decode cX8_init 116 = .ok (.getfield 20, 3) := by decide +kernel
theorem dX8_init_119 : decode cX8_init 119 = .ok (.iload_n 1, 1) := by decide +kernel
theorem dX8_init_120 : decode cX8_init 120 = .ok (.new 18, 3) := by decide +kernel
theorem dX8_init_123 : decode cX8_init 123 = .ok (.dup, 1) := by decide +kernel
theorem dX8_init_124 : decode cX8_init 124 = .ok (.invokespecial 69, 3) := by decide +kernel
theorem dX8_init_127 : decode cX8_init 127 = .ok (.aastore, 1) := by decide +kernel
theorem dX8_init_128 : decode cX8_init 128 = .ok (.iinc 1 1, 3) := by decide +kernel
theorem dX8_init_131 : decode cX8_init 131 = .ok (.goto (-21), 3) := by decide +kernel
theorem dX8_init_134 : decode cX8_init 134 = .ok (.iconst 0, 1) := by decide +kernel
theorem dX8_init_135 : decode cX8_init 135 = .ok (.istore_n 1, 1) := by decide +kernel
theorem dX8_init_136 : decode cX8_init 136 = .ok (.iload_n 1, 1) := by decide +kernel
theorem dX8_init_137 : decode cX8_init 137 = .ok (.bipush 24, 2) := by decide +kernel
theorem dX8_init_139 : decode cX8_init 139 = .ok (.if_icmp .ge 35, 3) := by decide +kernel
theorem dX8_init_142 : decode cX8_init 142 = .ok (.aload_n 0, 1) := by decide +kernel
theorem dX8_init_143 : decode cX8_init 143 = .ok (.getfield 26, 3) := by decide +kernel
theorem dX8_init_146 : decode cX8_init 146 = .ok (.iload_n 1, 1) := by decide +kernel
theorem dX8_init_147 : decode cX8_init 147 = .ok (.new 24, 3) := by decide +kernel
theorem dX8_init_150 : decode cX8_init 150 = .ok (.dup, 1) := by decide +kernel
theorem dX8_init_151 : decode cX8_init 151 = .ok (.invokespecial 70, 3) := by decide +kernel
theorem dX8_init_154 : decode cX8_init 154 = .ok (.aastore, 1) := by decide +kernel
theorem dX8_init_155 : decode cX8_init 155 = .ok (.aload_n 0, 1) := by decide +kernel
theorem dX8_init_156 : decode cX8_init 156 = .ok (.getfield 30, 3) := by decide +kernel
theorem dX8_init_159 : decode cX8_init 159 = .ok (.iload_n 1, 1) := by decide +kernel
theorem dX8_init_160 : decode cX8_init 160 = .ok (.new 24, 3) := by decide +kernel
theorem dX8_init_163 : decode cX8_init 163 = .ok (.dup, 1) := by decide +kernel
theorem dX8_init_164 : decode cX8_init 164 = .ok (.invokespecial 70, 3) := by decide +kernel
theorem dX8_init_167 : decode cX8_init 167 = .ok (.aastore, 1) := by decide +kernel
theorem dX8_init_168 : decode cX8_init 168 = .ok (.iinc 1 1, 3) := by decide +kernel
theorem dX8_init_171 : decode cX8_init 171 = .ok (.goto (-35), 3) := by decide +kernel
theorem dX8_init_174 : decode cX8_init 174 = .ok (.iconst 0, 1) := by decide +kernel
theorem dX8_init_175 : decode cX8_init 175 = .ok (.istore_n 1, 1) := by decide +kernel
theorem dX8_init_176 : decode cX8_init 176 = .ok (.iload_n 1, 1) := by decide +kernel
theorem dX8_init_177 : decode cX8_init 177 = .ok (.bipush 6, 2) := by decide +kernel
theorem dX8_init_179 : decode cX8_init 179 = .ok (.if_icmp .ge 22, 3) := by decide +kernel
theorem dX8_init_182 : decode cX8_init 182 = .ok (.aload_n 0, 1) := by decide +kernel
theorem dX8_init_183 : decode cX8_init 183 = .ok (.getfield 35, 3) := by decide +kernel
theorem dX8_init_186 : decode cX8_init 186 = .ok (.iload_n 1, 1) := by decide +kernel
theorem dX8_init_187 : decode cX8_init 187 = .ok (.new 33, 3) := by decide +kernel
theorem dX8_init_190 : decode cX8_init 190 = .ok (.dup, 1) := by decide +kernel
theorem dX8_init_191 : decode cX8_init 191 = .ok (.invokespecial 71, 3) := by decide +kernel
theorem dX8_init_194 : decode cX8_init 194 = .ok (.aastore, 1) := by decide +kernel
theorem dX8_init_195 : decode cX8_init 195 = .ok (.iinc 1 1, 3) := by decide +kernel
theorem dX8_init_198 : decode cX8_init 198 = .ok (.goto (-22), 3) := by decide +kernel
theorem dX8_init_201 : decode cX8_init 201 = .ok (.iconst 0, 1) := by decide +kernel
theorem dX8_init_202 : decode cX8_init 202 = .ok (.istore_n 1, 1) := by decide +kernel
theorem dX8_init_203 : decode cX8_init 203 = .ok (.iload_n 1, 1) := by decide +kernel
theorem dX8_init_204 : decode cX8_init 204 = .ok (.bipush 6, 2) := by decide +kernel
theorem dX8_init_206 : decode cX8_init 206 = .ok (.if_icmp .ge 22, 3) := by decide +kernel
theorem dX8_init_209 : decode cX8_init 209 = .ok (.aload_n 0, 1) := by decide +kernel
theorem dX8_init_210 : decode cX8_init 210 = .ok (.getfield 41, 3) := by decide +kernel
theorem dX8_init_213 : decode cX8_init 213 = .ok (.iload_n 1, 1) := by decide +kernel
theorem dX8_init_214 : decode cX8_init 214 = .ok (.new 39, 3) := by decide +kernel
theorem dX8_init_217 : decode cX8_init 217 = .ok (.dup, 1) := by decide +kernel
theorem dX8_init_218 : decode cX8_init 218 = .ok (.invokespecial 72, 3) := by decide +kernel
theorem dX8_init_221 : decode cX8_init 221 = .ok (.aastore, 1) := by decide +kernel
theorem dX8_init_222 : decode cX8_init 222 = .ok (.iinc 1 1, 3) := by decide +kernel
theorem dX8_init_225 : decode cX8_init 225 = .ok (.goto (-22), 3) := by decide +kernel
theorem dX8_init_228 : decode cX8_init 228 = .ok (.return_, 1) := by decide +kernel
theorem dX8_known_0 : decode cX8_known 0 = .ok (.iload_n 1, 1) := by decide +kernel
theorem dX8_known_1 : decode cX8_known 1 = .ok (.invokestatic 73, 3) := by decide +kernel
theorem dX8_known_4 : decode cX8_known 4 = .ok (.ifCond .ne 5, 3) := by decide +kernel
theorem dX8_known_7 : decode cX8_known 7 = .ok (.iconst (-1), 1) := by decide +kernel
theorem dX8_known_8 : decode cX8_known 8 = .ok (.ireturn, 1) := by decide +kernel
theorem dX8_known_9 : decode cX8_known 9 = .ok (.iload_n 2, 1) := by decide +kernel
theorem dX8_known_10 : decode cX8_known 10 = .ok (.ifCond .lt 9, 3) := by decide +kernel
theorem dX8_known_13 : decode cX8_known 13 = .ok (.iload_n 2, 1) := by decide +kernel
theorem dX8_known_14 : decode cX8_known 14 = .ok (.bipush 31, 2) := by decide +kernel
theorem dX8_known_16 : decode cX8_known 16 = .ok (.if_icmp .le 6, 3) := by decide +kernel
theorem dX8_known_19 : decode cX8_known 19 = .ok (.bipush (-2), 2) := by decide +kernel
theorem dX8_known_21 : decode cX8_known 21 = .ok (.ireturn, 1) := by decide +kernel
theorem dX8_known_22 : decode cX8_known 22 = .ok (.aload_n 0, 1) := by decide +kernel
theorem dX8_known_23 : decode cX8_known 23 = .ok (.getfield 11, 3) := by decide +kernel
theorem dX8_known_26 : decode cX8_known 26 = .ok (.iload_n 1, 1) := by decide +kernel
theorem dX8_known_27 : decode cX8_known 27 = .ok (.iaload, 1) := by decide +kernel
theorem dX8_known_28 : decode cX8_known 28 = .ok (.istore_n 3, 1) := by decide +kernel
theorem dX8_known_29 : decode cX8_known 29 = .ok (.aload_n 0, 1) := by decide +kernel
theorem dX8_known_30 : decode cX8_known 30 = .ok (.getfield 11, 3) := by decide +kernel
theorem dX8_known_33 : decode cX8_known 33 = .ok (.iload_n 1, 1) := by decide +kernel
theorem dX8_known_34 : decode cX8_known 34 = .ok (.iload_n 2, 1) := by decide +kernel
theorem dX8_known_35 : decode cX8_known 35 = .ok (.iastore, 1) := by decide +kernel
theorem dX8_known_36 : decode cX8_known 36 = .ok (.iload_n 3, 1) := by decide +kernel
theorem dX8_known_37 : decode cX8_known 37 = .ok (.ireturn, 1) := by decide +kernel
theorem dX8_suit_0 : decode cX8_suit 0 = .ok (.iload_n 1, 1) := by decide +kernel
theorem dX8_suit_1 : decode cX8_suit 1 = .ok (.invokestatic 73, 3) := by decide +kernel
theorem dX8_suit_4 : decode cX8_suit 4 = .ok (.ifCond .eq 18, 3) := by decide +kernel
theorem dX8_suit_7 : decode cX8_suit 7 = .ok (.iload_n 2, 1) := by decide +kernel
theorem dX8_suit_8 : decode cX8_suit 8 = .ok (.invokestatic 73, 3) := by decide +kernel
theorem dX8_suit_11 : decode cX8_suit 11 = .ok (.ifCond .eq 11, 3) := by decide +kernel
theorem dX8_suit_14 : decode cX8_suit 14 = .ok (.aload_n 0, 1) := by decide +kernel
theorem dX8_suit_15 : decode cX8_suit 15 = .ok (.iload_n 3, 1) := by decide +kernel
theorem dX8_suit_16 : decode cX8_suit 16 = .ok (.invokevirtual 77, 3) := by decide +kernel
theorem dX8_suit_19 : decode cX8_suit 19 = .ok (.ifCond .ne 5, 3) := by decide +kernel
theorem dX8_suit_22 : decode cX8_suit 22 = .ok (.iconst (-1), 1) := by decide +kernel
theorem dX8_suit_23 : decode cX8_suit 23 = .ok (.ireturn, 1) := by decide +kernel
theorem dX8_suit_24 : decode cX8_suit 24 = .ok (.iload_n 1, 1) := by decide +kernel
theorem dX8_suit_25 : decode cX8_suit 25 = .ok (.iload_n 2, 1) := by decide +kernel
theorem dX8_suit_26 : decode cX8_suit 26 = .ok (.if_icmp .ne 6, 3) := by decide +kernel
theorem dX8_suit_29 : decode cX8_suit 29 = .ok (.bipush (-2), 2) := by decide +kernel
theorem dX8_suit_31 : decode cX8_suit 31 = .ok (.ireturn, 1) := by decide +kernel
theorem dX8_suit_32 : decode cX8_suit 32 = .ok (.aload_n 0, 1) := by decide +kernel
theorem dX8_suit_33 : decode cX8_suit 33 = .ok (.getfield 80, 3) := by decide +kernel
theorem dX8_suit_36 : decode cX8_suit 36 = .ok (.iconst 5, 1) := by decide +kernel
theorem dX8_suit_37 : decode cX8_suit 37 = .ok (.if_icmp .lt 6, 3) := by decide +kernel
theorem dX8_suit_40 : decode cX8_suit 40 = .ok (.bipush (-4), 2) := by decide +kernel
theorem dX8_suit_42 : decode cX8_suit 42 = .ok (.ireturn, 1) := by decide +kernel
theorem dX8_suit_43 : decode cX8_suit 43 = .ok (.aload_n 0, 1) := by decide +kernel
theorem dX8_suit_44 : decode cX8_suit 44 = .ok (.getfield 20, 3) := by decide +kernel
theorem dX8_suit_47 : decode cX8_suit 47 = .ok (.aload_n 0, 1) := by decide +kernel
theorem dX8_suit_48 : decode cX8_suit 48 = .ok (.getfield 80, 3) := by decide +kernel
theorem dX8_suit_51 : decode cX8_suit 51 = .ok (.aaload, 1) := by decide +kernel
theorem dX8_suit_52 : decode cX8_suit 52 = .ok (.astore 4, 2) := by decide +kernel
theorem dX8_suit_54 : decode cX8_suit 54 = .ok (.aload 4, 2) := by decide +kernel
theorem dX8_suit_56 : decode cX8_suit 56 = .ok (.iload_n 1, 1) := by decide +kernel
theorem dX8_suit_57 : decode cX8_suit 57 = .ok (.putfield 84, 3) := by decide +kernel
theorem dX8_suit_60 : decode cX8_suit 60 = .ok (.aload 4, 2) := by decide +kernel
theorem dX8_suit_62 : decode cX8_suit 62 = .ok (.iload_n 2, 1) := by decide +kernel
theorem dX8_suit_63 : decode cX8_suit 63 = .ok (.putfield 87, 3) := by decide +kernel
theorem dX8_suit_66 : decode cX8_suit 66 = .ok (.aload 4, 2) := by decide +kernel
theorem dX8_suit_68 : decode cX8_suit 68 = .ok (.iload_n 3, 1) := by decide +kernel
theorem dX8_suit_69 : decode cX8_suit 69 = .ok (.putfield 90, 3) := by decide +kernel
theorem dX8_suit_72 : decode cX8_suit 72 = .ok (.aload_n 0, 1) := by decide +kernel
theorem dX8_suit_73 : decode cX8_suit 73 = .ok (.dup, 1) := by decide +kernel
theorem dX8_suit_74 : decode cX8_suit 74 = .ok (.getfield 80, 3) := by decide +kernel
theorem dX8_suit_77 : decode cX8_suit 77 = .ok (.iconst 1, 1) := by decide +kernel
theorem dX8_suit_78 : decode cX8_suit 78 = .ok (.iadd, 1) := by decide +kernel
theorem dX8_suit_79 : decode cX8_suit 79 = .ok (.putfield 80, 3) := by decide +kernel
theorem dX8_suit_82 : decode cX8_suit 82 = .ok (.aload_n 0, 1) := by decide +kernel
theorem dX8_suit_83 : decode cX8_suit 83 = .ok (.getfield 80, 3) := by decide +kernel
theorem dX8_suit_86 : decode cX8_suit 86 = .ok (.iconst 1, 1) := by decide +kernel
theorem dX8_suit_87 : decode cX8_suit 87 = .ok (.isub, 1) := by decide +kernel
theorem dX8_suit_88 : decode cX8_suit 88 = .ok (.ireturn, 1) := by decide +kernel
theorem dX8_claim_0 : decode cX8_claim 0 = .ok (.aload_n 0, 1) := by decide +kernel
theorem dX8_claim_1 : decode cX8_claim 1 = .ok (.iload_n 1, 1) := by decide +kernel
theorem dX8_claim_2 : decode cX8_claim 2 = .ok (.invokevirtual 93, 3) := by decide +kernel
theorem dX8_claim_5 : decode cX8_claim 5 = .ok (.ifCond .ne 5, 3) := by decide +kernel
theorem dX8_claim_8 : decode cX8_claim 8 = .ok (.iconst (-1), 1) := by decide +kernel
theorem dX8_claim_9 : decode cX8_claim 9 = .ok (.ireturn, 1) := by decide +kernel
theorem dX8_claim_10 : decode cX8_claim 10 = .ok (.iload_n 2, 1) := by decide +kernel
theorem dX8_claim_11 : decode cX8_claim 11 = .ok (.iconst 1, 1) := by decide +kernel
theorem dX8_claim_12 : decode cX8_claim 12 = .ok (.if_icmp .lt 18, 3) := by decide +kernel
theorem dX8_claim_15 : decode cX8_claim 15 = .ok (.iload_n 2, 1) := by decide +kernel
theorem dX8_claim_16 : decode cX8_claim 16 = .ok (.bipush 99, 2) := by decide +kernel
theorem dX8_claim_18 : decode cX8_claim 18 = .ok (.if_icmp .gt 12, 3) := by decide +kernel
theorem dX8_claim_21 : decode cX8_claim 21 = .ok (.iload_n 3, 1) := by decide +kernel
theorem dX8_claim_22 : decode cX8_claim 22 = .ok (.ifCond .lt 8, 3) := by decide +kernel
theorem dX8_claim_25 : decode cX8_claim 25 = .ok (.iload_n 3, 1) := by decide +kernel
theorem dX8_claim_26 : decode cX8_claim 26 = .ok (.iconst 2, 1) := by decide +kernel
theorem dX8_claim_27 : decode cX8_claim 27 = .ok (.if_icmp .le 6, 3) := by decide +kernel
theorem dX8_claim_30 : decode cX8_claim 30 = .ok (.bipush (-2), 2) := by decide +kernel
theorem dX8_claim_32 : decode cX8_claim 32 = .ok (.ireturn, 1) := by decide +kernel
theorem dX8_claim_33 : decode cX8_claim 33 = .ok (.aload_n 0, 1) := by decide +kernel
theorem dX8_claim_34 : decode cX8_claim 34 = .ok (.getfield 96, 3) := by decide +kernel
theorem dX8_claim_37 : decode cX8_claim 37 = .ok (.bipush 24, 2) := by decide +kernel
theorem dX8_claim_39 : decode cX8_claim 39 = .ok (.if_icmp .ge 13, 3) := by decide +kernel
theorem dX8_claim_42 : decode cX8_claim 42 = .ok (.aload_n 0, 1) := by decide +kernel
theorem dX8_claim_43 : decode cX8_claim 43 = .ok (.iload_n 1, 1) := by decide +kernel
theorem dX8_claim_44 : decode cX8_claim 44 = .ok (.invokevirtual 99, 3) := by decide +kernel
theorem dX8_claim_47 : decode cX8_claim 47 = .ok (.bipush 6, 2) := by decide +kernel
theorem dX8_claim_49 : decode cX8_claim 49 = .ok (.if_icmp .lt 6, 3) := by decide +kernel
theorem dX8_claim_52 : decode cX8_claim 52 = .ok (.bipush (-4), 2) := by decide +kernel
theorem dX8_claim_54 : decode cX8_claim 54 = .ok (.ireturn, 1) := by decide +kernel
theorem dX8_claim_55 : decode cX8_claim 55 = .ok (.aload_n 0, 1) := by decide +kernel
theorem dX8_claim_56 : decode cX8_claim 56 = .ok (.getfield 26, 3) := by decide +kernel
theorem dX8_claim_59 : decode cX8_claim 59 = .ok (.aload_n 0, 1) := by decide +kernel
theorem dX8_claim_60 : decode cX8_claim 60 = .ok (.getfield 96, 3) := by decide +kernel
theorem dX8_claim_63 : decode cX8_claim 63 = .ok (.aaload, 1) := by decide +kernel
theorem dX8_claim_64 : decode cX8_claim 64 = .ok (.iload_n 1, 1) := by decide +kernel
theorem dX8_claim_65 : decode cX8_claim 65 = .ok (.iload_n 2, 1) := by decide +kernel
theorem dX8_claim_66 : decode cX8_claim 66 = .ok (.iload_n 3, 1) := by decide +kernel
theorem dX8_claim_67 : decode cX8_claim 67 = .ok (.invokevirtual 103, 3) := by decide +kernel
theorem dX8_claim_70 : decode cX8_claim 70 = .ok (.aload_n 0, 1) := by decide +kernel
theorem dX8_claim_71 : decode cX8_claim 71 = .ok (.dup, 1) := by decide +kernel
theorem dX8_claim_72 : decode cX8_claim 72 = .ok (.getfield 96, 3) := by decide +kernel
theorem dX8_claim_75 : decode cX8_claim 75 = .ok (.iconst 1, 1) := by decide +kernel
theorem dX8_claim_76 : decode cX8_claim 76 = .ok (.iadd, 1) := by decide +kernel
theorem dX8_claim_77 : decode cX8_claim 77 = .ok (.putfield 96, 3) := by decide +kernel
theorem dX8_claim_80 : decode cX8_claim 80 = .ok (.aload_n 0, 1) := by decide +kernel
theorem dX8_claim_81 : decode cX8_claim 81 = .ok (.getfield 96, 3) := by decide +kernel
theorem dX8_claim_84 : decode cX8_claim 84 = .ok (.iconst 1, 1) := by decide +kernel
theorem dX8_claim_85 : decode cX8_claim 85 = .ok (.isub, 1) := by decide +kernel
theorem dX8_claim_86 : decode cX8_claim 86 = .ok (.ireturn, 1) := by decide +kernel
theorem dX8_answer_0 : decode cX8_answer 0 = .ok (.aload_n 0, 1) := by decide +kernel
theorem dX8_answer_1 : decode cX8_answer 1 = .ok (.iload_n 1, 1) := by decide +kernel
theorem dX8_answer_2 : decode cX8_answer 2 = .ok (.invokevirtual 107, 3) := by decide +kernel
theorem dX8_answer_5 : decode cX8_answer 5 = .ok (.ifCond .ne 5, 3) := by decide +kernel
theorem dX8_answer_8 : decode cX8_answer 8 = .ok (.iconst (-1), 1) := by decide +kernel
theorem dX8_answer_9 : decode cX8_answer 9 = .ok (.ireturn, 1) := by decide +kernel
theorem dX8_answer_10 : decode cX8_answer 10 = .ok (.aload_n 0, 1) := by decide +kernel
theorem dX8_answer_11 : decode cX8_answer 11 = .ok (.getfield 26, 3) := by decide +kernel
theorem dX8_answer_14 : decode cX8_answer 14 = .ok (.iload_n 1, 1) := by decide +kernel
theorem dX8_answer_15 : decode cX8_answer 15 = .ok (.aaload, 1) := by decide +kernel
theorem dX8_answer_16 : decode cX8_answer 16 = .ok (.astore 4, 2) := by decide +kernel
theorem dX8_answer_18 : decode cX8_answer 18 = .ok (.iload_n 2, 1) := by decide +kernel
theorem dX8_answer_19 : decode cX8_answer 19 = .ok (.ifCond .lt 12, 3) := by decide +kernel
theorem dX8_answer_22 : decode cX8_answer 22 = .ok (.iload_n 2, 1) := by decide +kernel
theorem dX8_answer_23 : decode cX8_answer 23 = .ok (.aload 4, 2) := by decide +kernel
theorem dX8_answer_25 : decode cX8_answer 25 = .ok (.getfield 110, 3) := by decide +kernel
theorem dX8_answer_28 : decode cX8_answer 28 = .ok (.if_icmp .le 6, 3) := by decide +kernel
theorem dX8_answer_31 : decode cX8_answer 31 = .ok (.bipush (-2), 2) := by decide +kernel
theorem dX8_answer_33 : decode cX8_answer 33 = .ok (.ireturn, 1) := by decide +kernel
theorem dX8_answer_34 : decode cX8_answer 34 = .ok (.aload 4, 2) := by decide +kernel
theorem dX8_answer_36 : decode cX8_answer 36 = .ok (.getfield 113, 3) := by decide +kernel
theorem dX8_answer_39 : decode cX8_answer 39 = .ok (.istore 5, 2) := by decide +kernel
theorem dX8_answer_41 : decode cX8_answer 41 = .ok (.aload 4, 2) := by decide +kernel
theorem dX8_answer_43 : decode cX8_answer 43 = .ok (.iload_n 2, 1) := by decide +kernel
theorem dX8_answer_44 : decode cX8_answer 44 = .ok (.putfield 113, 3) := by decide +kernel
theorem dX8_answer_47 : decode cX8_answer 47 = .ok (.aload 4, 2) := by decide +kernel
theorem dX8_answer_49 : decode cX8_answer 49 = .ok (.iload_n 3, 1) := by decide +kernel
theorem dX8_answer_50 : decode cX8_answer 50 = .ok (.ifCond .eq 7, 3) := by decide +kernel
theorem dX8_answer_53 : decode cX8_answer 53 = .ok (.iconst 1, 1) := by decide +kernel
theorem dX8_answer_54 : decode cX8_answer 54 = .ok (.goto 4, 3) := by decide +kernel
theorem dX8_answer_57 : decode cX8_answer 57 = .ok (.iconst 0, 1) := by decide +kernel
theorem dX8_answer_58 : decode cX8_answer 58 = .ok (.putfield 116, 3) := by decide +kernel
theorem dX8_answer_61 : decode cX8_answer 61 = .ok (.iload 5, 2) := by decide +kernel
theorem dX8_answer_63 : decode cX8_answer 63 = .ok (.ireturn, 1) := by decide +kernel
theorem dX8_proof_0 : decode cX8_proof 0 = .ok (.aload_n 0, 1) := by decide +kernel
theorem dX8_proof_1 : decode cX8_proof 1 = .ok (.iload_n 1, 1) := by decide +kernel
theorem dX8_proof_2 : decode cX8_proof 2 = .ok (.invokevirtual 107, 3) := by decide +kernel
theorem dX8_proof_5 : decode cX8_proof 5 = .ok (.ifCond .eq 12, 3) := by decide +kernel
theorem dX8_proof_8 : decode cX8_proof 8 = .ok (.iload_n 2, 1) := by decide +kernel
theorem dX8_proof_9 : decode cX8_proof 9 = .ok (.ifCond .lt 8, 3) := by decide +kernel
theorem dX8_proof_12 : decode cX8_proof 12 = .ok (.iload_n 2, 1) := by decide +kernel
theorem dX8_proof_13 : decode cX8_proof 13 = .ok (.iconst 3, 1) := by decide +kernel
theorem dX8_proof_14 : decode cX8_proof 14 = .ok (.if_icmp .le 5, 3) := by decide +kernel
theorem dX8_proof_17 : decode cX8_proof 17 = .ok (.iconst (-1), 1) := by decide +kernel
theorem dX8_proof_18 : decode cX8_proof 18 = .ok (.ireturn, 1) := by decide +kernel
theorem dX8_proof_19 : decode cX8_proof 19 = .ok (.iload_n 2, 1) := by decide +kernel
theorem dX8_proof_20 : decode cX8_proof 20 = .ok (.ifCond .ne 7, 3) := by decide +kernel
theorem dX8_proof_23 : decode cX8_proof 23 = .ok (.iconst 3, 1) := by decide +kernel
theorem dX8_proof_24 : decode cX8_proof 24 = .ok (.goto 4, 3) := by decide +kernel
theorem dX8_proof_27 : decode cX8_proof 27 = .ok (.iconst 1, 1) := by decide +kernel
theorem dX8_proof_28 : decode cX8_proof 28 = .ok (.istore 4, 2) := by decide +kernel
theorem dX8_proof_30 : decode cX8_proof 30 = .ok (.iload_n 3, 1) := by decide +kernel
theorem dX8_proof_31 : decode cX8_proof 31 = .ok (.ifCond .lt 9, 3) := by decide +kernel
theorem dX8_proof_34 : decode cX8_proof 34 = .ok (.iload_n 3, 1) := by decide +kernel
theorem dX8_proof_35 : decode cX8_proof 35 = .ok (.iload 4, 2) := by decide +kernel
theorem dX8_proof_37 : decode cX8_proof 37 = .ok (.if_icmp .le 6, 3) := by decide +kernel
theorem dX8_proof_40 : decode cX8_proof 40 = .ok (.bipush (-2), 2) := by decide +kernel
theorem dX8_proof_42 : decode cX8_proof 42 = .ok (.ireturn, 1) := by decide +kernel
theorem dX8_proof_43 : decode cX8_proof 43 = .ok (.aload_n 0, 1) := by decide +kernel
theorem dX8_proof_44 : decode cX8_proof 44 = .ok (.getfield 26, 3) := by decide +kernel
theorem dX8_proof_47 : decode cX8_proof 47 = .ok (.iload_n 1, 1) := by decide +kernel
theorem dX8_proof_48 : decode cX8_proof 48 = .ok (.aaload, 1) := by decide +kernel
theorem dX8_proof_49 : decode cX8_proof 49 = .ok (.iload_n 2, 1) := by decide +kernel
theorem dX8_proof_50 : decode cX8_proof 50 = .ok (.iload_n 3, 1) := by decide +kernel
theorem dX8_proof_51 : decode cX8_proof 51 = .ok (.invokevirtual 119, 3) := by decide +kernel
theorem dX8_proof_54 : decode cX8_proof 54 = .ok (.ireturn, 1) := by decide +kernel
theorem dX8_truth_0 : decode cX8_truth 0 = .ok (.aload_n 0, 1) := by decide +kernel
theorem dX8_truth_1 : decode cX8_truth 1 = .ok (.iload_n 1, 1) := by decide +kernel
theorem dX8_truth_2 : decode cX8_truth 2 = .ok (.invokevirtual 107, 3) := by decide +kernel
theorem dX8_truth_5 : decode cX8_truth 5 = .ok (.ifCond .ne 5, 3) := by decide +kernel
theorem dX8_truth_8 : decode cX8_truth 8 = .ok (.iconst (-1), 1) := by decide +kernel
theorem dX8_truth_9 : decode cX8_truth 9 = .ok (.ireturn, 1) := by decide +kernel
theorem dX8_truth_10 : decode cX8_truth 10 = .ok (.iload_n 2, 1) := by decide +kernel
theorem dX8_truth_11 : decode cX8_truth 11 = .ok (.ifCond .lt 9, 3) := by decide +kernel
theorem dX8_truth_14 : decode cX8_truth 14 = .ok (.iload_n 2, 1) := by decide +kernel
theorem dX8_truth_15 : decode cX8_truth 15 = .ok (.bipush 99, 2) := by decide +kernel
theorem dX8_truth_17 : decode cX8_truth 17 = .ok (.if_icmp .le 6, 3) := by decide +kernel
theorem dX8_truth_20 : decode cX8_truth 20 = .ok (.bipush (-2), 2) := by decide +kernel
theorem dX8_truth_22 : decode cX8_truth 22 = .ok (.ireturn, 1) := by decide +kernel
theorem dX8_truth_23 : decode cX8_truth 23 = .ok (.aload_n 0, 1) := by decide +kernel
theorem dX8_truth_24 : decode cX8_truth 24 = .ok (.getfield 26, 3) := by decide +kernel
theorem dX8_truth_27 : decode cX8_truth 27 = .ok (.iload_n 1, 1) := by decide +kernel
theorem dX8_truth_28 : decode cX8_truth 28 = .ok (.aaload, 1) := by decide +kernel
theorem dX8_truth_29 : decode cX8_truth 29 = .ok (.getfield 123, 3) := by decide +kernel
theorem dX8_truth_32 : decode cX8_truth 32 = .ok (.istore_n 3, 1) := by decide +kernel
theorem dX8_truth_33 : decode cX8_truth 33 = .ok (.aload_n 0, 1) := by decide +kernel
theorem dX8_truth_34 : decode cX8_truth 34 = .ok (.getfield 26, 3) := by decide +kernel
theorem dX8_truth_37 : decode cX8_truth 37 = .ok (.iload_n 1, 1) := by decide +kernel
theorem dX8_truth_38 : decode cX8_truth 38 = .ok (.aaload, 1) := by decide +kernel
theorem dX8_truth_39 : decode cX8_truth 39 = .ok (.iload_n 2, 1) := by decide +kernel
theorem dX8_truth_40 : decode cX8_truth 40 = .ok (.putfield 123, 3) := by decide +kernel
theorem dX8_truth_43 : decode cX8_truth 43 = .ok (.iload_n 3, 1) := by decide +kernel
theorem dX8_truth_44 : decode cX8_truth 44 = .ok (.ireturn, 1) := by decide +kernel
theorem dX8_of_0 : decode cX8_of 0 = .ok (.aload_n 0, 1) := by decide +kernel
theorem dX8_of_1 : decode cX8_of 1 = .ok (.iload_n 1, 1) := by decide +kernel
theorem dX8_of_2 : decode cX8_of 2 = .ok (.invokevirtual 107, 3) := by decide +kernel
theorem dX8_of_5 : decode cX8_of 5 = .ok (.ifCond .eq 16, 3) := by decide +kernel
theorem dX8_of_8 : decode cX8_of 8 = .ok (.aload_n 0, 1) := by decide +kernel
theorem dX8_of_9 : decode cX8_of 9 = .ok (.getfield 26, 3) := by decide +kernel
theorem dX8_of_12 : decode cX8_of 12 = .ok (.iload_n 1, 1) := by decide +kernel
theorem dX8_of_13 : decode cX8_of 13 = .ok (.aaload, 1) := by decide +kernel
theorem dX8_of_14 : decode cX8_of 14 = .ok (.iload_n 2, 1) := by decide +kernel
theorem dX8_of_15 : decode cX8_of 15 = .ok (.invokevirtual 126, 3) := by decide +kernel
theorem dX8_of_18 : decode cX8_of 18 = .ok (.goto 4, 3) := by decide +kernel
theorem dX8_of_21 : decode cX8_of 21 = .ok (.iconst (-1), 1) := by decide +kernel
theorem dX8_of_22 : decode cX8_of 22 = .ok (.ireturn, 1) := by decide +kernel
theorem dX8_feed_0 : decode cX8_feed 0 = .ok (.iload_n 2, 1) := by decide +kernel
theorem dX8_feed_1 : decode cX8_feed 1 = .ok (.ifCond .lt 8, 3) := by decide +kernel
theorem dX8_feed_4 : decode cX8_feed 4 = .ok (.iload_n 2, 1) := by decide +kernel
theorem dX8_feed_5 : decode cX8_feed 5 = .ok (.iconst 4, 1) := by decide +kernel
theorem dX8_feed_6 : decode cX8_feed 6 = .ok (.if_icmp .le 6, 3) := by decide +kernel
theorem dX8_feed_9 : decode cX8_feed 9 = .ok (.bipush (-2), 2) := by decide +kernel
theorem dX8_feed_11 : decode cX8_feed 11 = .ok (.ireturn, 1) := by decide +kernel
theorem dX8_feed_12 : decode cX8_feed 12 = .ok (.aload_n 0, 1) := by decide +kernel
theorem dX8_feed_13 : decode cX8_feed 13 = .ok (.getfield 48, 3) := by decide +kernel
theorem dX8_feed_16 : decode cX8_feed 16 = .ok (.getfield 129, 3) := by decide +kernel
theorem dX8_feed_19 : decode cX8_feed 19 = .ok (.iload_n 2, 1) := by decide +kernel
theorem dX8_feed_20 : decode cX8_feed 20 = .ok (.iadd, 1) := by decide +kernel
theorem dX8_feed_21 : decode cX8_feed 21 = .ok (.bipush 100, 2) := by decide +kernel
theorem dX8_feed_23 : decode cX8_feed 23 = .ok (.if_icmp .le 6, 3) := by decide +kernel
theorem dX8_feed_26 : decode cX8_feed 26 = .ok (.bipush (-4), 2) := by decide +kernel
theorem dX8_feed_28 : decode cX8_feed 28 = .ok (.ireturn, 1) := by decide +kernel
theorem dX8_feed_29 : decode cX8_feed 29 = .ok (.iload_n 2, 1) := by decide +kernel
theorem dX8_feed_30 : decode cX8_feed 30 = .ok (.iconst 1, 1) := by decide +kernel
theorem dX8_feed_31 : decode cX8_feed 31 = .ok (.isub, 1) := by decide +kernel
theorem dX8_feed_32 : decode cX8_feed 32 = .ok (.istore_n 3, 1) := by decide +kernel
theorem dX8_feed_33 : decode cX8_feed 33 = .ok (.iload_n 3, 1) := by decide +kernel
theorem dX8_feed_34 : decode cX8_feed 34 = .ok (.ifCond .lt 26, 3) := by decide +kernel
theorem dX8_feed_37 : decode cX8_feed 37 = .ok (.aload_n 0, 1) := by decide +kernel
theorem dX8_feed_38 : decode cX8_feed 38 = .ok (.getfield 48, 3) := by decide +kernel
theorem dX8_feed_41 : decode cX8_feed 41 = .ok (.iload_n 1, 1) := by decide +kernel
theorem dX8_feed_42 : decode cX8_feed 42 = .ok (.bipush 8, 2) := by decide +kernel
theorem dX8_feed_44 : decode cX8_feed 44 = .ok (.iload_n 3, 1) := by decide +kernel
theorem dX8_feed_45 : decode cX8_feed 45 = .ok (.imul, 1) := by decide +kernel
theorem dX8_feed_46 : decode cX8_feed 46 = .ok (.iushr, 1) := by decide +kernel
theorem dX8_feed_47 : decode cX8_feed 47 = .ok (.sipush 255, 3) := by decide +kernel
theorem dX8_feed_50 : decode cX8_feed 50 = .ok (.iand, 1) := by decide +kernel
theorem dX8_feed_51 : decode cX8_feed 51 = .ok (.invokevirtual 132, 3) := by decide +kernel
theorem dX8_feed_54 : decode cX8_feed 54 = .ok (.iinc 3 (-1), 3) := by decide +kernel
theorem dX8_feed_57 : decode cX8_feed 57 = .ok (.goto (-24), 3) := by decide +kernel
theorem dX8_feed_60 : decode cX8_feed 60 = .ok (.aload_n 0, 1) := by decide +kernel
theorem dX8_feed_61 : decode cX8_feed 61 = .ok (.getfield 48, 3) := by decide +kernel
theorem dX8_feed_64 : decode cX8_feed 64 = .ok (.getfield 129, 3) := by decide +kernel
theorem dX8_feed_67 : decode cX8_feed 67 = .ok (.ireturn, 1) := by decide +kernel
theorem dX8_law_0 : decode cX8_law 0 = .ok (.aload_n 0, 1) := by decide +kernel
theorem dX8_law_1 : decode cX8_law 1 = .ok (.getfield 136, 3) := by decide +kernel
theorem dX8_law_4 : decode cX8_law 4 = .ok (.bipush 6, 2) := by decide +kernel
theorem dX8_law_6 : decode cX8_law 6 = .ok (.if_icmp .lt 6, 3) := by decide +kernel
theorem dX8_law_9 : decode cX8_law 9 = .ok (.bipush (-4), 2) := by decide +kernel
theorem dX8_law_11 : decode cX8_law 11 = .ok (.ireturn, 1) := by decide +kernel
theorem dX8_law_12 : decode cX8_law 12 = .ok (.aload_n 0, 1) := by decide +kernel
theorem dX8_law_13 : decode cX8_law 13 = .ok (.getfield 48, 3) := by decide +kernel
theorem dX8_law_16 : decode cX8_law 16 = .ok (.aload_n 0, 1) := by decide +kernel
theorem dX8_law_17 : decode cX8_law 17 = .ok (.getfield 35, 3) := by decide +kernel
theorem dX8_law_20 : decode cX8_law 20 = .ok (.aload_n 0, 1) := by decide +kernel
theorem dX8_law_21 : decode cX8_law 21 = .ok (.getfield 136, 3) := by decide +kernel
theorem dX8_law_24 : decode cX8_law 24 = .ok (.aaload, 1) := by decide +kernel
theorem dX8_law_25 : decode cX8_law 25 = .ok (.invokevirtual 139, 3) := by decide +kernel
theorem dX8_law_28 : decode cX8_law 28 = .ok (.istore_n 1, 1) := by decide +kernel
theorem dX8_law_29 : decode cX8_law 29 = .ok (.aload_n 0, 1) := by decide +kernel
theorem dX8_law_30 : decode cX8_law 30 = .ok (.getfield 48, 3) := by decide +kernel
theorem dX8_law_33 : decode cX8_law 33 = .ok (.iconst 0, 1) := by decide +kernel
theorem dX8_law_34 : decode cX8_law 34 = .ok (.putfield 129, 3) := by decide +kernel
theorem dX8_law_37 : decode cX8_law 37 = .ok (.iload_n 1, 1) := by decide +kernel
theorem dX8_law_38 : decode cX8_law 38 = .ok (.ifCond .ne 14, 3) := by decide +kernel
theorem dX8_law_41 : decode cX8_law 41 = .ok (.bipush (-10), 2) := by decide +kernel
theorem dX8_law_43 : decode cX8_law 43 = .ok (.aload_n 0, 1) := by decide +kernel
theorem dX8_law_44 : decode cX8_law 44 = .ok (.getfield 48, 3) := by decide +kernel
theorem dX8_law_47 : decode cX8_law 47 = .ok (.getfield 143, 3) := by decide +kernel
theorem dX8_law_50 : decode cX8_law 50 = .ok (.isub, 1) := by decide +kernel
theorem dX8_law_51 : decode cX8_law 51 = .ok (.ireturn, 1) := by decide +kernel
theorem dX8_law_52 : decode cX8_law 52 = .ok (.aload_n 0, 1) := by decide +kernel
theorem dX8_law_53 : decode cX8_law 53 = .ok (.dup, 1) := by decide +kernel
theorem dX8_law_54 : decode cX8_law 54 = .ok (.getfield 136, 3) := by decide +kernel
theorem dX8_law_57 : decode cX8_law 57 = .ok (.iconst 1, 1) := by decide +kernel
theorem dX8_law_58 : decode cX8_law 58 = .ok (.iadd, 1) := by decide +kernel
theorem dX8_law_59 : decode cX8_law 59 = .ok (.putfield 136, 3) := by decide +kernel
theorem dX8_law_62 : decode cX8_law 62 = .ok (.aload_n 0, 1) := by decide +kernel
theorem dX8_law_63 : decode cX8_law 63 = .ok (.getfield 136, 3) := by decide +kernel
theorem dX8_law_66 : decode cX8_law 66 = .ok (.iconst 1, 1) := by decide +kernel
theorem dX8_law_67 : decode cX8_law 67 = .ok (.isub, 1) := by decide +kernel
theorem dX8_law_68 : decode cX8_law 68 = .ok (.ireturn, 1) := by decide +kernel
theorem dX8_comes_0 : decode cX8_comes 0 = .ok (.aload_n 0, 1) := by decide +kernel
theorem dX8_comes_1 : decode cX8_comes 1 = .ok (.iload_n 1, 1) := by decide +kernel
theorem dX8_comes_2 : decode cX8_comes 2 = .ok (.invokevirtual 107, 3) := by decide +kernel
theorem dX8_comes_5 : decode cX8_comes 5 = .ok (.ifCond .ne 5, 3) := by decide +kernel
theorem dX8_comes_8 : decode cX8_comes 8 = .ok (.iconst (-1), 1) := by decide +kernel
theorem dX8_comes_9 : decode cX8_comes 9 = .ok (.ireturn, 1) := by decide +kernel
theorem dX8_comes_10 : decode cX8_comes 10 = .ok (.aload_n 0, 1) := by decide +kernel
theorem dX8_comes_11 : decode cX8_comes 11 = .ok (.getfield 26, 3) := by decide +kernel
theorem dX8_comes_14 : decode cX8_comes 14 = .ok (.iload_n 1, 1) := by decide +kernel
theorem dX8_comes_15 : decode cX8_comes 15 = .ok (.aaload, 1) := by decide +kernel
theorem dX8_comes_16 : decode cX8_comes 16 = .ok (.getfield 146, 3) := by decide +kernel
theorem dX8_comes_19 : decode cX8_comes 19 = .ok (.istore_n 2, 1) := by decide +kernel
theorem dX8_comes_20 : decode cX8_comes 20 = .ok (.aload_n 0, 1) := by decide +kernel
theorem dX8_comes_21 : decode cX8_comes 21 = .ok (.aload_n 0, 1) := by decide +kernel
theorem dX8_comes_22 : decode cX8_comes 22 = .ok (.getfield 55, 3) := by decide +kernel
theorem dX8_comes_25 : decode cX8_comes 25 = .ok (.iload_n 2, 1) := by decide +kernel
theorem dX8_comes_26 : decode cX8_comes 26 = .ok (.aload_n 0, 1) := by decide +kernel
theorem dX8_comes_27 : decode cX8_comes 27 = .ok (.getfield 20, 3) := by decide +kernel
theorem dX8_comes_30 : decode cX8_comes 30 = .ok (.iload_n 2, 1) := by decide +kernel
theorem dX8_comes_31 : decode cX8_comes 31 = .ok (.aaload, 1) := by decide +kernel
theorem dX8_comes_32 : decode cX8_comes 32 = .ok (.getfield 90, 3) := by decide +kernel
theorem dX8_comes_35 : decode cX8_comes 35 = .ok (.invokevirtual 149, 3) := by decide +kernel
theorem dX8_comes_38 : decode cX8_comes 38 = .ok (.aload_n 0, 1) := by decide +kernel
theorem dX8_comes_39 : decode cX8_comes 39 = .ok (.getfield 55, 3) := by decide +kernel
theorem dX8_comes_42 : decode cX8_comes 42 = .ok (.iload_n 1, 1) := by decide +kernel
theorem dX8_comes_43 : decode cX8_comes 43 = .ok (.invokevirtual 153, 3) := by decide +kernel
theorem dX8_comes_46 : decode cX8_comes 46 = .ok (.ireturn, 1) := by decide +kernel
theorem dX8_due_0 : decode cX8_due 0 = .ok (.aload_n 0, 1) := by decide +kernel
theorem dX8_due_1 : decode cX8_due 1 = .ok (.iload_n 1, 1) := by decide +kernel
theorem dX8_due_2 : decode cX8_due 2 = .ok (.invokevirtual 107, 3) := by decide +kernel
theorem dX8_due_5 : decode cX8_due 5 = .ok (.ifCond .eq 12, 3) := by decide +kernel
theorem dX8_due_8 : decode cX8_due 8 = .ok (.iload_n 2, 1) := by decide +kernel
theorem dX8_due_9 : decode cX8_due 9 = .ok (.ifCond .lt 8, 3) := by decide +kernel
theorem dX8_due_12 : decode cX8_due 12 = .ok (.iload_n 2, 1) := by decide +kernel
theorem dX8_due_13 : decode cX8_due 13 = .ok (.iconst 2, 1) := by decide +kernel
theorem dX8_due_14 : decode cX8_due 14 = .ok (.if_icmp .le 5, 3) := by decide +kernel
theorem dX8_due_17 : decode cX8_due 17 = .ok (.iconst (-1), 1) := by decide +kernel
theorem dX8_due_18 : decode cX8_due 18 = .ok (.ireturn, 1) := by decide +kernel
theorem dX8_due_19 : decode cX8_due 19 = .ok (.aload_n 0, 1) := by decide +kernel
theorem dX8_due_20 : decode cX8_due 20 = .ok (.getfield 26, 3) := by decide +kernel
theorem dX8_due_23 : decode cX8_due 23 = .ok (.iload_n 1, 1) := by decide +kernel
theorem dX8_due_24 : decode cX8_due 24 = .ok (.aaload, 1) := by decide +kernel
theorem dX8_due_25 : decode cX8_due 25 = .ok (.getfield 146, 3) := by decide +kernel
theorem dX8_due_28 : decode cX8_due 28 = .ok (.istore_n 3, 1) := by decide +kernel
theorem dX8_due_29 : decode cX8_due 29 = .ok (.aload_n 0, 1) := by decide +kernel
theorem dX8_due_30 : decode cX8_due 30 = .ok (.aload_n 0, 1) := by decide +kernel
theorem dX8_due_31 : decode cX8_due 31 = .ok (.getfield 55, 3) := by decide +kernel
theorem dX8_due_34 : decode cX8_due 34 = .ok (.iload_n 3, 1) := by decide +kernel
theorem dX8_due_35 : decode cX8_due 35 = .ok (.aload_n 0, 1) := by decide +kernel
theorem dX8_due_36 : decode cX8_due 36 = .ok (.getfield 20, 3) := by decide +kernel
theorem dX8_due_39 : decode cX8_due 39 = .ok (.iload_n 3, 1) := by decide +kernel
theorem dX8_due_40 : decode cX8_due 40 = .ok (.aaload, 1) := by decide +kernel
theorem dX8_due_41 : decode cX8_due 41 = .ok (.getfield 90, 3) := by decide +kernel
theorem dX8_due_44 : decode cX8_due 44 = .ok (.invokevirtual 149, 3) := by decide +kernel
theorem dX8_due_47 : decode cX8_due 47 = .ok (.aload_n 0, 1) := by decide +kernel
theorem dX8_due_48 : decode cX8_due 48 = .ok (.getfield 55, 3) := by decide +kernel
theorem dX8_due_51 : decode cX8_due 51 = .ok (.iload_n 1, 1) := by decide +kernel
theorem dX8_due_52 : decode cX8_due 52 = .ok (.invokevirtual 156, 3) := by decide +kernel
theorem dX8_due_55 : decode cX8_due 55 = .ok (.astore 4, 2) := by decide +kernel
theorem dX8_due_57 : decode cX8_due 57 = .ok (.aload 4, 2) := by decide +kernel
theorem dX8_due_59 : decode cX8_due 59 = .ok (.ifnull 11, 3) := by decide +kernel
theorem dX8_due_62 : decode cX8_due 62 = .ok (.aload 4, 2) := by decide +kernel
theorem dX8_due_64 : decode cX8_due 64 = .ok (.invokevirtual 160, 3) := by decide +kernel
theorem dX8_due_67 : decode cX8_due 67 = .ok (.ifCond .ne 6, 3) := by decide +kernel
theorem dX8_due_70 : decode cX8_due 70 = .ok (.bipush (-5), 2) := by decide +kernel
theorem dX8_due_72 : decode cX8_due 72 = .ok (.ireturn, 1) := by decide +kernel
theorem dX8_due_73 : decode cX8_due 73 = .ok (.iload_n 2, 1) := by decide +kernel
theorem dX8_due_74 : decode cX8_due 74 = .ok (.ifCond .ne 9, 3) := by decide +kernel
theorem dX8_due_77 : decode cX8_due 77 = .ok (.aload 4, 2) := by decide +kernel
theorem dX8_due_79 : decode cX8_due 79 = .ok (.getfield 166, 3) := by decide +kernel
theorem dX8_due_82 : decode cX8_due 82 = .ok (.ireturn, 1) := by decide +kernel
theorem dX8_due_83 : decode cX8_due 83 = .ok (.iload_n 2, 1) := by decide +kernel
theorem dX8_due_84 : decode cX8_due 84 = .ok (.iconst 1, 1) := by decide +kernel
theorem dX8_due_85 : decode cX8_due 85 = .ok (.if_icmp .ne 11, 3) := by decide +kernel
theorem dX8_due_88 : decode cX8_due 88 = .ok (.aload 4, 2) := by decide +kernel
theorem dX8_due_90 : decode cX8_due 90 = .ok (.getfield 169, 3) := by decide +kernel
theorem dX8_due_93 : decode cX8_due 93 = .ok (.goto 8, 3) := by decide +kernel
theorem dX8_due_96 : decode cX8_due 96 = .ok (.aload 4, 2) := by decide +kernel
theorem dX8_due_98 : decode cX8_due 98 = .ok (.getfield 172, 3) := by decide +kernel
theorem dX8_due_101 : decode cX8_due 101 = .ok (.ireturn, 1) := by decide +kernel
theorem dX8_paid_0 : decode cX8_paid 0 = .ok (.aload_n 0, 1) := by decide +kernel
theorem dX8_paid_1 : decode cX8_paid 1 = .ok (.iload_n 1, 1) := by decide +kernel
theorem dX8_paid_2 : decode cX8_paid 2 = .ok (.invokevirtual 107, 3) := by decide +kernel
theorem dX8_paid_5 : decode cX8_paid 5 = .ok (.ifCond .eq 10, 3) := by decide +kernel
theorem dX8_paid_8 : decode cX8_paid 8 = .ok (.iload_n 3, 1) := by decide +kernel
theorem dX8_paid_9 : decode cX8_paid 9 = .ok (.invokestatic 175, 3) := by decide +kernel
theorem dX8_paid_12 : decode cX8_paid 12 = .ok (.ifCond .ne 7, 3) := by decide +kernel
theorem dX8_paid_15 : decode cX8_paid 15 = .ok (.ldc2_w 178, 3) := by decide +kernel
theorem dX8_paid_18 : decode cX8_paid 18 = .ok (.lreturn, 1) := by decide +kernel
theorem dX8_paid_19 : decode cX8_paid 19 = .ok (.aload_n 0, 1) := by decide +kernel
theorem dX8_paid_20 : decode cX8_paid 20 = .ok (.getfield 26, 3) := by decide +kernel
theorem dX8_paid_23 : decode cX8_paid 23 = .ok (.iload_n 1, 1) := by decide +kernel
theorem dX8_paid_24 : decode cX8_paid 24 = .ok (.aaload, 1) := by decide +kernel
theorem dX8_paid_25 : decode cX8_paid 25 = .ok (.getfield 146, 3) := by decide +kernel
theorem dX8_paid_28 : decode cX8_paid 28 = .ok (.istore 4, 2) := by decide +kernel
theorem dX8_paid_30 : decode cX8_paid 30 = .ok (.aload_n 0, 1) := by decide +kernel
theorem dX8_paid_31 : decode cX8_paid 31 = .ok (.aload_n 0, 1) := by decide +kernel
theorem dX8_paid_32 : decode cX8_paid 32 = .ok (.getfield 55, 3) := by decide +kernel
theorem dX8_paid_35 : decode cX8_paid 35 = .ok (.iload 4, 2) := by decide +kernel
theorem dX8_paid_37 : decode cX8_paid 37 = .ok (.aload_n 0, 1) := by decide +kernel
theorem dX8_paid_38 : decode cX8_paid 38 = .ok (.getfield 20, 3) := by decide +kernel
theorem dX8_paid_41 : decode cX8_paid 41 = .ok (.iload 4, 2) := by decide +kernel
theorem dX8_paid_43 : decode cX8_paid 43 = .ok (.aaload, 1) := by decide +kernel
theorem dX8_paid_44 : decode cX8_paid 44 = .ok (.getfield 90, 3) := by decide +kernel
theorem dX8_paid_47 : decode cX8_paid 47 = .ok (.invokevirtual 149, 3) := by decide +kernel
theorem dX8_paid_50 : decode cX8_paid 50 = .ok (.aload_n 0, 1) := by decide +kernel
theorem dX8_paid_51 : decode cX8_paid 51 = .ok (.getfield 55, 3) := by decide +kernel
theorem dX8_paid_54 : decode cX8_paid 54 = .ok (.iload_n 1, 1) := by decide +kernel
theorem dX8_paid_55 : decode cX8_paid 55 = .ok (.invokevirtual 156, 3) := by decide +kernel
theorem dX8_paid_58 : decode cX8_paid 58 = .ok (.astore 5, 2) := by decide +kernel
theorem dX8_paid_60 : decode cX8_paid 60 = .ok (.aload 5, 2) := by decide +kernel
theorem dX8_paid_62 : decode cX8_paid 62 = .ok (.ifnonnull 7, 3) := by decide +kernel
theorem dX8_paid_65 : decode cX8_paid 65 = .ok (.ldc2_w 178, 3) := by decide +kernel
theorem dX8_paid_68 : decode cX8_paid 68 = .ok (.lreturn, 1) := by decide +kernel
theorem dX8_paid_69 : decode cX8_paid 69 = .ok (.aload_n 0, 1) := by decide +kernel
theorem dX8_paid_70 : decode cX8_paid 70 = .ok (.getfield 55, 3) := by decide +kernel
theorem dX8_paid_73 : decode cX8_paid 73 = .ok (.aload 5, 2) := by decide +kernel
theorem dX8_paid_75 : decode cX8_paid 75 = .ok (.iload_n 2, 1) := by decide +kernel
theorem dX8_paid_76 : decode cX8_paid 76 = .ok (.iconst 1, 1) := by decide +kernel
theorem dX8_paid_77 : decode cX8_paid 77 = .ok (.invokevirtual 180, 3) := by decide +kernel
theorem dX8_paid_80 : decode cX8_paid 80 = .ok (.aload_n 0, 1) := by decide +kernel
theorem dX8_paid_81 : decode cX8_paid 81 = .ok (.getfield 55, 3) := by decide +kernel
theorem dX8_paid_84 : decode cX8_paid 84 = .ok (.invokevirtual 184, 3) := by decide +kernel
theorem dX8_paid_87 : decode cX8_paid 87 = .ok (.iload_n 3, 1) := by decide +kernel
theorem dX8_paid_88 : decode cX8_paid 88 = .ok (.invokestatic 188, 3) := by decide +kernel
theorem dX8_paid_91 : decode cX8_paid 91 = .ok (.lreturn, 1) := by decide +kernel
theorem dX8_all_0 : decode cX8_all 0 = .ok (.aload_n 0, 1) := by decide +kernel
theorem dX8_all_1 : decode cX8_all 1 = .ok (.iload_n 1, 1) := by decide +kernel
theorem dX8_all_2 : decode cX8_all 2 = .ok (.invokevirtual 93, 3) := by decide +kernel
theorem dX8_all_5 : decode cX8_all 5 = .ok (.ifCond .eq 10, 3) := by decide +kernel
theorem dX8_all_8 : decode cX8_all 8 = .ok (.iload_n 3, 1) := by decide +kernel
theorem dX8_all_9 : decode cX8_all 9 = .ok (.invokestatic 175, 3) := by decide +kernel
theorem dX8_all_12 : decode cX8_all 12 = .ok (.ifCond .ne 7, 3) := by decide +kernel
theorem dX8_all_15 : decode cX8_all 15 = .ok (.ldc2_w 178, 3) := by decide +kernel
theorem dX8_all_18 : decode cX8_all 18 = .ok (.lreturn, 1) := by decide +kernel
theorem dX8_all_19 : decode cX8_all 19 = .ok (.iload_n 2, 1) := by decide +kernel
theorem dX8_all_20 : decode cX8_all 20 = .ok (.ifCond .lt 14, 3) := by decide +kernel
theorem dX8_all_23 : decode cX8_all 23 = .ok (.iload_n 2, 1) := by decide +kernel
theorem dX8_all_24 : decode cX8_all 24 = .ok (.iconst 1, 1) := by decide +kernel
theorem dX8_all_25 : decode cX8_all 25 = .ok (.aload_n 0, 1) := by decide +kernel
theorem dX8_all_26 : decode cX8_all 26 = .ok (.iload_n 1, 1) := by decide +kernel
theorem dX8_all_27 : decode cX8_all 27 = .ok (.invokevirtual 99, 3) := by decide +kernel
theorem dX8_all_30 : decode cX8_all 30 = .ok (.ishl, 1) := by decide +kernel
theorem dX8_all_31 : decode cX8_all 31 = .ok (.if_icmp .lt 7, 3) := by decide +kernel
theorem dX8_all_34 : decode cX8_all 34 = .ok (.ldc2_w 178, 3) := by decide +kernel
theorem dX8_all_37 : decode cX8_all 37 = .ok (.lreturn, 1) := by decide +kernel
theorem dX8_all_38 : decode cX8_all 38 = .ok (.aload_n 0, 1) := by decide +kernel
theorem dX8_all_39 : decode cX8_all 39 = .ok (.aload_n 0, 1) := by decide +kernel
theorem dX8_all_40 : decode cX8_all 40 = .ok (.getfield 55, 3) := by decide +kernel
theorem dX8_all_43 : decode cX8_all 43 = .ok (.iload_n 1, 1) := by decide +kernel
theorem dX8_all_44 : decode cX8_all 44 = .ok (.aload_n 0, 1) := by decide +kernel
theorem dX8_all_45 : decode cX8_all 45 = .ok (.getfield 20, 3) := by decide +kernel
theorem dX8_all_48 : decode cX8_all 48 = .ok (.iload_n 1, 1) := by decide +kernel
theorem dX8_all_49 : decode cX8_all 49 = .ok (.aaload, 1) := by decide +kernel
theorem dX8_all_50 : decode cX8_all 50 = .ok (.getfield 90, 3) := by decide +kernel
theorem dX8_all_53 : decode cX8_all 53 = .ok (.invokevirtual 149, 3) := by decide +kernel
theorem dX8_all_56 : decode cX8_all 56 = .ok (.aload_n 0, 1) := by decide +kernel
theorem dX8_all_57 : decode cX8_all 57 = .ok (.getfield 55, 3) := by decide +kernel
theorem dX8_all_60 : decode cX8_all 60 = .ok (.iload_n 2, 1) := by decide +kernel
theorem dX8_all_61 : decode cX8_all 61 = .ok (.invokevirtual 192, 3) := by decide +kernel
theorem dX8_all_64 : decode cX8_all 64 = .ok (.aload_n 0, 1) := by decide +kernel
theorem dX8_all_65 : decode cX8_all 65 = .ok (.getfield 55, 3) := by decide +kernel
theorem dX8_all_68 : decode cX8_all 68 = .ok (.invokevirtual 184, 3) := by decide +kernel
theorem dX8_all_71 : decode cX8_all 71 = .ok (.iload_n 3, 1) := by decide +kernel
theorem dX8_all_72 : decode cX8_all 72 = .ok (.invokestatic 188, 3) := by decide +kernel
theorem dX8_all_75 : decode cX8_all 75 = .ok (.lreturn, 1) := by decide +kernel
theorem dX8_ends_0 : decode cX8_ends 0 = .ok (.aload_n 0, 1) := by decide +kernel
theorem dX8_ends_1 : decode cX8_ends 1 = .ok (.iload_n 1, 1) := by decide +kernel
theorem dX8_ends_2 : decode cX8_ends 2 = .ok (.invokevirtual 93, 3) := by decide +kernel
theorem dX8_ends_5 : decode cX8_ends 5 = .ok (.ifCond .eq 19, 3) := by decide +kernel
theorem dX8_ends_8 : decode cX8_ends 8 = .ok (.iload_n 2, 1) := by decide +kernel
theorem dX8_ends_9 : decode cX8_ends 9 = .ok (.ifCond .lt 15, 3) := by decide +kernel
theorem dX8_ends_12 : decode cX8_ends 12 = .ok (.iload_n 2, 1) := by decide +kernel
theorem dX8_ends_13 : decode cX8_ends 13 = .ok (.iconst 2, 1) := by decide +kernel
theorem dX8_ends_14 : decode cX8_ends 14 = .ok (.if_icmp .gt 10, 3) := by decide +kernel
theorem dX8_ends_17 : decode cX8_ends 17 = .ok (.iload_n 3, 1) := by decide +kernel
theorem dX8_ends_18 : decode cX8_ends 18 = .ok (.invokestatic 175, 3) := by decide +kernel
theorem dX8_ends_21 : decode cX8_ends 21 = .ok (.ifCond .ne 7, 3) := by decide +kernel
theorem dX8_ends_24 : decode cX8_ends 24 = .ok (.ldc2_w 178, 3) := by decide +kernel
theorem dX8_ends_27 : decode cX8_ends 27 = .ok (.lreturn, 1) := by decide +kernel
theorem dX8_ends_28 : decode cX8_ends 28 = .ok (.aload_n 0, 1) := by decide +kernel
theorem dX8_ends_29 : decode cX8_ends 29 = .ok (.aload_n 0, 1) := by decide +kernel
theorem dX8_ends_30 : decode cX8_ends 30 = .ok (.getfield 55, 3) := by decide +kernel
theorem dX8_ends_33 : decode cX8_ends 33 = .ok (.iload_n 1, 1) := by decide +kernel
theorem dX8_ends_34 : decode cX8_ends 34 = .ok (.aload_n 0, 1) := by decide +kernel
theorem dX8_ends_35 : decode cX8_ends 35 = .ok (.getfield 20, 3) := by decide +kernel
theorem dX8_ends_38 : decode cX8_ends 38 = .ok (.iload_n 1, 1) := by decide +kernel
theorem dX8_ends_39 : decode cX8_ends 39 = .ok (.aaload, 1) := by decide +kernel
theorem dX8_ends_40 : decode cX8_ends 40 = .ok (.getfield 90, 3) := by decide +kernel
theorem dX8_ends_43 : decode cX8_ends 43 = .ok (.invokevirtual 149, 3) := by decide +kernel
theorem dX8_ends_46 : decode cX8_ends 46 = .ok (.iload_n 2, 1) := by decide +kernel
theorem dX8_ends_47 : decode cX8_ends 47 = .ok (.iconst 2, 1) := by decide +kernel
theorem dX8_ends_48 : decode cX8_ends 48 = .ok (.if_icmp .ne 13, 3) := by decide +kernel
theorem dX8_ends_51 : decode cX8_ends 51 = .ok (.aload_n 0, 1) := by decide +kernel
theorem dX8_ends_52 : decode cX8_ends 52 = .ok (.getfield 55, 3) := by decide +kernel
theorem dX8_ends_55 : decode cX8_ends 55 = .ok (.invokevirtual 196, 3) := by decide +kernel
theorem dX8_ends_58 : decode cX8_ends 58 = .ok (.goto 20, 3) := by decide +kernel
theorem dX8_ends_61 : decode cX8_ends 61 = .ok (.aload_n 0, 1) := by decide +kernel
theorem dX8_ends_62 : decode cX8_ends 62 = .ok (.getfield 55, 3) := by decide +kernel
theorem dX8_ends_65 : decode cX8_ends 65 = .ok (.iload_n 2, 1) := by decide +kernel
theorem dX8_ends_66 : decode cX8_ends 66 = .ok (.iconst 1, 1) := by decide +kernel
theorem dX8_ends_67 : decode cX8_ends 67 = .ok (.if_icmp .ne 7, 3) := by decide +kernel
theorem dX8_ends_70 : decode cX8_ends 70 = .ok (.iconst 1, 1) := by decide +kernel
theorem dX8_ends_71 : decode cX8_ends 71 = .ok (.goto 4, 3) := by decide +kernel
theorem dX8_ends_74 : decode cX8_ends 74 = .ok (.iconst 0, 1) := by decide +kernel
theorem dX8_ends_75 : decode cX8_ends 75 = .ok (.invokevirtual 199, 3) := by decide +kernel
theorem dX8_ends_78 : decode cX8_ends 78 = .ok (.lstore 4, 2) := by decide +kernel
theorem dX8_ends_80 : decode cX8_ends 80 = .ok (.lload 4, 2) := by decide +kernel
theorem dX8_ends_82 : decode cX8_ends 82 = .ok (.aload_n 0, 1) := by decide +kernel
theorem dX8_ends_83 : decode cX8_ends 83 = .ok (.getfield 55, 3) := by decide +kernel
theorem dX8_ends_86 : decode cX8_ends 86 = .ok (.invokevirtual 184, 3) := by decide +kernel
theorem dX8_ends_89 : decode cX8_ends 89 = .ok (.iload_n 3, 1) := by decide +kernel
theorem dX8_ends_90 : decode cX8_ends 90 = .ok (.invokestatic 188, 3) := by decide +kernel
theorem dX8_ends_93 : decode cX8_ends 93 = .ok (.lreturn, 1) := by decide +kernel
theorem dX8_truly_0 : decode cX8_truly 0 = .ok (.aload_n 0, 1) := by decide +kernel
theorem dX8_truly_1 : decode cX8_truly 1 = .ok (.iload_n 1, 1) := by decide +kernel
theorem dX8_truly_2 : decode cX8_truly 2 = .ok (.invokevirtual 93, 3) := by decide +kernel
theorem dX8_truly_5 : decode cX8_truly 5 = .ok (.ifCond .ne 5, 3) := by decide +kernel
theorem dX8_truly_8 : decode cX8_truly 8 = .ok (.iconst (-1), 1) := by decide +kernel
theorem dX8_truly_9 : decode cX8_truly 9 = .ok (.ireturn, 1) := by decide +kernel
theorem dX8_truly_10 : decode cX8_truly 10 = .ok (.aload_n 0, 1) := by decide +kernel
theorem dX8_truly_11 : decode cX8_truly 11 = .ok (.aload_n 0, 1) := by decide +kernel
theorem dX8_truly_12 : decode cX8_truly 12 = .ok (.getfield 55, 3) := by decide +kernel
theorem dX8_truly_15 : decode cX8_truly 15 = .ok (.iload_n 1, 1) := by decide +kernel
theorem dX8_truly_16 : decode cX8_truly 16 = .ok (.aload_n 0, 1) := by decide +kernel
theorem dX8_truly_17 : decode cX8_truly 17 = .ok (.getfield 20, 3) := by decide +kernel
theorem dX8_truly_20 : decode cX8_truly 20 = .ok (.iload_n 1, 1) := by decide +kernel
theorem dX8_truly_21 : decode cX8_truly 21 = .ok (.aaload, 1) := by decide +kernel
theorem dX8_truly_22 : decode cX8_truly 22 = .ok (.getfield 90, 3) := by decide +kernel
theorem dX8_truly_25 : decode cX8_truly 25 = .ok (.invokevirtual 149, 3) := by decide +kernel
theorem dX8_truly_28 : decode cX8_truly 28 = .ok (.aload_n 0, 1) := by decide +kernel
theorem dX8_truly_29 : decode cX8_truly 29 = .ok (.getfield 55, 3) := by decide +kernel
theorem dX8_truly_32 : decode cX8_truly 32 = .ok (.invokevirtual 203, 3) := by decide +kernel
theorem dX8_truly_35 : decode cX8_truly 35 = .ok (.ireturn, 1) := by decide +kernel
theorem dX8_rolled_0 : decode cX8_rolled 0 = .ok (.aload_n 0, 1) := by decide +kernel
theorem dX8_rolled_1 : decode cX8_rolled 1 = .ok (.iload_n 1, 1) := by decide +kernel
theorem dX8_rolled_2 : decode cX8_rolled 2 = .ok (.invokevirtual 93, 3) := by decide +kernel
theorem dX8_rolled_5 : decode cX8_rolled 5 = .ok (.ifCond .eq 12, 3) := by decide +kernel
theorem dX8_rolled_8 : decode cX8_rolled 8 = .ok (.iload_n 2, 1) := by decide +kernel
theorem dX8_rolled_9 : decode cX8_rolled 9 = .ok (.ifCond .lt 8, 3) := by decide +kernel
theorem dX8_rolled_12 : decode cX8_rolled 12 = .ok (.iload_n 2, 1) := by decide +kernel
theorem dX8_rolled_13 : decode cX8_rolled 13 = .ok (.iconst 1, 1) := by decide +kernel
theorem dX8_rolled_14 : decode cX8_rolled 14 = .ok (.if_icmp .le 5, 3) := by decide +kernel
theorem dX8_rolled_17 : decode cX8_rolled 17 = .ok (.iconst (-1), 1) := by decide +kernel
theorem dX8_rolled_18 : decode cX8_rolled 18 = .ok (.ireturn, 1) := by decide +kernel
theorem dX8_rolled_19 : decode cX8_rolled 19 = .ok (.aload_n 0, 1) := by decide +kernel
theorem dX8_rolled_20 : decode cX8_rolled 20 = .ok (.aload_n 0, 1) := by decide +kernel
theorem dX8_rolled_21 : decode cX8_rolled 21 = .ok (.getfield 55, 3) := by decide +kernel
theorem dX8_rolled_24 : decode cX8_rolled 24 = .ok (.iload_n 1, 1) := by decide +kernel
theorem dX8_rolled_25 : decode cX8_rolled 25 = .ok (.aload_n 0, 1) := by decide +kernel
theorem dX8_rolled_26 : decode cX8_rolled 26 = .ok (.getfield 20, 3) := by decide +kernel
theorem dX8_rolled_29 : decode cX8_rolled 29 = .ok (.iload_n 1, 1) := by decide +kernel
theorem dX8_rolled_30 : decode cX8_rolled 30 = .ok (.aaload, 1) := by decide +kernel
theorem dX8_rolled_31 : decode cX8_rolled 31 = .ok (.getfield 90, 3) := by decide +kernel
theorem dX8_rolled_34 : decode cX8_rolled 34 = .ok (.invokevirtual 149, 3) := by decide +kernel
theorem dX8_rolled_37 : decode cX8_rolled 37 = .ok (.aload_n 0, 1) := by decide +kernel
theorem dX8_rolled_38 : decode cX8_rolled 38 = .ok (.getfield 55, 3) := by decide +kernel
theorem dX8_rolled_41 : decode cX8_rolled 41 = .ok (.invokevirtual 207, 3) := by decide +kernel
theorem dX8_rolled_44 : decode cX8_rolled 44 = .ok (.istore_n 3, 1) := by decide +kernel
theorem dX8_rolled_45 : decode cX8_rolled 45 = .ok (.iload_n 2, 1) := by decide +kernel
theorem dX8_rolled_46 : decode cX8_rolled 46 = .ok (.iconst 1, 1) := by decide +kernel
theorem dX8_rolled_47 : decode cX8_rolled 47 = .ok (.if_icmp .ne 5, 3) := by decide +kernel
theorem dX8_rolled_50 : decode cX8_rolled 50 = .ok (.iload_n 3, 1) := by decide +kernel
theorem dX8_rolled_51 : decode cX8_rolled 51 = .ok (.ireturn, 1) := by decide +kernel
theorem dX8_rolled_52 : decode cX8_rolled 52 = .ok (.iload_n 3, 1) := by decide +kernel
theorem dX8_rolled_53 : decode cX8_rolled 53 = .ok (.ifCond .ne 8, 3) := by decide +kernel
theorem dX8_rolled_56 : decode cX8_rolled 56 = .ok (.bipush (-5), 2) := by decide +kernel
theorem dX8_rolled_58 : decode cX8_rolled 58 = .ok (.goto 10, 3) := by decide +kernel
theorem dX8_rolled_61 : decode cX8_rolled 61 = .ok (.aload_n 0, 1) := by decide +kernel
theorem dX8_rolled_62 : decode cX8_rolled 62 = .ok (.getfield 55, 3) := by decide +kernel
theorem dX8_rolled_65 : decode cX8_rolled 65 = .ok (.invokevirtual 210, 3) := by decide +kernel
theorem dX8_rolled_68 : decode cX8_rolled 68 = .ok (.ireturn, 1) := by decide +kernel
theorem dX8_best_0 : decode cX8_best 0 = .ok (.aload_n 0, 1) := by decide +kernel
theorem dX8_best_1 : decode cX8_best 1 = .ok (.iload_n 1, 1) := by decide +kernel
theorem dX8_best_2 : decode cX8_best 2 = .ok (.invokevirtual 93, 3) := by decide +kernel
theorem dX8_best_5 : decode cX8_best 5 = .ok (.ifCond .ne 5, 3) := by decide +kernel
theorem dX8_best_8 : decode cX8_best 8 = .ok (.iconst (-1), 1) := by decide +kernel
theorem dX8_best_9 : decode cX8_best 9 = .ok (.ireturn, 1) := by decide +kernel
theorem dX8_best_10 : decode cX8_best 10 = .ok (.aload_n 0, 1) := by decide +kernel
theorem dX8_best_11 : decode cX8_best 11 = .ok (.iload_n 1, 1) := by decide +kernel
theorem dX8_best_12 : decode cX8_best 12 = .ok (.invokevirtual 99, 3) := by decide +kernel
theorem dX8_best_15 : decode cX8_best 15 = .ok (.istore_n 3, 1) := by decide +kernel
theorem dX8_best_16 : decode cX8_best 16 = .ok (.iload_n 3, 1) := by decide +kernel
theorem dX8_best_17 : decode cX8_best 17 = .ok (.iconst 4, 1) := by decide +kernel
theorem dX8_best_18 : decode cX8_best 18 = .ok (.if_icmp .le 6, 3) := by decide +kernel
theorem dX8_best_21 : decode cX8_best 21 = .ok (.bipush (-9), 2) := by decide +kernel
theorem dX8_best_23 : decode cX8_best 23 = .ok (.ireturn, 1) := by decide +kernel
theorem dX8_best_24 : decode cX8_best 24 = .ok (.iload_n 2, 1) := by decide +kernel
theorem dX8_best_25 : decode cX8_best 25 = .ok (.iconst (-1), 1) := by decide +kernel
theorem dX8_best_26 : decode cX8_best 26 = .ok (.if_icmp .lt 8, 3) := by decide +kernel
theorem dX8_best_29 : decode cX8_best 29 = .ok (.iload_n 2, 1) := by decide +kernel
theorem dX8_best_30 : decode cX8_best 30 = .ok (.iload_n 3, 1) := by decide +kernel
theorem dX8_best_31 : decode cX8_best 31 = .ok (.if_icmp .lt 5, 3) := by decide +kernel
theorem dX8_best_34 : decode cX8_best 34 = .ok (.iconst (-1), 1) := by decide +kernel
theorem dX8_best_35 : decode cX8_best 35 = .ok (.ireturn, 1) := by decide +kernel
theorem dX8_best_36 : decode cX8_best 36 = .ok (.aload_n 0, 1) := by decide +kernel
theorem dX8_best_37 : decode cX8_best 37 = .ok (.aload_n 0, 1) := by decide +kernel
theorem dX8_best_38 : decode cX8_best 38 = .ok (.getfield 55, 3) := by decide +kernel
theorem dX8_best_41 : decode cX8_best 41 = .ok (.iload_n 1, 1) := by decide +kernel
theorem dX8_best_42 : decode cX8_best 42 = .ok (.aload_n 0, 1) := by decide +kernel
theorem dX8_best_43 : decode cX8_best 43 = .ok (.getfield 20, 3) := by decide +kernel
theorem dX8_best_46 : decode cX8_best 46 = .ok (.iload_n 1, 1) := by decide +kernel
theorem dX8_best_47 : decode cX8_best 47 = .ok (.aaload, 1) := by decide +kernel
theorem dX8_best_48 : decode cX8_best 48 = .ok (.getfield 90, 3) := by decide +kernel
theorem dX8_best_51 : decode cX8_best 51 = .ok (.invokevirtual 149, 3) := by decide +kernel
theorem dX8_best_54 : decode cX8_best 54 = .ok (.aload_n 0, 1) := by decide +kernel
theorem dX8_best_55 : decode cX8_best 55 = .ok (.getfield 55, 3) := by decide +kernel
theorem dX8_best_58 : decode cX8_best 58 = .ok (.invokevirtual 213, 3) := by decide +kernel
theorem dX8_best_61 : decode cX8_best 61 = .ok (.iload_n 2, 1) := by decide +kernel
theorem dX8_best_62 : decode cX8_best 62 = .ok (.ifCond .ge 13, 3) := by decide +kernel
theorem dX8_best_65 : decode cX8_best 65 = .ok (.aload_n 0, 1) := by decide +kernel
theorem dX8_best_66 : decode cX8_best 66 = .ok (.getfield 55, 3) := by decide +kernel
theorem dX8_best_69 : decode cX8_best 69 = .ok (.getfield 216, 3) := by decide +kernel
theorem dX8_best_72 : decode cX8_best 72 = .ok (.goto 18, 3) := by decide +kernel
theorem dX8_best_75 : decode cX8_best 75 = .ok (.aload_n 0, 1) := by decide +kernel
theorem dX8_best_76 : decode cX8_best 76 = .ok (.getfield 55, 3) := by decide +kernel
theorem dX8_best_79 : decode cX8_best 79 = .ok (.aload_n 0, 1) := by decide +kernel
theorem dX8_best_80 : decode cX8_best 80 = .ok (.getfield 55, 3) := by decide +kernel
theorem dX8_best_83 : decode cX8_best 83 = .ok (.getfield 219, 3) := by decide +kernel
theorem dX8_best_86 : decode cX8_best 86 = .ok (.iload_n 2, 1) := by decide +kernel
theorem dX8_best_87 : decode cX8_best 87 = .ok (.invokevirtual 222, 3) := by decide +kernel
theorem dX8_best_90 : decode cX8_best 90 = .ok (.ireturn, 1) := by decide +kernel
theorem dX8_slips_0 : decode cX8_slips 0 = .ok (.aload_n 0, 1) := by decide +kernel
theorem dX8_slips_1 : decode cX8_slips 1 = .ok (.iload_n 1, 1) := by decide +kernel
theorem dX8_slips_2 : decode cX8_slips 2 = .ok (.invokevirtual 93, 3) := by decide +kernel
theorem dX8_slips_5 : decode cX8_slips 5 = .ok (.ifCond .ne 5, 3) := by decide +kernel
theorem dX8_slips_8 : decode cX8_slips 8 = .ok (.iconst (-1), 1) := by decide +kernel
theorem dX8_slips_9 : decode cX8_slips 9 = .ok (.ireturn, 1) := by decide +kernel
theorem dX8_slips_10 : decode cX8_slips 10 = .ok (.aload_n 0, 1) := by decide +kernel
theorem dX8_slips_11 : decode cX8_slips 11 = .ok (.iload_n 1, 1) := by decide +kernel
theorem dX8_slips_12 : decode cX8_slips 12 = .ok (.invokevirtual 99, 3) := by decide +kernel
theorem dX8_slips_15 : decode cX8_slips 15 = .ok (.iconst 4, 1) := by decide +kernel
theorem dX8_slips_16 : decode cX8_slips 16 = .ok (.if_icmp .le 6, 3) := by decide +kernel
theorem dX8_slips_19 : decode cX8_slips 19 = .ok (.bipush (-9), 2) := by decide +kernel
theorem dX8_slips_21 : decode cX8_slips 21 = .ok (.ireturn, 1) := by decide +kernel
theorem dX8_slips_22 : decode cX8_slips 22 = .ok (.aload_n 0, 1) := by decide +kernel
theorem dX8_slips_23 : decode cX8_slips 23 = .ok (.aload_n 0, 1) := by decide +kernel
theorem dX8_slips_24 : decode cX8_slips 24 = .ok (.getfield 55, 3) := by decide +kernel
theorem dX8_slips_27 : decode cX8_slips 27 = .ok (.iload_n 1, 1) := by decide +kernel
theorem dX8_slips_28 : decode cX8_slips 28 = .ok (.aload_n 0, 1) := by decide +kernel
theorem dX8_slips_29 : decode cX8_slips 29 = .ok (.getfield 20, 3) := by decide +kernel
theorem dX8_slips_32 : decode cX8_slips 32 = .ok (.iload_n 1, 1) := by decide +kernel
theorem dX8_slips_33 : decode cX8_slips 33 = .ok (.aaload, 1) := by decide +kernel
theorem dX8_slips_34 : decode cX8_slips 34 = .ok (.getfield 90, 3) := by decide +kernel
theorem dX8_slips_37 : decode cX8_slips 37 = .ok (.invokevirtual 149, 3) := by decide +kernel
theorem dX8_slips_40 : decode cX8_slips 40 = .ok (.aload_n 0, 1) := by decide +kernel
theorem dX8_slips_41 : decode cX8_slips 41 = .ok (.getfield 55, 3) := by decide +kernel
theorem dX8_slips_44 : decode cX8_slips 44 = .ok (.invokevirtual 213, 3) := by decide +kernel
theorem dX8_slips_47 : decode cX8_slips 47 = .ok (.aload_n 0, 1) := by decide +kernel
theorem dX8_slips_48 : decode cX8_slips 48 = .ok (.getfield 55, 3) := by decide +kernel
theorem dX8_slips_51 : decode cX8_slips 51 = .ok (.invokevirtual 225, 3) := by decide +kernel
theorem dX8_slips_54 : decode cX8_slips 54 = .ok (.ireturn, 1) := by decide +kernel
theorem dX8_wise_0 : decode cX8_wise 0 = .ok (.aload_n 0, 1) := by decide +kernel
theorem dX8_wise_1 : decode cX8_wise 1 = .ok (.iload_n 1, 1) := by decide +kernel
theorem dX8_wise_2 : decode cX8_wise 2 = .ok (.invokevirtual 107, 3) := by decide +kernel
theorem dX8_wise_5 : decode cX8_wise 5 = .ok (.ifCond .ne 5, 3) := by decide +kernel
theorem dX8_wise_8 : decode cX8_wise 8 = .ok (.iconst (-1), 1) := by decide +kernel
theorem dX8_wise_9 : decode cX8_wise 9 = .ok (.ireturn, 1) := by decide +kernel
theorem dX8_wise_10 : decode cX8_wise 10 = .ok (.aload_n 0, 1) := by decide +kernel
theorem dX8_wise_11 : decode cX8_wise 11 = .ok (.getfield 26, 3) := by decide +kernel
theorem dX8_wise_14 : decode cX8_wise 14 = .ok (.iload_n 1, 1) := by decide +kernel
theorem dX8_wise_15 : decode cX8_wise 15 = .ok (.aaload, 1) := by decide +kernel
theorem dX8_wise_16 : decode cX8_wise 16 = .ok (.getfield 146, 3) := by decide +kernel
theorem dX8_wise_19 : decode cX8_wise 19 = .ok (.istore_n 2, 1) := by decide +kernel
theorem dX8_wise_20 : decode cX8_wise 20 = .ok (.aload_n 0, 1) := by decide +kernel
theorem dX8_wise_21 : decode cX8_wise 21 = .ok (.aload_n 0, 1) := by decide +kernel
theorem dX8_wise_22 : decode cX8_wise 22 = .ok (.getfield 55, 3) := by decide +kernel
theorem dX8_wise_25 : decode cX8_wise 25 = .ok (.iload_n 2, 1) := by decide +kernel
theorem dX8_wise_26 : decode cX8_wise 26 = .ok (.aload_n 0, 1) := by decide +kernel
theorem dX8_wise_27 : decode cX8_wise 27 = .ok (.getfield 20, 3) := by decide +kernel
theorem dX8_wise_30 : decode cX8_wise 30 = .ok (.iload_n 2, 1) := by decide +kernel
theorem dX8_wise_31 : decode cX8_wise 31 = .ok (.aaload, 1) := by decide +kernel
theorem dX8_wise_32 : decode cX8_wise 32 = .ok (.getfield 90, 3) := by decide +kernel
theorem dX8_wise_35 : decode cX8_wise 35 = .ok (.invokevirtual 149, 3) := by decide +kernel
theorem dX8_wise_38 : decode cX8_wise 38 = .ok (.iconst 1, 1) := by decide +kernel
theorem dX8_wise_39 : decode cX8_wise 39 = .ok (.istore_n 3, 1) := by decide +kernel
theorem dX8_wise_40 : decode cX8_wise 40 = .ok (.ldc2_w 228, 3) := by decide +kernel
theorem dX8_wise_43 : decode cX8_wise 43 = .ok (.lstore 4, 2) := by decide +kernel
theorem dX8_wise_45 : decode cX8_wise 45 = .ok (.iconst 1, 1) := by decide +kernel
theorem dX8_wise_46 : decode cX8_wise 46 = .ok (.istore 6, 2) := by decide +kernel
theorem dX8_wise_48 : decode cX8_wise 48 = .ok (.iload 6, 2) := by decide +kernel
theorem dX8_wise_50 : decode cX8_wise 50 = .ok (.bipush 99, 2) := by decide +kernel
theorem dX8_wise_52 : decode cX8_wise 52 = .ok (.if_icmp .gt 49, 3) := by decide +kernel
theorem dX8_wise_55 : decode cX8_wise 55 = .ok (.aload_n 0, 1) := by decide +kernel
theorem dX8_wise_56 : decode cX8_wise 56 = .ok (.getfield 55, 3) := by decide +kernel
theorem dX8_wise_59 : decode cX8_wise 59 = .ok (.iload_n 1, 1) := by decide +kernel
theorem dX8_wise_60 : decode cX8_wise 60 = .ok (.aload_n 0, 1) := by decide +kernel
theorem dX8_wise_61 : decode cX8_wise 61 = .ok (.getfield 26, 3) := by decide +kernel
theorem dX8_wise_64 : decode cX8_wise 64 = .ok (.iload_n 1, 1) := by decide +kernel
theorem dX8_wise_65 : decode cX8_wise 65 = .ok (.aaload, 1) := by decide +kernel
theorem dX8_wise_66 : decode cX8_wise 66 = .ok (.iload 6, 2) := by decide +kernel
theorem dX8_wise_68 : decode cX8_wise 68 = .ok (.invokevirtual 230, 3) := by decide +kernel
theorem dX8_wise_71 : decode cX8_wise 71 = .ok (.aload_n 0, 1) := by decide +kernel
theorem dX8_wise_72 : decode cX8_wise 72 = .ok (.getfield 55, 3) := by decide +kernel
theorem dX8_wise_75 : decode cX8_wise 75 = .ok (.invokevirtual 196, 3) := by decide +kernel
theorem dX8_wise_78 : decode cX8_wise 78 = .ok (.lstore 7, 2) := by decide +kernel
theorem dX8_wise_80 : decode cX8_wise 80 = .ok (.lload 7, 2) := by decide +kernel
theorem dX8_wise_82 : decode cX8_wise 82 = .ok (.lload 4, 2) := by decide +kernel
theorem dX8_wise_84 : decode cX8_wise 84 = .ok (.lcmp, 1) := by decide +kernel
theorem dX8_wise_85 : decode cX8_wise 85 = .ok (.ifCond .le 10, 3) := by decide +kernel
theorem dX8_wise_88 : decode cX8_wise 88 = .ok (.lload 7, 2) := by decide +kernel
theorem dX8_wise_90 : decode cX8_wise 90 = .ok (.lstore 4, 2) := by decide +kernel
theorem dX8_wise_92 : decode cX8_wise 92 = .ok (.iload 6, 2) := by decide +kernel
theorem dX8_wise_94 : decode cX8_wise 94 = .ok (.istore_n 3, 1) := by decide +kernel
theorem dX8_wise_95 : decode cX8_wise 95 = .ok (.iinc 6 1, 3) := by decide +kernel
theorem dX8_wise_98 : decode cX8_wise 98 = .ok (.goto (-50), 3) := by decide +kernel
theorem dX8_wise_101 : decode cX8_wise 101 = .ok (.iload_n 3, 1) := by decide +kernel
theorem dX8_wise_102 : decode cX8_wise 102 = .ok (.ireturn, 1) := by decide +kernel
theorem dX8_off_0 : decode cX8_off 0 = .ok (.aload_n 0, 1) := by decide +kernel
theorem dX8_off_1 : decode cX8_off 1 = .ok (.iload_n 1, 1) := by decide +kernel
theorem dX8_off_2 : decode cX8_off 2 = .ok (.invokevirtual 93, 3) := by decide +kernel
theorem dX8_off_5 : decode cX8_off 5 = .ok (.ifCond .eq 18, 3) := by decide +kernel
theorem dX8_off_8 : decode cX8_off 8 = .ok (.aload_n 0, 1) := by decide +kernel
theorem dX8_off_9 : decode cX8_off 9 = .ok (.iload_n 2, 1) := by decide +kernel
theorem dX8_off_10 : decode cX8_off 10 = .ok (.invokevirtual 93, 3) := by decide +kernel
theorem dX8_off_13 : decode cX8_off 13 = .ok (.ifCond .eq 10, 3) := by decide +kernel
theorem dX8_off_16 : decode cX8_off 16 = .ok (.iload_n 3, 1) := by decide +kernel
theorem dX8_off_17 : decode cX8_off 17 = .ok (.invokestatic 175, 3) := by decide +kernel
theorem dX8_off_20 : decode cX8_off 20 = .ok (.ifCond .ne 7, 3) := by decide +kernel
theorem dX8_off_23 : decode cX8_off 23 = .ok (.ldc2_w 178, 3) := by decide +kernel
theorem dX8_off_26 : decode cX8_off 26 = .ok (.lreturn, 1) := by decide +kernel
theorem dX8_off_27 : decode cX8_off 27 = .ok (.aload_n 0, 1) := by decide +kernel
theorem dX8_off_28 : decode cX8_off 28 = .ok (.getfield 20, 3) := by decide +kernel
theorem dX8_off_31 : decode cX8_off 31 = .ok (.iload_n 1, 1) := by decide +kernel
theorem dX8_off_32 : decode cX8_off 32 = .ok (.aaload, 1) := by decide +kernel
theorem dX8_off_33 : decode cX8_off 33 = .ok (.astore 4, 2) := by decide +kernel
theorem dX8_off_35 : decode cX8_off 35 = .ok (.aload_n 0, 1) := by decide +kernel
theorem dX8_off_36 : decode cX8_off 36 = .ok (.getfield 20, 3) := by decide +kernel
theorem dX8_off_39 : decode cX8_off 39 = .ok (.iload_n 2, 1) := by decide +kernel
theorem dX8_off_40 : decode cX8_off 40 = .ok (.aaload, 1) := by decide +kernel
theorem dX8_off_41 : decode cX8_off 41 = .ok (.astore 5, 2) := by decide +kernel
theorem dX8_off_43 : decode cX8_off 43 = .ok (.aload 4, 2) := by decide +kernel
theorem dX8_off_45 : decode cX8_off 45 = .ok (.getfield 84, 3) := by decide +kernel
theorem dX8_off_48 : decode cX8_off 48 = .ok (.aload 5, 2) := by decide +kernel
theorem dX8_off_50 : decode cX8_off 50 = .ok (.getfield 87, 3) := by decide +kernel
theorem dX8_off_53 : decode cX8_off 53 = .ok (.if_icmp .ne 16, 3) := by decide +kernel
theorem dX8_off_56 : decode cX8_off 56 = .ok (.aload 4, 2) := by decide +kernel
theorem dX8_off_58 : decode cX8_off 58 = .ok (.getfield 87, 3) := by decide +kernel
theorem dX8_off_61 : decode cX8_off 61 = .ok (.aload 5, 2) := by decide +kernel
theorem dX8_off_63 : decode cX8_off 63 = .ok (.getfield 84, 3) := by decide +kernel
theorem dX8_off_66 : decode cX8_off 66 = .ok (.if_icmp .eq 7, 3) := by decide +kernel
theorem dX8_off_69 : decode cX8_off 69 = .ok (.ldc2_w 234, 3) := by decide +kernel
theorem dX8_off_72 : decode cX8_off 72 = .ok (.lreturn, 1) := by decide +kernel
theorem dX8_off_73 : decode cX8_off 73 = .ok (.aload_n 0, 1) := by decide +kernel
theorem dX8_off_74 : decode cX8_off 74 = .ok (.aload_n 0, 1) := by decide +kernel
theorem dX8_off_75 : decode cX8_off 75 = .ok (.getfield 55, 3) := by decide +kernel
theorem dX8_off_78 : decode cX8_off 78 = .ok (.iload_n 1, 1) := by decide +kernel
theorem dX8_off_79 : decode cX8_off 79 = .ok (.aload 4, 2) := by decide +kernel
theorem dX8_off_81 : decode cX8_off 81 = .ok (.getfield 90, 3) := by decide +kernel
theorem dX8_off_84 : decode cX8_off 84 = .ok (.invokevirtual 149, 3) := by decide +kernel
theorem dX8_off_87 : decode cX8_off 87 = .ok (.aload_n 0, 1) := by decide +kernel
theorem dX8_off_88 : decode cX8_off 88 = .ok (.aload_n 0, 1) := by decide +kernel
theorem dX8_off_89 : decode cX8_off 89 = .ok (.getfield 59, 3) := by decide +kernel
theorem dX8_off_92 : decode cX8_off 92 = .ok (.iload_n 2, 1) := by decide +kernel
theorem dX8_off_93 : decode cX8_off 93 = .ok (.aload 5, 2) := by decide +kernel
theorem dX8_off_95 : decode cX8_off 95 = .ok (.getfield 90, 3) := by decide +kernel
theorem dX8_off_98 : decode cX8_off 98 = .ok (.invokevirtual 149, 3) := by decide +kernel
theorem dX8_off_101 : decode cX8_off 101 = .ok (.aload_n 0, 1) := by decide +kernel
theorem dX8_off_102 : decode cX8_off 102 = .ok (.getfield 55, 3) := by decide +kernel
theorem dX8_off_105 : decode cX8_off 105 = .ok (.invokevirtual 196, 3) := by decide +kernel
theorem dX8_off_108 : decode cX8_off 108 = .ok (.aload_n 0, 1) := by decide +kernel
theorem dX8_off_109 : decode cX8_off 109 = .ok (.getfield 59, 3) := by decide +kernel
theorem dX8_off_112 : decode cX8_off 112 = .ok (.invokevirtual 184, 3) := by decide +kernel
theorem dX8_off_115 : decode cX8_off 115 = .ok (.lmul, 1) := by decide +kernel
theorem dX8_off_116 : decode cX8_off 116 = .ok (.aload_n 0, 1) := by decide +kernel
theorem dX8_off_117 : decode cX8_off 117 = .ok (.getfield 59, 3) := by decide +kernel
theorem dX8_off_120 : decode cX8_off 120 = .ok (.invokevirtual 196, 3) := by decide +kernel
theorem dX8_off_123 : decode cX8_off 123 = .ok (.aload_n 0, 1) := by decide +kernel
theorem dX8_off_124 : decode cX8_off 124 = .ok (.getfield 55, 3) := by decide +kernel
theorem dX8_off_127 : decode cX8_off 127 = .ok (.invokevirtual 184, 3) := by decide +kernel
theorem dX8_off_130 : decode cX8_off 130 = .ok (.lmul, 1) := by decide +kernel
theorem dX8_off_131 : decode cX8_off 131 = .ok (.lsub, 1) := by decide +kernel
theorem dX8_off_132 : decode cX8_off 132 = .ok (.lstore 6, 2) := by decide +kernel
theorem dX8_off_134 : decode cX8_off 134 = .ok (.lload 6, 2) := by decide +kernel
theorem dX8_off_136 : decode cX8_off 136 = .ok (.aload_n 0, 1) := by decide +kernel
theorem dX8_off_137 : decode cX8_off 137 = .ok (.getfield 55, 3) := by decide +kernel
theorem dX8_off_140 : decode cX8_off 140 = .ok (.invokevirtual 184, 3) := by decide +kernel
theorem dX8_off_143 : decode cX8_off 143 = .ok (.aload_n 0, 1) := by decide +kernel
theorem dX8_off_144 : decode cX8_off 144 = .ok (.getfield 59, 3) := by decide +kernel
theorem dX8_off_147 : decode cX8_off 147 = .ok (.invokevirtual 184, 3) := by decide +kernel
theorem dX8_off_150 : decode cX8_off 150 = .ok (.lmul, 1) := by decide +kernel
theorem dX8_off_151 : decode cX8_off 151 = .ok (.iload_n 3, 1) := by decide +kernel
theorem dX8_off_152 : decode cX8_off 152 = .ok (.invokestatic 188, 3) := by decide +kernel
theorem dX8_off_155 : decode cX8_off 155 = .ok (.lreturn, 1) := by decide +kernel
theorem dX8_beside_0 : decode cX8_beside 0 = .ok (.aload_n 0, 1) := by decide +kernel
theorem dX8_beside_1 : decode cX8_beside 1 = .ok (.iload_n 1, 1) := by decide +kernel
theorem dX8_beside_2 : decode cX8_beside 2 = .ok (.invokevirtual 107, 3) := by decide +kernel
theorem dX8_beside_5 : decode cX8_beside 5 = .ok (.ifCond .eq 19, 3) := by decide +kernel
theorem dX8_beside_8 : decode cX8_beside 8 = .ok (.aload_n 0, 1) := by decide +kernel
theorem dX8_beside_9 : decode cX8_beside 9 = .ok (.iload_n 2, 1) := by decide +kernel
theorem dX8_beside_10 : decode cX8_beside 10 = .ok (.invokevirtual 77, 3) := by decide +kernel
theorem dX8_beside_13 : decode cX8_beside 13 = .ok (.ifCond .eq 11, 3) := by decide +kernel
theorem dX8_beside_16 : decode cX8_beside 16 = .ok (.aload_n 0, 1) := by decide +kernel
theorem dX8_beside_17 : decode cX8_beside 17 = .ok (.iload_n 3, 1) := by decide +kernel
theorem dX8_beside_18 : decode cX8_beside 18 = .ok (.invokevirtual 77, 3) := by decide +kernel
theorem dX8_beside_21 : decode cX8_beside 21 = .ok (.ifCond .ne 5, 3) := by decide +kernel
theorem dX8_beside_24 : decode cX8_beside 24 = .ok (.iconst (-1), 1) := by decide +kernel
theorem dX8_beside_25 : decode cX8_beside 25 = .ok (.ireturn, 1) := by decide +kernel
theorem dX8_beside_26 : decode cX8_beside 26 = .ok (.aload_n 0, 1) := by decide +kernel
theorem dX8_beside_27 : decode cX8_beside 27 = .ok (.aload_n 0, 1) := by decide +kernel
theorem dX8_beside_28 : decode cX8_beside 28 = .ok (.getfield 55, 3) := by decide +kernel
theorem dX8_beside_31 : decode cX8_beside 31 = .ok (.aload_n 0, 1) := by decide +kernel
theorem dX8_beside_32 : decode cX8_beside 32 = .ok (.getfield 26, 3) := by decide +kernel
theorem dX8_beside_35 : decode cX8_beside 35 = .ok (.iload_n 1, 1) := by decide +kernel
theorem dX8_beside_36 : decode cX8_beside 36 = .ok (.aaload, 1) := by decide +kernel
theorem dX8_beside_37 : decode cX8_beside 37 = .ok (.getfield 146, 3) := by decide +kernel
theorem dX8_beside_40 : decode cX8_beside 40 = .ok (.iload_n 2, 1) := by decide +kernel
theorem dX8_beside_41 : decode cX8_beside 41 = .ok (.invokevirtual 149, 3) := by decide +kernel
theorem dX8_beside_44 : decode cX8_beside 44 = .ok (.aload_n 0, 1) := by decide +kernel
theorem dX8_beside_45 : decode cX8_beside 45 = .ok (.aload_n 0, 1) := by decide +kernel
theorem dX8_beside_46 : decode cX8_beside 46 = .ok (.getfield 59, 3) := by decide +kernel
theorem dX8_beside_49 : decode cX8_beside 49 = .ok (.aload_n 0, 1) := by decide +kernel
theorem dX8_beside_50 : decode cX8_beside 50 = .ok (.getfield 26, 3) := by decide +kernel
theorem dX8_beside_53 : decode cX8_beside 53 = .ok (.iload_n 1, 1) := by decide +kernel
theorem dX8_beside_54 : decode cX8_beside 54 = .ok (.aaload, 1) := by decide +kernel
theorem dX8_beside_55 : decode cX8_beside 55 = .ok (.getfield 146, 3) := by decide +kernel
theorem dX8_beside_58 : decode cX8_beside 58 = .ok (.iload_n 3, 1) := by decide +kernel
theorem dX8_beside_59 : decode cX8_beside 59 = .ok (.invokevirtual 149, 3) := by decide +kernel
theorem dX8_beside_62 : decode cX8_beside 62 = .ok (.aload_n 0, 1) := by decide +kernel
theorem dX8_beside_63 : decode cX8_beside 63 = .ok (.getfield 55, 3) := by decide +kernel
theorem dX8_beside_66 : decode cX8_beside 66 = .ok (.iload_n 1, 1) := by decide +kernel
theorem dX8_beside_67 : decode cX8_beside 67 = .ok (.invokevirtual 153, 3) := by decide +kernel
theorem dX8_beside_70 : decode cX8_beside 70 = .ok (.bipush 10, 2) := by decide +kernel
theorem dX8_beside_72 : decode cX8_beside 72 = .ok (.imul, 1) := by decide +kernel
theorem dX8_beside_73 : decode cX8_beside 73 = .ok (.aload_n 0, 1) := by decide +kernel
theorem dX8_beside_74 : decode cX8_beside 74 = .ok (.getfield 59, 3) := by decide +kernel
theorem dX8_beside_77 : decode cX8_beside 77 = .ok (.iload_n 1, 1) := by decide +kernel
theorem dX8_beside_78 : decode cX8_beside 78 = .ok (.invokevirtual 153, 3) := by decide +kernel
theorem dX8_beside_81 : decode cX8_beside 81 = .ok (.iadd, 1) := by decide +kernel
theorem dX8_beside_82 : decode cX8_beside 82 = .ok (.ireturn, 1) := by decide +kernel
theorem dX8_ways_0 : decode cX8_ways 0 = .ok (.aload_n 0, 1) := by decide +kernel
theorem dX8_ways_1 : decode cX8_ways 1 = .ok (.iload_n 1, 1) := by decide +kernel
theorem dX8_ways_2 : decode cX8_ways 2 = .ok (.invokevirtual 107, 3) := by decide +kernel
theorem dX8_ways_5 : decode cX8_ways 5 = .ok (.ifCond .eq 19, 3) := by decide +kernel
theorem dX8_ways_8 : decode cX8_ways 8 = .ok (.aload_n 0, 1) := by decide +kernel
theorem dX8_ways_9 : decode cX8_ways 9 = .ok (.iload_n 2, 1) := by decide +kernel
theorem dX8_ways_10 : decode cX8_ways 10 = .ok (.invokevirtual 77, 3) := by decide +kernel
theorem dX8_ways_13 : decode cX8_ways 13 = .ok (.ifCond .eq 11, 3) := by decide +kernel
theorem dX8_ways_16 : decode cX8_ways 16 = .ok (.aload_n 0, 1) := by decide +kernel
theorem dX8_ways_17 : decode cX8_ways 17 = .ok (.iload_n 3, 1) := by decide +kernel
theorem dX8_ways_18 : decode cX8_ways 18 = .ok (.invokevirtual 77, 3) := by decide +kernel
theorem dX8_ways_21 : decode cX8_ways 21 = .ok (.ifCond .ne 5, 3) := by decide +kernel
theorem dX8_ways_24 : decode cX8_ways 24 = .ok (.iconst (-1), 1) := by decide +kernel
theorem dX8_ways_25 : decode cX8_ways 25 = .ok (.ireturn, 1) := by decide +kernel
theorem dX8_ways_26 : decode cX8_ways 26 = .ok (.aload_n 0, 1) := by decide +kernel
theorem dX8_ways_27 : decode cX8_ways 27 = .ok (.aload_n 0, 1) := by decide +kernel
theorem dX8_ways_28 : decode cX8_ways 28 = .ok (.getfield 55, 3) := by decide +kernel
theorem dX8_ways_31 : decode cX8_ways 31 = .ok (.aload_n 0, 1) := by decide +kernel
theorem dX8_ways_32 : decode cX8_ways 32 = .ok (.getfield 26, 3) := by decide +kernel
theorem dX8_ways_35 : decode cX8_ways 35 = .ok (.iload_n 1, 1) := by decide +kernel
theorem dX8_ways_36 : decode cX8_ways 36 = .ok (.aaload, 1) := by decide +kernel
theorem dX8_ways_37 : decode cX8_ways 37 = .ok (.getfield 146, 3) := by decide +kernel
theorem dX8_ways_40 : decode cX8_ways 40 = .ok (.iload_n 2, 1) := by decide +kernel
theorem dX8_ways_41 : decode cX8_ways 41 = .ok (.invokevirtual 149, 3) := by decide +kernel
theorem dX8_ways_44 : decode cX8_ways 44 = .ok (.aload_n 0, 1) := by decide +kernel
theorem dX8_ways_45 : decode cX8_ways 45 = .ok (.aload_n 0, 1) := by decide +kernel
theorem dX8_ways_46 : decode cX8_ways 46 = .ok (.getfield 59, 3) := by decide +kernel
theorem dX8_ways_49 : decode cX8_ways 49 = .ok (.aload_n 0, 1) := by decide +kernel
theorem dX8_ways_50 : decode cX8_ways 50 = .ok (.getfield 26, 3) := by decide +kernel
theorem dX8_ways_53 : decode cX8_ways 53 = .ok (.iload_n 1, 1) := by decide +kernel
theorem dX8_ways_54 : decode cX8_ways 54 = .ok (.aaload, 1) := by decide +kernel
theorem dX8_ways_55 : decode cX8_ways 55 = .ok (.getfield 146, 3) := by decide +kernel
theorem dX8_ways_58 : decode cX8_ways 58 = .ok (.iload_n 3, 1) := by decide +kernel
theorem dX8_ways_59 : decode cX8_ways 59 = .ok (.invokevirtual 149, 3) := by decide +kernel
theorem dX8_ways_62 : decode cX8_ways 62 = .ok (.iconst 1, 1) := by decide +kernel
theorem dX8_ways_63 : decode cX8_ways 63 = .ok (.istore 4, 2) := by decide +kernel
theorem dX8_ways_65 : decode cX8_ways 65 = .ok (.iload 4, 2) := by decide +kernel
theorem dX8_ways_67 : decode cX8_ways 67 = .ok (.bipush 99, 2) := by decide +kernel
theorem dX8_ways_69 : decode cX8_ways 69 = .ok (.if_icmp .gt 63, 3) := by decide +kernel
theorem dX8_ways_72 : decode cX8_ways 72 = .ok (.aload_n 0, 1) := by decide +kernel
theorem dX8_ways_73 : decode cX8_ways 73 = .ok (.getfield 55, 3) := by decide +kernel
theorem dX8_ways_76 : decode cX8_ways 76 = .ok (.iload_n 1, 1) := by decide +kernel
theorem dX8_ways_77 : decode cX8_ways 77 = .ok (.aload_n 0, 1) := by decide +kernel
theorem dX8_ways_78 : decode cX8_ways 78 = .ok (.getfield 26, 3) := by decide +kernel
theorem dX8_ways_81 : decode cX8_ways 81 = .ok (.iload_n 1, 1) := by decide +kernel
theorem dX8_ways_82 : decode cX8_ways 82 = .ok (.aaload, 1) := by decide +kernel
theorem dX8_ways_83 : decode cX8_ways 83 = .ok (.iload 4, 2) := by decide +kernel
theorem dX8_ways_85 : decode cX8_ways 85 = .ok (.invokevirtual 230, 3) := by decide +kernel
theorem dX8_ways_88 : decode cX8_ways 88 = .ok (.aload_n 0, 1) := by decide +kernel
theorem dX8_ways_89 : decode cX8_ways 89 = .ok (.getfield 59, 3) := by decide +kernel
theorem dX8_ways_92 : decode cX8_ways 92 = .ok (.iload_n 1, 1) := by decide +kernel
theorem dX8_ways_93 : decode cX8_ways 93 = .ok (.aload_n 0, 1) := by decide +kernel
theorem dX8_ways_94 : decode cX8_ways 94 = .ok (.getfield 26, 3) := by decide +kernel
theorem dX8_ways_97 : decode cX8_ways 97 = .ok (.iload_n 1, 1) := by decide +kernel
theorem dX8_ways_98 : decode cX8_ways 98 = .ok (.aaload, 1) := by decide +kernel
theorem dX8_ways_99 : decode cX8_ways 99 = .ok (.iload 4, 2) := by decide +kernel
theorem dX8_ways_101 : decode cX8_ways 101 = .ok (.invokevirtual 230, 3) := by decide +kernel
theorem dX8_ways_104 : decode cX8_ways 104 = .ok (.aload_n 0, 1) := by decide +kernel
theorem dX8_ways_105 : decode cX8_ways 105 = .ok (.getfield 55, 3) := by decide +kernel
theorem dX8_ways_108 : decode cX8_ways 108 = .ok (.iload_n 1, 1) := by decide +kernel
theorem dX8_ways_109 : decode cX8_ways 109 = .ok (.invokevirtual 153, 3) := by decide +kernel
theorem dX8_ways_112 : decode cX8_ways 112 = .ok (.aload_n 0, 1) := by decide +kernel
theorem dX8_ways_113 : decode cX8_ways 113 = .ok (.getfield 59, 3) := by decide +kernel
theorem dX8_ways_116 : decode cX8_ways 116 = .ok (.iload_n 1, 1) := by decide +kernel
theorem dX8_ways_117 : decode cX8_ways 117 = .ok (.invokevirtual 153, 3) := by decide +kernel
theorem dX8_ways_120 : decode cX8_ways 120 = .ok (.if_icmp .eq 6, 3) := by decide +kernel
theorem dX8_ways_123 : decode cX8_ways 123 = .ok (.iload 4, 2) := by decide +kernel
theorem dX8_ways_125 : decode cX8_ways 125 = .ok (.ireturn, 1) := by decide +kernel
theorem dX8_ways_126 : decode cX8_ways 126 = .ok (.iinc 4 1, 3) := by decide +kernel
theorem dX8_ways_129 : decode cX8_ways 129 = .ok (.goto (-64), 3) := by decide +kernel
theorem dX8_ways_132 : decode cX8_ways 132 = .ok (.bipush (-5), 2) := by decide +kernel
theorem dX8_ways_134 : decode cX8_ways 134 = .ok (.ireturn, 1) := by decide +kernel
theorem dX8_judge_0 : decode cX8_judge 0 = .ok (.iload_n 1, 1) := by decide +kernel
theorem dX8_judge_1 : decode cX8_judge 1 = .ok (.invokestatic 236, 3) := by decide +kernel
theorem dX8_judge_4 : decode cX8_judge 4 = .ok (.ifCond .eq 11, 3) := by decide +kernel
theorem dX8_judge_7 : decode cX8_judge 7 = .ok (.aload_n 0, 1) := by decide +kernel
theorem dX8_judge_8 : decode cX8_judge 8 = .ok (.iload_n 3, 1) := by decide +kernel
theorem dX8_judge_9 : decode cX8_judge 9 = .ok (.invokevirtual 93, 3) := by decide +kernel
theorem dX8_judge_12 : decode cX8_judge 12 = .ok (.ifCond .ne 5, 3) := by decide +kernel
theorem dX8_judge_15 : decode cX8_judge 15 = .ok (.iconst (-1), 1) := by decide +kernel
theorem dX8_judge_16 : decode cX8_judge 16 = .ok (.ireturn, 1) := by decide +kernel
theorem dX8_judge_17 : decode cX8_judge 17 = .ok (.aload_n 0, 1) := by decide +kernel
theorem dX8_judge_18 : decode cX8_judge 18 = .ok (.getfield 41, 3) := by decide +kernel
theorem dX8_judge_21 : decode cX8_judge 21 = .ok (.iload_n 1, 1) := by decide +kernel
theorem dX8_judge_22 : decode cX8_judge 22 = .ok (.aaload, 1) := by decide +kernel
theorem dX8_judge_23 : decode cX8_judge 23 = .ok (.astore 4, 2) := by decide +kernel
theorem dX8_judge_25 : decode cX8_judge 25 = .ok (.aload 4, 2) := by decide +kernel
theorem dX8_judge_27 : decode cX8_judge 27 = .ok (.getfield 239, 3) := by decide +kernel
theorem dX8_judge_30 : decode cX8_judge 30 = .ok (.iconst (-1), 1) := by decide +kernel
theorem dX8_judge_31 : decode cX8_judge 31 = .ok (.if_icmp .eq 14, 3) := by decide +kernel
theorem dX8_judge_34 : decode cX8_judge 34 = .ok (.aload 4, 2) := by decide +kernel
theorem dX8_judge_36 : decode cX8_judge 36 = .ok (.getfield 239, 3) := by decide +kernel
theorem dX8_judge_39 : decode cX8_judge 39 = .ok (.ifCond .eq 6, 3) := by decide +kernel
theorem dX8_judge_42 : decode cX8_judge 42 = .ok (.bipush (-12), 2) := by decide +kernel
theorem dX8_judge_44 : decode cX8_judge 44 = .ok (.ireturn, 1) := by decide +kernel
theorem dX8_judge_45 : decode cX8_judge 45 = .ok (.aload_n 0, 1) := by decide +kernel
theorem dX8_judge_46 : decode cX8_judge 46 = .ok (.aload_n 0, 1) := by decide +kernel
theorem dX8_judge_47 : decode cX8_judge 47 = .ok (.getfield 55, 3) := by decide +kernel
theorem dX8_judge_50 : decode cX8_judge 50 = .ok (.iload_n 3, 1) := by decide +kernel
theorem dX8_judge_51 : decode cX8_judge 51 = .ok (.aload_n 0, 1) := by decide +kernel
theorem dX8_judge_52 : decode cX8_judge 52 = .ok (.getfield 20, 3) := by decide +kernel
theorem dX8_judge_55 : decode cX8_judge 55 = .ok (.iload_n 3, 1) := by decide +kernel
theorem dX8_judge_56 : decode cX8_judge 56 = .ok (.aaload, 1) := by decide +kernel
theorem dX8_judge_57 : decode cX8_judge 57 = .ok (.getfield 90, 3) := by decide +kernel
theorem dX8_judge_60 : decode cX8_judge 60 = .ok (.invokevirtual 149, 3) := by decide +kernel
theorem dX8_judge_63 : decode cX8_judge 63 = .ok (.iconst 0, 1) := by decide +kernel
theorem dX8_judge_64 : decode cX8_judge 64 = .ok (.istore 5, 2) := by decide +kernel
theorem dX8_judge_66 : decode cX8_judge 66 = .ok (.iload 5, 2) := by decide +kernel
theorem dX8_judge_68 : decode cX8_judge 68 = .ok (.aload_n 0, 1) := by decide +kernel
theorem dX8_judge_69 : decode cX8_judge 69 = .ok (.getfield 55, 3) := by decide +kernel
theorem dX8_judge_72 : decode cX8_judge 72 = .ok (.getfield 242, 3) := by decide +kernel
theorem dX8_judge_75 : decode cX8_judge 75 = .ok (.if_icmp .ge 63, 3) := by decide +kernel
theorem dX8_judge_78 : decode cX8_judge 78 = .ok (.iload_n 2, 1) := by decide +kernel
theorem dX8_judge_79 : decode cX8_judge 79 = .ok (.i2l, 1) := by decide +kernel
theorem dX8_judge_80 : decode cX8_judge 80 = .ok (.iload 5, 2) := by decide +kernel
theorem dX8_judge_82 : decode cX8_judge 82 = .ok (.i2l, 1) := by decide +kernel
theorem dX8_judge_83 : decode cX8_judge 83 = .ok (.ladd, 1) := by decide +kernel
theorem dX8_judge_84 : decode cX8_judge 84 = .ok (.lstore 6, 2) := by decide +kernel
theorem dX8_judge_86 : decode cX8_judge 86 = .ok (.aload 4, 2) := by decide +kernel
theorem dX8_judge_88 : decode cX8_judge 88 = .ok (.lload 6, 2) := by decide +kernel
theorem dX8_judge_90 : decode cX8_judge 90 = .ok (.invokevirtual 245, 3) := by decide +kernel
theorem dX8_judge_93 : decode cX8_judge 93 = .ok (.ifCond .ne 9, 3) := by decide +kernel
theorem dX8_judge_96 : decode cX8_judge 96 = .ok (.bipush 100, 2) := by decide +kernel
theorem dX8_judge_98 : decode cX8_judge 98 = .ok (.iload 5, 2) := by decide +kernel
theorem dX8_judge_100 : decode cX8_judge 100 = .ok (.iadd, 1) := by decide +kernel
theorem dX8_judge_101 : decode cX8_judge 101 = .ok (.ireturn, 1) := by decide +kernel
theorem dX8_judge_102 : decode cX8_judge 102 = .ok (.aload 4, 2) := by decide +kernel
theorem dX8_judge_104 : decode cX8_judge 104 = .ok (.getfield 249, 3) := by decide +kernel
theorem dX8_judge_107 : decode cX8_judge 107 = .ok (.lload 6, 2) := by decide +kernel
theorem dX8_judge_109 : decode cX8_judge 109 = .ok (.l2i, 1) := by decide +kernel
theorem dX8_judge_110 : decode cX8_judge 110 = .ok (.laload, 1) := by decide +kernel
theorem dX8_judge_111 : decode cX8_judge 111 = .ok (.aload_n 0, 1) := by decide +kernel
theorem dX8_judge_112 : decode cX8_judge 112 = .ok (.getfield 55, 3) := by decide +kernel
theorem dX8_judge_115 : decode cX8_judge 115 = .ok (.getfield 253, 3) := by decide +kernel
theorem dX8_judge_118 : decode cX8_judge 118 = .ok (.iload 5, 2) := by decide +kernel
theorem dX8_judge_120 : decode cX8_judge 120 = .ok (.aaload, 1) := by decide +kernel
theorem dX8_judge_121 : decode cX8_judge 121 = .ok (.getfield 257, 3) := by decide +kernel
theorem dX8_judge_124 : decode cX8_judge 124 = .ok (.i2l, 1) := by decide +kernel
theorem dX8_judge_125 : decode cX8_judge 125 = .ok (.lcmp, 1) := by decide +kernel
theorem dX8_judge_126 : decode cX8_judge 126 = .ok (.ifCond .eq 6, 3) := by decide +kernel
theorem dX8_judge_129 : decode cX8_judge 129 = .ok (.iload 5, 2) := by decide +kernel
theorem dX8_judge_131 : decode cX8_judge 131 = .ok (.ireturn, 1) := by decide +kernel
theorem dX8_judge_132 : decode cX8_judge 132 = .ok (.iinc 5 1, 3) := by decide +kernel
theorem dX8_judge_135 : decode cX8_judge 135 = .ok (.goto (-69), 3) := by decide +kernel
theorem dX8_judge_138 : decode cX8_judge 138 = .ok (.bipush (-5), 2) := by decide +kernel
theorem dX8_judge_140 : decode cX8_judge 140 = .ok (.ireturn, 1) := by decide +kernel
theorem dX8_image_0 : decode cX8_image 0 = .ok (.aload_n 0, 1) := by decide +kernel
theorem dX8_image_1 : decode cX8_image 1 = .ok (.getfield 26, 3) := by decide +kernel
theorem dX8_image_4 : decode cX8_image 4 = .ok (.aload_n 0, 1) := by decide +kernel
theorem dX8_image_5 : decode cX8_image 5 = .ok (.getfield 30, 3) := by decide +kernel
theorem dX8_image_8 : decode cX8_image 8 = .ok (.aload_n 0, 1) := by decide +kernel
theorem dX8_image_9 : decode cX8_image 9 = .ok (.getfield 96, 3) := by decide +kernel
theorem dX8_image_12 : decode cX8_image 12 = .ok (.invokestatic 260, 3) := by decide +kernel
theorem dX8_image_15 : decode cX8_image 15 = .ok (.aload_n 0, 1) := by decide +kernel
theorem dX8_image_16 : decode cX8_image 16 = .ok (.getfield 11, 3) := by decide +kernel
theorem dX8_image_19 : decode cX8_image 19 = .ok (.iconst 0, 1) := by decide +kernel
theorem dX8_image_20 : decode cX8_image 20 = .ok (.aload_n 0, 1) := by decide +kernel
theorem dX8_image_21 : decode cX8_image 21 = .ok (.getfield 15, 3) := by decide +kernel
theorem dX8_image_24 : decode cX8_image 24 = .ok (.iconst 0, 1) := by decide +kernel
theorem dX8_image_25 : decode cX8_image 25 = .ok (.bipush 8, 2) := by decide +kernel
theorem dX8_image_27 : decode cX8_image 27 = .ok (.invokestatic 264, 3) := by decide +kernel
theorem dX8_image_30 : decode cX8_image 30 = .ok (.aload_n 0, 1) := by decide +kernel
theorem dX8_image_31 : decode cX8_image 31 = .ok (.aload_n 0, 1) := by decide +kernel
theorem dX8_image_32 : decode cX8_image 32 = .ok (.getfield 96, 3) := by decide +kernel
theorem dX8_image_35 : decode cX8_image 35 = .ok (.putfield 270, 3) := by decide +kernel
theorem dX8_image_38 : decode cX8_image 38 = .ok (.aload_n 0, 1) := by decide +kernel
theorem dX8_image_39 : decode cX8_image 39 = .ok (.iconst 1, 1) := by decide +kernel
theorem dX8_image_40 : decode cX8_image 40 = .ok (.putfield 273, 3) := by decide +kernel
theorem dX8_image_43 : decode cX8_image 43 = .ok (.aload_n 0, 1) := by decide +kernel
theorem dX8_image_44 : decode cX8_image 44 = .ok (.getfield 96, 3) := by decide +kernel
theorem dX8_image_47 : decode cX8_image 47 = .ok (.ireturn, 1) := by decide +kernel
theorem dX8_undo_0 : decode cX8_undo 0 = .ok (.aload_n 0, 1) := by decide +kernel
theorem dX8_undo_1 : decode cX8_undo 1 = .ok (.getfield 273, 3) := by decide +kernel
theorem dX8_undo_4 : decode cX8_undo 4 = .ok (.ifCond .ne 6, 3) := by decide +kernel
theorem dX8_undo_7 : decode cX8_undo 7 = .ok (.bipush (-3), 2) := by decide +kernel
theorem dX8_undo_9 : decode cX8_undo 9 = .ok (.ireturn, 1) := by decide +kernel
theorem dX8_undo_10 : decode cX8_undo 10 = .ok (.aload_n 0, 1) := by decide +kernel
theorem dX8_undo_11 : decode cX8_undo 11 = .ok (.getfield 30, 3) := by decide +kernel
theorem dX8_undo_14 : decode cX8_undo 14 = .ok (.aload_n 0, 1) := by decide +kernel
theorem dX8_undo_15 : decode cX8_undo 15 = .ok (.getfield 26, 3) := by decide +kernel
theorem dX8_undo_18 : decode cX8_undo 18 = .ok (.aload_n 0, 1) := by decide +kernel
theorem dX8_undo_19 : decode cX8_undo 19 = .ok (.getfield 270, 3) := by decide +kernel
theorem dX8_undo_22 : decode cX8_undo 22 = .ok (.invokestatic 260, 3) := by decide +kernel
theorem dX8_undo_25 : decode cX8_undo 25 = .ok (.aload_n 0, 1) := by decide +kernel
theorem dX8_undo_26 : decode cX8_undo 26 = .ok (.getfield 15, 3) := by decide +kernel
theorem dX8_undo_29 : decode cX8_undo 29 = .ok (.iconst 0, 1) := by decide +kernel
theorem dX8_undo_30 : decode cX8_undo 30 = .ok (.aload_n 0, 1) := by decide +kernel
theorem dX8_undo_31 : decode cX8_undo 31 = .ok (.getfield 11, 3) := by decide +kernel
theorem dX8_undo_34 : decode cX8_undo 34 = .ok (.iconst 0, 1) := by decide +kernel
theorem dX8_undo_35 : decode cX8_undo 35 = .ok (.bipush 8, 2) := by decide +kernel
theorem dX8_undo_37 : decode cX8_undo 37 = .ok (.invokestatic 264, 3) := by decide +kernel
theorem dX8_undo_40 : decode cX8_undo 40 = .ok (.aload_n 0, 1) := by decide +kernel
theorem dX8_undo_41 : decode cX8_undo 41 = .ok (.aload_n 0, 1) := by decide +kernel
theorem dX8_undo_42 : decode cX8_undo 42 = .ok (.getfield 270, 3) := by decide +kernel
theorem dX8_undo_45 : decode cX8_undo 45 = .ok (.putfield 96, 3) := by decide +kernel
theorem dX8_undo_48 : decode cX8_undo 48 = .ok (.aload_n 0, 1) := by decide +kernel
theorem dX8_undo_49 : decode cX8_undo 49 = .ok (.getfield 96, 3) := by decide +kernel
theorem dX8_undo_52 : decode cX8_undo 52 = .ok (.ireturn, 1) := by decide +kernel
theorem dX8_act_0 : decode cX8_act 0 = .ok (.aload_n 0, 1) := by decide +kernel
theorem dX8_act_1 : decode cX8_act 1 = .ok (.getfield 65, 3) := by decide +kernel
theorem dX8_act_4 : decode cX8_act 4 = .ok (.aload_n 0, 1) := by decide +kernel
theorem dX8_act_5 : decode cX8_act 5 = .ok (.getfield 96, 3) := by decide +kernel
theorem dX8_act_8 : decode cX8_act 8 = .ok (.aload_n 0, 1) := by decide +kernel
theorem dX8_act_9 : decode cX8_act 9 = .ok (.getfield 80, 3) := by decide +kernel
theorem dX8_act_12 : decode cX8_act 12 = .ok (.invokevirtual 277, 3) := by decide +kernel
theorem dX8_act_15 : decode cX8_act 15 = .ok (.iload_n 1, 1) := by decide +kernel
theorem dX8_act_16 : decode cX8_act 16 = .ok (.invokestatic 280, 3) := by decide +kernel
theorem dX8_act_19 : decode cX8_act 19 = .ok (.ifCond .eq 12, 3) := by decide +kernel
theorem dX8_act_22 : decode cX8_act 22 = .ok (.iload_n 2, 1) := by decide +kernel
theorem dX8_act_23 : decode cX8_act 23 = .ok (.ifCond .lt 8, 3) := by decide +kernel
theorem dX8_act_26 : decode cX8_act 26 = .ok (.iload_n 2, 1) := by decide +kernel
theorem dX8_act_27 : decode cX8_act 27 = .ok (.iconst 3, 1) := by decide +kernel
theorem dX8_act_28 : decode cX8_act 28 = .ok (.if_icmp .lt 5, 3) := by decide +kernel
theorem dX8_act_31 : decode cX8_act 31 = .ok (.iconst 0, 1) := by decide +kernel
theorem dX8_act_32 : decode cX8_act 32 = .ok (.ireturn, 1) := by decide +kernel
theorem dX8_act_33 : decode cX8_act 33 = .ok (.aload_n 0, 1) := by decide +kernel
theorem dX8_act_34 : decode cX8_act 34 = .ok (.getfield 65, 3) := by decide +kernel
theorem dX8_act_37 : decode cX8_act 37 = .ok (.iload_n 1, 1) := by decide +kernel
theorem dX8_act_38 : decode cX8_act 38 = .ok (.iload_n 2, 1) := by decide +kernel
theorem dX8_act_39 : decode cX8_act 39 = .ok (.iload_n 3, 1) := by decide +kernel
theorem dX8_act_40 : decode cX8_act 40 = .ok (.invokevirtual 283, 3) := by decide +kernel
theorem dX8_act_43 : decode cX8_act 43 = .ok (.ireturn, 1) := by decide +kernel
theorem dX8_trace_0 : decode cX8_trace 0 = .ok (.aload_n 0, 1) := by decide +kernel
theorem dX8_trace_1 : decode cX8_trace 1 = .ok (.getfield 65, 3) := by decide +kernel
theorem dX8_trace_4 : decode cX8_trace 4 = .ok (.iload_n 1, 1) := by decide +kernel
theorem dX8_trace_5 : decode cX8_trace 5 = .ok (.invokevirtual 287, 3) := by decide +kernel
theorem dX8_trace_8 : decode cX8_trace 8 = .ok (.ireturn, 1) := by decide +kernel
theorem dX8_taken_0 : decode cX8_taken 0 = .ok (.iload_n 2, 1) := by decide +kernel
theorem dX8_taken_1 : decode cX8_taken 1 = .ok (.invokestatic 280, 3) := by decide +kernel
theorem dX8_taken_4 : decode cX8_taken 4 = .ok (.ifCond .ne 6, 3) := by decide +kernel
theorem dX8_taken_7 : decode cX8_taken 7 = .ok (.bipush (-2), 2) := by decide +kernel
theorem dX8_taken_9 : decode cX8_taken 9 = .ok (.ireturn, 1) := by decide +kernel
theorem dX8_taken_10 : decode cX8_taken 10 = .ok (.iload_n 1, 1) := by decide +kernel
theorem dX8_taken_11 : decode cX8_taken 11 = .ok (.invokestatic 280, 3) := by decide +kernel
theorem dX8_taken_14 : decode cX8_taken 14 = .ok (.ifCond .ne 6, 3) := by decide +kernel
theorem dX8_taken_17 : decode cX8_taken 17 = .ok (.bipush (-11), 2) := by decide +kernel
theorem dX8_taken_19 : decode cX8_taken 19 = .ok (.ireturn, 1) := by decide +kernel
theorem dX8_taken_20 : decode cX8_taken 20 = .ok (.iload_n 1, 1) := by decide +kernel
theorem dX8_taken_21 : decode cX8_taken 21 = .ok (.istore_n 3, 1) := by decide +kernel
theorem dX8_taken_22 : decode cX8_taken 22 = .ok (.iconst 0, 1) := by decide +kernel
theorem dX8_taken_23 : decode cX8_taken 23 = .ok (.istore 4, 2) := by decide +kernel
theorem dX8_taken_25 : decode cX8_taken 25 = .ok (.iload 4, 2) := by decide +kernel
theorem dX8_taken_27 : decode cX8_taken 27 = .ok (.bipush 7, 2) := by decide +kernel
theorem dX8_taken_29 : decode cX8_taken 29 = .ok (.if_icmp .ge 26, 3) := by decide +kernel
theorem dX8_taken_32 : decode cX8_taken 32 = .ok (.iload_n 3, 1) := by decide +kernel
theorem dX8_taken_33 : decode cX8_taken 33 = .ok (.ifCond .lt 22, 3) := by decide +kernel
theorem dX8_taken_36 : decode cX8_taken 36 = .ok (.iload_n 3, 1) := by decide +kernel
theorem dX8_taken_37 : decode cX8_taken 37 = .ok (.iload_n 2, 1) := by decide +kernel
theorem dX8_taken_38 : decode cX8_taken 38 = .ok (.if_icmp .ne 5, 3) := by decide +kernel
theorem dX8_taken_41 : decode cX8_taken 41 = .ok (.iload_n 1, 1) := by decide +kernel
theorem dX8_taken_42 : decode cX8_taken 42 = .ok (.ireturn, 1) := by decide +kernel
theorem dX8_taken_43 : decode cX8_taken 43 = .ok (.getstatic 290, 3) := by decide +kernel
theorem dX8_taken_46 : decode cX8_taken 46 = .ok (.iload_n 3, 1) := by decide +kernel
theorem dX8_taken_47 : decode cX8_taken 47 = .ok (.iaload, 1) := by decide +kernel
theorem dX8_taken_48 : decode cX8_taken 48 = .ok (.istore_n 3, 1) := by decide +kernel
theorem dX8_taken_49 : decode cX8_taken 49 = .ok (.iinc 4 1, 3) := by decide +kernel
theorem dX8_taken_52 : decode cX8_taken 52 = .ok (.goto (-27), 3) := by decide +kernel
theorem dX8_taken_55 : decode cX8_taken 55 = .ok (.bipush (-12), 2) := by decide +kernel
theorem dX8_taken_57 : decode cX8_taken 57 = .ok (.ireturn, 1) := by decide +kernel
theorem dX8_count_0 : decode cX8_count 0 = .ok (.iload_n 1, 1) := by decide +kernel
theorem dX8_count_1 : decode cX8_count 1 = .ok (.tableswitch 66 0 4 #[35, 40, 45, 50, 58], 35) := by decide +kernel
theorem dX8_count_36 : decode cX8_count 36 = .ok (.aload_n 0, 1) := by decide +kernel
theorem dX8_count_37 : decode cX8_count 37 = .ok (.getfield 80, 3) := by decide +kernel
theorem dX8_count_40 : decode cX8_count 40 = .ok (.ireturn, 1) := by decide +kernel
theorem dX8_count_41 : decode cX8_count 41 = .ok (.aload_n 0, 1) := by decide +kernel
theorem dX8_count_42 : decode cX8_count 42 = .ok (.getfield 96, 3) := by decide +kernel
theorem dX8_count_45 : decode cX8_count 45 = .ok (.ireturn, 1) := by decide +kernel
theorem dX8_count_46 : decode cX8_count 46 = .ok (.aload_n 0, 1) := by decide +kernel
theorem dX8_count_47 : decode cX8_count 47 = .ok (.getfield 136, 3) := by decide +kernel
theorem dX8_count_50 : decode cX8_count 50 = .ok (.ireturn, 1) := by decide +kernel
theorem dX8_count_51 : decode cX8_count 51 = .ok (.aload_n 0, 1) := by decide +kernel
theorem dX8_count_52 : decode cX8_count 52 = .ok (.getfield 48, 3) := by decide +kernel
theorem dX8_count_55 : decode cX8_count 55 = .ok (.getfield 129, 3) := by decide +kernel
theorem dX8_count_58 : decode cX8_count 58 = .ok (.ireturn, 1) := by decide +kernel
theorem dX8_count_59 : decode cX8_count 59 = .ok (.aload_n 0, 1) := by decide +kernel
theorem dX8_count_60 : decode cX8_count 60 = .ok (.getfield 65, 3) := by decide +kernel
theorem dX8_count_63 : decode cX8_count 63 = .ok (.getfield 293, 3) := by decide +kernel
theorem dX8_count_66 : decode cX8_count 66 = .ok (.ireturn, 1) := by decide +kernel
theorem dX8_count_67 : decode cX8_count 67 = .ok (.bipush (-2), 2) := by decide +kernel
theorem dX8_count_69 : decode cX8_count 69 = .ok (.ireturn, 1) := by decide +kernel
theorem dX8_tape_0 : decode cX8_tape 0 = .ok (.iload_n 1, 1) := by decide +kernel
theorem dX8_tape_1 : decode cX8_tape 1 = .ok (.invokestatic 236, 3) := by decide +kernel
theorem dX8_tape_4 : decode cX8_tape 4 = .ok (.ifCond .ne 5, 3) := by decide +kernel
theorem dX8_tape_7 : decode cX8_tape 7 = .ok (.iconst (-1), 1) := by decide +kernel
theorem dX8_tape_8 : decode cX8_tape 8 = .ok (.ireturn, 1) := by decide +kernel
theorem dX8_tape_9 : decode cX8_tape 9 = .ok (.iload_n 2, 1) := by decide +kernel
theorem dX8_tape_10 : decode cX8_tape 10 = .ok (.iconst (-1), 1) := by decide +kernel
theorem dX8_tape_11 : decode cX8_tape 11 = .ok (.if_icmp .lt 8, 3) := by decide +kernel
theorem dX8_tape_14 : decode cX8_tape 14 = .ok (.iload_n 2, 1) := by decide +kernel
theorem dX8_tape_15 : decode cX8_tape 15 = .ok (.iconst 4, 1) := by decide +kernel
theorem dX8_tape_16 : decode cX8_tape 16 = .ok (.if_icmp .le 6, 3) := by decide +kernel
theorem dX8_tape_19 : decode cX8_tape 19 = .ok (.bipush (-2), 2) := by decide +kernel
theorem dX8_tape_21 : decode cX8_tape 21 = .ok (.ireturn, 1) := by decide +kernel
theorem dX8_tape_22 : decode cX8_tape 22 = .ok (.iload_n 2, 1) := by decide +kernel
theorem dX8_tape_23 : decode cX8_tape 23 = .ok (.iconst (-1), 1) := by decide +kernel
theorem dX8_tape_24 : decode cX8_tape 24 = .ok (.if_icmp .eq 12, 3) := by decide +kernel
theorem dX8_tape_27 : decode cX8_tape 27 = .ok (.iload_n 3, 1) := by decide +kernel
theorem dX8_tape_28 : decode cX8_tape 28 = .ok (.bipush 60, 2) := by decide +kernel
theorem dX8_tape_30 : decode cX8_tape 30 = .ok (.if_icmp .le 6, 3) := by decide +kernel
theorem dX8_tape_33 : decode cX8_tape 33 = .ok (.bipush (-2), 2) := by decide +kernel
theorem dX8_tape_35 : decode cX8_tape 35 = .ok (.ireturn, 1) := by decide +kernel
theorem dX8_tape_36 : decode cX8_tape 36 = .ok (.iload_n 2, 1) := by decide +kernel
theorem dX8_tape_37 : decode cX8_tape 37 = .ok (.iconst (-1), 1) := by decide +kernel
theorem dX8_tape_38 : decode cX8_tape 38 = .ok (.if_icmp .eq 10, 3) := by decide +kernel
theorem dX8_tape_41 : decode cX8_tape 41 = .ok (.iload_n 3, 1) := by decide +kernel
theorem dX8_tape_42 : decode cX8_tape 42 = .ok (.ifCond .ge 6, 3) := by decide +kernel
theorem dX8_tape_45 : decode cX8_tape 45 = .ok (.bipush (-14), 2) := by decide +kernel
theorem dX8_tape_47 : decode cX8_tape 47 = .ok (.ireturn, 1) := by decide +kernel
theorem dX8_tape_48 : decode cX8_tape 48 = .ok (.aload_n 0, 1) := by decide +kernel
theorem dX8_tape_49 : decode cX8_tape 49 = .ok (.getfield 41, 3) := by decide +kernel
theorem dX8_tape_52 : decode cX8_tape 52 = .ok (.iload_n 1, 1) := by decide +kernel
theorem dX8_tape_53 : decode cX8_tape 53 = .ok (.aaload, 1) := by decide +kernel
theorem dX8_tape_54 : decode cX8_tape 54 = .ok (.iload_n 2, 1) := by decide +kernel
theorem dX8_tape_55 : decode cX8_tape 55 = .ok (.iload_n 2, 1) := by decide +kernel
theorem dX8_tape_56 : decode cX8_tape 56 = .ok (.iconst (-1), 1) := by decide +kernel
theorem dX8_tape_57 : decode cX8_tape 57 = .ok (.if_icmp .ne 7, 3) := by decide +kernel
theorem dX8_tape_60 : decode cX8_tape 60 = .ok (.iconst 0, 1) := by decide +kernel
theorem dX8_tape_61 : decode cX8_tape 61 = .ok (.goto 4, 3) := by decide +kernel
theorem dX8_tape_64 : decode cX8_tape 64 = .ok (.iload_n 3, 1) := by decide +kernel
theorem dX8_tape_65 : decode cX8_tape 65 = .ok (.invokevirtual 296, 3) := by decide +kernel
theorem dX8_tape_68 : decode cX8_tape 68 = .ok (.iconst 1, 1) := by decide +kernel
theorem dX8_tape_69 : decode cX8_tape 69 = .ok (.ireturn, 1) := by decide +kernel
theorem dX8_item_0 : decode cX8_item 0 = .ok (.iload_n 1, 1) := by decide +kernel
theorem dX8_item_1 : decode cX8_item 1 = .ok (.invokestatic 236, 3) := by decide +kernel
theorem dX8_item_4 : decode cX8_item 4 = .ok (.ifCond .ne 5, 3) := by decide +kernel
theorem dX8_item_7 : decode cX8_item 7 = .ok (.iconst (-1), 1) := by decide +kernel
theorem dX8_item_8 : decode cX8_item 8 = .ok (.ireturn, 1) := by decide +kernel
theorem dX8_item_9 : decode cX8_item 9 = .ok (.aload_n 0, 1) := by decide +kernel
theorem dX8_item_10 : decode cX8_item 10 = .ok (.getfield 41, 3) := by decide +kernel
theorem dX8_item_13 : decode cX8_item 13 = .ok (.iload_n 1, 1) := by decide +kernel
theorem dX8_item_14 : decode cX8_item 14 = .ok (.aaload, 1) := by decide +kernel
theorem dX8_item_15 : decode cX8_item 15 = .ok (.astore 5, 2) := by decide +kernel
theorem dX8_item_17 : decode cX8_item 17 = .ok (.aload 5, 2) := by decide +kernel
theorem dX8_item_19 : decode cX8_item 19 = .ok (.getfield 239, 3) := by decide +kernel
theorem dX8_item_22 : decode cX8_item 22 = .ok (.iconst (-1), 1) := by decide +kernel
theorem dX8_item_23 : decode cX8_item 23 = .ok (.if_icmp .ne 6, 3) := by decide +kernel
theorem dX8_item_26 : decode cX8_item 26 = .ok (.bipush (-11), 2) := by decide +kernel
theorem dX8_item_28 : decode cX8_item 28 = .ok (.ireturn, 1) := by decide +kernel
theorem dX8_item_29 : decode cX8_item 29 = .ok (.aload 5, 2) := by decide +kernel
theorem dX8_item_31 : decode cX8_item 31 = .ok (.iload_n 2, 1) := by decide +kernel
theorem dX8_item_32 : decode cX8_item 32 = .ok (.i2l, 1) := by decide +kernel
theorem dX8_item_33 : decode cX8_item 33 = .ok (.invokevirtual 245, 3) := by decide +kernel
theorem dX8_item_36 : decode cX8_item 36 = .ok (.ifCond .ne 6, 3) := by decide +kernel
theorem dX8_item_39 : decode cX8_item 39 = .ok (.bipush (-13), 2) := by decide +kernel
theorem dX8_item_41 : decode cX8_item 41 = .ok (.ireturn, 1) := by decide +kernel
theorem dX8_item_42 : decode cX8_item 42 = .ok (.aload 5, 2) := by decide +kernel
theorem dX8_item_44 : decode cX8_item 44 = .ok (.getfield 249, 3) := by decide +kernel
theorem dX8_item_47 : decode cX8_item 47 = .ok (.iload_n 2, 1) := by decide +kernel
theorem dX8_item_48 : decode cX8_item 48 = .ok (.aload 5, 2) := by decide +kernel
theorem dX8_item_50 : decode cX8_item 50 = .ok (.lload_n 3, 1) := by decide +kernel
theorem dX8_item_51 : decode cX8_item 51 = .ok (.invokevirtual 299, 3) := by decide +kernel
theorem dX8_item_54 : decode cX8_item 54 = .ok (.lastore, 1) := by decide +kernel
theorem dX8_item_55 : decode cX8_item 55 = .ok (.iconst 1, 1) := by decide +kernel
theorem dX8_item_56 : decode cX8_item 56 = .ok (.ireturn, 1) := by decide +kernel
theorem dX8_read_0 : decode cX8_read 0 = .ok (.iload_n 1, 1) := by decide +kernel
theorem dX8_read_1 : decode cX8_read 1 = .ok (.invokestatic 236, 3) := by decide +kernel
theorem dX8_read_4 : decode cX8_read 4 = .ok (.ifCond .eq 17, 3) := by decide +kernel
theorem dX8_read_7 : decode cX8_read 7 = .ok (.aload_n 0, 1) := by decide +kernel
theorem dX8_read_8 : decode cX8_read 8 = .ok (.getfield 41, 3) := by decide +kernel
theorem dX8_read_11 : decode cX8_read 11 = .ok (.iload_n 1, 1) := by decide +kernel
theorem dX8_read_12 : decode cX8_read 12 = .ok (.aaload, 1) := by decide +kernel
theorem dX8_read_13 : decode cX8_read 13 = .ok (.iload_n 2, 1) := by decide +kernel
theorem dX8_read_14 : decode cX8_read 14 = .ok (.i2l, 1) := by decide +kernel
theorem dX8_read_15 : decode cX8_read 15 = .ok (.invokevirtual 245, 3) := by decide +kernel
theorem dX8_read_18 : decode cX8_read 18 = .ok (.ifCond .ne 7, 3) := by decide +kernel
theorem dX8_read_21 : decode cX8_read 21 = .ok (.ldc2_w 178, 3) := by decide +kernel
theorem dX8_read_24 : decode cX8_read 24 = .ok (.lreturn, 1) := by decide +kernel
theorem dX8_read_25 : decode cX8_read 25 = .ok (.aload_n 0, 1) := by decide +kernel
theorem dX8_read_26 : decode cX8_read 26 = .ok (.getfield 41, 3) := by decide +kernel
theorem dX8_read_29 : decode cX8_read 29 = .ok (.iload_n 1, 1) := by decide +kernel
theorem dX8_read_30 : decode cX8_read 30 = .ok (.aaload, 1) := by decide +kernel
theorem dX8_read_31 : decode cX8_read 31 = .ok (.getfield 249, 3) := by decide +kernel
theorem dX8_read_34 : decode cX8_read 34 = .ok (.iload_n 2, 1) := by decide +kernel
theorem dX8_read_35 : decode cX8_read 35 = .ok (.laload, 1) := by decide +kernel
theorem dX8_read_36 : decode cX8_read 36 = .ok (.lreturn, 1) := by decide +kernel
theorem dX8_shift_0 : decode cX8_shift 0 = .ok (.iload_n 1, 1) := by decide +kernel
theorem dX8_shift_1 : decode cX8_shift 1 = .ok (.invokestatic 236, 3) := by decide +kernel
theorem dX8_shift_4 : decode cX8_shift 4 = .ok (.ifCond .eq 10, 3) := by decide +kernel
theorem dX8_shift_7 : decode cX8_shift 7 = .ok (.iload_n 3, 1) := by decide +kernel
theorem dX8_shift_8 : decode cX8_shift 8 = .ok (.invokestatic 236, 3) := by decide +kernel
theorem dX8_shift_11 : decode cX8_shift 11 = .ok (.ifCond .ne 5, 3) := by decide +kernel
theorem dX8_shift_14 : decode cX8_shift 14 = .ok (.iconst (-1), 1) := by decide +kernel
theorem dX8_shift_15 : decode cX8_shift 15 = .ok (.ireturn, 1) := by decide +kernel
theorem dX8_shift_16 : decode cX8_shift 16 = .ok (.aload_n 0, 1) := by decide +kernel
theorem dX8_shift_17 : decode cX8_shift 17 = .ok (.getfield 41, 3) := by decide +kernel
theorem dX8_shift_20 : decode cX8_shift 20 = .ok (.iload_n 1, 1) := by decide +kernel
theorem dX8_shift_21 : decode cX8_shift 21 = .ok (.aaload, 1) := by decide +kernel
theorem dX8_shift_22 : decode cX8_shift 22 = .ok (.astore 6, 2) := by decide +kernel
theorem dX8_shift_24 : decode cX8_shift 24 = .ok (.aload_n 0, 1) := by decide +kernel
theorem dX8_shift_25 : decode cX8_shift 25 = .ok (.getfield 41, 3) := by decide +kernel
theorem dX8_shift_28 : decode cX8_shift 28 = .ok (.iload_n 3, 1) := by decide +kernel
theorem dX8_shift_29 : decode cX8_shift 29 = .ok (.aaload, 1) := by decide +kernel
theorem dX8_shift_30 : decode cX8_shift 30 = .ok (.astore 7, 2) := by decide +kernel
theorem dX8_shift_32 : decode cX8_shift 32 = .ok (.aload 6, 2) := by decide +kernel
theorem dX8_shift_34 : decode cX8_shift 34 = .ok (.getfield 239, 3) := by decide +kernel
theorem dX8_shift_37 : decode cX8_shift 37 = .ok (.iconst (-1), 1) := by decide +kernel
theorem dX8_shift_38 : decode cX8_shift 38 = .ok (.if_icmp .eq 12, 3) := by decide +kernel
theorem dX8_shift_41 : decode cX8_shift 41 = .ok (.aload 7, 2) := by decide +kernel
theorem dX8_shift_43 : decode cX8_shift 43 = .ok (.getfield 239, 3) := by decide +kernel
theorem dX8_shift_46 : decode cX8_shift 46 = .ok (.iconst (-1), 1) := by decide +kernel
theorem dX8_shift_47 : decode cX8_shift 47 = .ok (.if_icmp .ne 6, 3) := by decide +kernel
theorem dX8_shift_50 : decode cX8_shift 50 = .ok (.bipush (-11), 2) := by decide +kernel
theorem dX8_shift_52 : decode cX8_shift 52 = .ok (.ireturn, 1) := by decide +kernel
theorem dX8_shift_53 : decode cX8_shift 53 = .ok (.aload 6, 2) := by decide +kernel
theorem dX8_shift_55 : decode cX8_shift 55 = .ok (.getfield 239, 3) := by decide +kernel
theorem dX8_shift_58 : decode cX8_shift 58 = .ok (.aload 7, 2) := by decide +kernel
theorem dX8_shift_60 : decode cX8_shift 60 = .ok (.getfield 239, 3) := by decide +kernel
theorem dX8_shift_63 : decode cX8_shift 63 = .ok (.if_icmp .eq 6, 3) := by decide +kernel
theorem dX8_shift_66 : decode cX8_shift 66 = .ok (.bipush (-12), 2) := by decide +kernel
theorem dX8_shift_68 : decode cX8_shift 68 = .ok (.ireturn, 1) := by decide +kernel
theorem dX8_shift_69 : decode cX8_shift 69 = .ok (.aload 6, 2) := by decide +kernel
theorem dX8_shift_71 : decode cX8_shift 71 = .ok (.iload_n 2, 1) := by decide +kernel
theorem dX8_shift_72 : decode cX8_shift 72 = .ok (.iload 5, 2) := by decide +kernel
theorem dX8_shift_74 : decode cX8_shift 74 = .ok (.invokevirtual 303, 3) := by decide +kernel
theorem dX8_shift_77 : decode cX8_shift 77 = .ok (.ifCond .eq 15, 3) := by decide +kernel
theorem dX8_shift_80 : decode cX8_shift 80 = .ok (.aload 7, 2) := by decide +kernel
theorem dX8_shift_82 : decode cX8_shift 82 = .ok (.iload 4, 2) := by decide +kernel
theorem dX8_shift_84 : decode cX8_shift 84 = .ok (.iload 5, 2) := by decide +kernel
theorem dX8_shift_86 : decode cX8_shift 86 = .ok (.invokevirtual 303, 3) := by decide +kernel
theorem dX8_shift_89 : decode cX8_shift 89 = .ok (.ifCond .ne 6, 3) := by decide +kernel
theorem dX8_shift_92 : decode cX8_shift 92 = .ok (.bipush (-13), 2) := by decide +kernel
theorem dX8_shift_94 : decode cX8_shift 94 = .ok (.ireturn, 1) := by decide +kernel
theorem dX8_shift_95 : decode cX8_shift 95 = .ok (.aload 6, 2) := by decide +kernel
theorem dX8_shift_97 : decode cX8_shift 97 = .ok (.getfield 249, 3) := by decide +kernel
theorem dX8_shift_100 : decode cX8_shift 100 = .ok (.iload_n 2, 1) := by decide +kernel
theorem dX8_shift_101 : decode cX8_shift 101 = .ok (.aload 7, 2) := by decide +kernel
theorem dX8_shift_103 : decode cX8_shift 103 = .ok (.getfield 249, 3) := by decide +kernel
theorem dX8_shift_106 : decode cX8_shift 106 = .ok (.iload 4, 2) := by decide +kernel
theorem dX8_shift_108 : decode cX8_shift 108 = .ok (.iload 5, 2) := by decide +kernel
theorem dX8_shift_110 : decode cX8_shift 110 = .ok (.invokestatic 264, 3) := by decide +kernel
theorem dX8_shift_113 : decode cX8_shift 113 = .ok (.iload 5, 2) := by decide +kernel
theorem dX8_shift_115 : decode cX8_shift 115 = .ok (.ireturn, 1) := by decide +kernel
theorem dX8_isPerson_0 : decode cX8_isPerson 0 = .ok (.iload_n 0, 1) := by decide +kernel
theorem dX8_isPerson_1 : decode cX8_isPerson 1 = .ok (.ifCond .lt 13, 3) := by decide +kernel
theorem dX8_isPerson_4 : decode cX8_isPerson 4 = .ok (.iload_n 0, 1) := by decide +kernel
theorem dX8_isPerson_5 : decode cX8_isPerson 5 = .ok (.bipush 8, 2) := by decide +kernel
theorem dX8_isPerson_7 : decode cX8_isPerson 7 = .ok (.if_icmp .ge 7, 3) := by decide +kernel
theorem dX8_isPerson_10 : decode cX8_isPerson 10 = .ok (.iconst 1, 1) := by decide +kernel
theorem dX8_isPerson_11 : decode cX8_isPerson 11 = .ok (.goto 4, 3) := by decide +kernel
theorem dX8_isPerson_14 : decode cX8_isPerson 14 = .ok (.iconst 0, 1) := by decide +kernel
theorem dX8_isPerson_15 : decode cX8_isPerson 15 = .ok (.ireturn, 1) := by decide +kernel
theorem dX8_isKind_0 : decode cX8_isKind 0 = .ok (.iload_n 0, 1) := by decide +kernel
theorem dX8_isKind_1 : decode cX8_isKind 1 = .ok (.ifCond .lt 13, 3) := by decide +kernel
theorem dX8_isKind_4 : decode cX8_isKind 4 = .ok (.iload_n 0, 1) := by decide +kernel
theorem dX8_isKind_5 : decode cX8_isKind 5 = .ok (.bipush 7, 2) := by decide +kernel
theorem dX8_isKind_7 : decode cX8_isKind 7 = .ok (.if_icmp .ge 7, 3) := by decide +kernel
theorem dX8_isKind_10 : decode cX8_isKind 10 = .ok (.iconst 1, 1) := by decide +kernel
theorem dX8_isKind_11 : decode cX8_isKind 11 = .ok (.goto 4, 3) := by decide +kernel
theorem dX8_isKind_14 : decode cX8_isKind 14 = .ok (.iconst 0, 1) := by decide +kernel
theorem dX8_isKind_15 : decode cX8_isKind 15 = .ok (.ireturn, 1) := by decide +kernel
theorem dX8_isTape_0 : decode cX8_isTape 0 = .ok (.iload_n 0, 1) := by decide +kernel
theorem dX8_isTape_1 : decode cX8_isTape 1 = .ok (.ifCond .lt 13, 3) := by decide +kernel
theorem dX8_isTape_4 : decode cX8_isTape 4 = .ok (.iload_n 0, 1) := by decide +kernel
theorem dX8_isTape_5 : decode cX8_isTape 5 = .ok (.bipush 6, 2) := by decide +kernel
theorem dX8_isTape_7 : decode cX8_isTape 7 = .ok (.if_icmp .ge 7, 3) := by decide +kernel
theorem dX8_isTape_10 : decode cX8_isTape 10 = .ok (.iconst 1, 1) := by decide +kernel
theorem dX8_isTape_11 : decode cX8_isTape 11 = .ok (.goto 4, 3) := by decide +kernel
theorem dX8_isTape_14 : decode cX8_isTape 14 = .ok (.iconst 0, 1) := by decide +kernel
theorem dX8_isTape_15 : decode cX8_isTape 15 = .ok (.ireturn, 1) := by decide +kernel
theorem dX8_isPart_0 : decode cX8_isPart 0 = .ok (.iload_n 0, 1) := by decide +kernel
theorem dX8_isPart_1 : decode cX8_isPart 1 = .ok (.ifCond .eq 8, 3) := by decide +kernel
theorem dX8_isPart_4 : decode cX8_isPart 4 = .ok (.iload_n 0, 1) := by decide +kernel
theorem dX8_isPart_5 : decode cX8_isPart 5 = .ok (.iconst 1, 1) := by decide +kernel
theorem dX8_isPart_6 : decode cX8_isPart 6 = .ok (.if_icmp .ne 7, 3) := by decide +kernel
theorem dX8_isPart_9 : decode cX8_isPart 9 = .ok (.iconst 1, 1) := by decide +kernel
theorem dX8_isPart_10 : decode cX8_isPart 10 = .ok (.goto 4, 3) := by decide +kernel
theorem dX8_isPart_13 : decode cX8_isPart 13 = .ok (.iconst 0, 1) := by decide +kernel
theorem dX8_isPart_14 : decode cX8_isPart 14 = .ok (.ireturn, 1) := by decide +kernel
theorem dX8_isSuit_0 : decode cX8_isSuit 0 = .ok (.iload_n 1, 1) := by decide +kernel
theorem dX8_isSuit_1 : decode cX8_isSuit 1 = .ok (.ifCond .lt 15, 3) := by decide +kernel
theorem dX8_isSuit_4 : decode cX8_isSuit 4 = .ok (.iload_n 1, 1) := by decide +kernel
theorem dX8_isSuit_5 : decode cX8_isSuit 5 = .ok (.aload_n 0, 1) := by decide +kernel
theorem dX8_isSuit_6 : decode cX8_isSuit 6 = .ok (.getfield 80, 3) := by decide +kernel
theorem dX8_isSuit_9 : decode cX8_isSuit 9 = .ok (.if_icmp .ge 7, 3) := by decide +kernel
theorem dX8_isSuit_12 : decode cX8_isSuit 12 = .ok (.iconst 1, 1) := by decide +kernel
theorem dX8_isSuit_13 : decode cX8_isSuit 13 = .ok (.goto 4, 3) := by decide +kernel
theorem dX8_isSuit_16 : decode cX8_isSuit 16 = .ok (.iconst 0, 1) := by decide +kernel
theorem dX8_isSuit_17 : decode cX8_isSuit 17 = .ok (.ireturn, 1) := by decide +kernel
theorem dX8_isClaim_0 : decode cX8_isClaim 0 = .ok (.iload_n 1, 1) := by decide +kernel
theorem dX8_isClaim_1 : decode cX8_isClaim 1 = .ok (.ifCond .lt 15, 3) := by decide +kernel
theorem dX8_isClaim_4 : decode cX8_isClaim 4 = .ok (.iload_n 1, 1) := by decide +kernel
theorem dX8_isClaim_5 : decode cX8_isClaim 5 = .ok (.aload_n 0, 1) := by decide +kernel
theorem dX8_isClaim_6 : decode cX8_isClaim 6 = .ok (.getfield 96, 3) := by decide +kernel
theorem dX8_isClaim_9 : decode cX8_isClaim 9 = .ok (.if_icmp .ge 7, 3) := by decide +kernel
theorem dX8_isClaim_12 : decode cX8_isClaim 12 = .ok (.iconst 1, 1) := by decide +kernel
theorem dX8_isClaim_13 : decode cX8_isClaim 13 = .ok (.goto 4, 3) := by decide +kernel
theorem dX8_isClaim_16 : decode cX8_isClaim 16 = .ok (.iconst 0, 1) := by decide +kernel
theorem dX8_isClaim_17 : decode cX8_isClaim 17 = .ok (.ireturn, 1) := by decide +kernel
theorem dX8_isLaw_0 : decode cX8_isLaw 0 = .ok (.iload_n 1, 1) := by decide +kernel
theorem dX8_isLaw_1 : decode cX8_isLaw 1 = .ok (.ifCond .lt 15, 3) := by decide +kernel
theorem dX8_isLaw_4 : decode cX8_isLaw 4 = .ok (.iload_n 1, 1) := by decide +kernel
theorem dX8_isLaw_5 : decode cX8_isLaw 5 = .ok (.aload_n 0, 1) := by decide +kernel
theorem dX8_isLaw_6 : decode cX8_isLaw 6 = .ok (.getfield 136, 3) := by decide +kernel
theorem dX8_isLaw_9 : decode cX8_isLaw 9 = .ok (.if_icmp .ge 7, 3) := by decide +kernel
theorem dX8_isLaw_12 : decode cX8_isLaw 12 = .ok (.iconst 1, 1) := by decide +kernel
theorem dX8_isLaw_13 : decode cX8_isLaw 13 = .ok (.goto 4, 3) := by decide +kernel
theorem dX8_isLaw_16 : decode cX8_isLaw 16 = .ok (.iconst 0, 1) := by decide +kernel
theorem dX8_isLaw_17 : decode cX8_isLaw 17 = .ok (.ireturn, 1) := by decide +kernel
theorem dX8_claimsOfSuit_0 : decode cX8_claimsOfSuit 0 = .ok (.iconst 0, 1) := by decide +kernel
theorem dX8_claimsOfSuit_1 : decode cX8_claimsOfSuit 1 = .ok (.istore_n 2, 1) := by decide +kernel
theorem dX8_claimsOfSuit_2 : decode cX8_claimsOfSuit 2 = .ok (.iconst 0, 1) := by decide +kernel
theorem dX8_claimsOfSuit_3 : decode cX8_claimsOfSuit 3 = .ok (.istore_n 3, 1) := by decide +kernel
theorem dX8_claimsOfSuit_4 : decode cX8_claimsOfSuit 4 = .ok (.iload_n 3, 1) := by decide +kernel
theorem dX8_claimsOfSuit_5 : decode cX8_claimsOfSuit 5 = .ok (.aload_n 0, 1) := by decide +kernel
theorem dX8_claimsOfSuit_6 : decode cX8_claimsOfSuit 6 = .ok (.getfield 96, 3) := by decide +kernel
theorem dX8_claimsOfSuit_9 : decode cX8_claimsOfSuit 9 = .ok (.if_icmp .ge 25, 3) := by decide +kernel
theorem dX8_claimsOfSuit_12 : decode cX8_claimsOfSuit 12 = .ok (.aload_n 0, 1) := by decide +kernel
theorem dX8_claimsOfSuit_13 : decode cX8_claimsOfSuit 13 = .ok (.getfield 26, 3) := by decide +kernel
theorem dX8_claimsOfSuit_16 : decode cX8_claimsOfSuit 16 = .ok (.iload_n 3, 1) := by decide +kernel
theorem dX8_claimsOfSuit_17 : decode cX8_claimsOfSuit 17 = .ok (.aaload, 1) := by decide +kernel
theorem dX8_claimsOfSuit_18 : decode cX8_claimsOfSuit 18 = .ok (.getfield 146, 3) := by decide +kernel
theorem dX8_claimsOfSuit_21 : decode cX8_claimsOfSuit 21 = .ok (.iload_n 1, 1) := by decide +kernel
theorem dX8_claimsOfSuit_22 : decode cX8_claimsOfSuit 22 = .ok (.if_icmp .ne 6, 3) := by decide +kernel
theorem dX8_claimsOfSuit_25 : decode cX8_claimsOfSuit 25 = .ok (.iinc 2 1, 3) := by decide +kernel
theorem dX8_claimsOfSuit_28 : decode cX8_claimsOfSuit 28 = .ok (.iinc 3 1, 3) := by decide +kernel
theorem dX8_claimsOfSuit_31 : decode cX8_claimsOfSuit 31 = .ok (.goto (-27), 3) := by decide +kernel
theorem dX8_claimsOfSuit_34 : decode cX8_claimsOfSuit 34 = .ok (.iload_n 2, 1) := by decide +kernel
theorem dX8_claimsOfSuit_35 : decode cX8_claimsOfSuit 35 = .ok (.ireturn, 1) := by decide +kernel
theorem dX8_hear_0 : decode cX8_hear 0 = .ok (.aload_n 1, 1) := by decide +kernel
theorem dX8_hear_1 : decode cX8_hear 1 = .ok (.aload_n 0, 1) := by decide +kernel
theorem dX8_hear_2 : decode cX8_hear 2 = .ok (.getfield 35, 3) := by decide +kernel
theorem dX8_hear_5 : decode cX8_hear 5 = .ok (.iload_n 3, 1) := by decide +kernel
theorem dX8_hear_6 : decode cX8_hear 6 = .ok (.aaload, 1) := by decide +kernel
theorem dX8_hear_7 : decode cX8_hear 7 = .ok (.aload_n 0, 1) := by decide +kernel
theorem dX8_hear_8 : decode cX8_hear 8 = .ok (.getfield 11, 3) := by decide +kernel
theorem dX8_hear_11 : decode cX8_hear 11 = .ok (.aload_n 0, 1) := by decide +kernel
theorem dX8_hear_12 : decode cX8_hear 12 = .ok (.getfield 20, 3) := by decide +kernel
theorem dX8_hear_15 : decode cX8_hear 15 = .ok (.iload_n 2, 1) := by decide +kernel
theorem dX8_hear_16 : decode cX8_hear 16 = .ok (.aaload, 1) := by decide +kernel
theorem dX8_hear_17 : decode cX8_hear 17 = .ok (.getfield 84, 3) := by decide +kernel
theorem dX8_hear_20 : decode cX8_hear 20 = .ok (.iaload, 1) := by decide +kernel
theorem dX8_hear_21 : decode cX8_hear 21 = .ok (.aload_n 0, 1) := by decide +kernel
theorem dX8_hear_22 : decode cX8_hear 22 = .ok (.getfield 11, 3) := by decide +kernel
theorem dX8_hear_25 : decode cX8_hear 25 = .ok (.aload_n 0, 1) := by decide +kernel
theorem dX8_hear_26 : decode cX8_hear 26 = .ok (.getfield 20, 3) := by decide +kernel
theorem dX8_hear_29 : decode cX8_hear 29 = .ok (.iload_n 2, 1) := by decide +kernel
theorem dX8_hear_30 : decode cX8_hear 30 = .ok (.aaload, 1) := by decide +kernel
theorem dX8_hear_31 : decode cX8_hear 31 = .ok (.getfield 87, 3) := by decide +kernel
theorem dX8_hear_34 : decode cX8_hear 34 = .ok (.iaload, 1) := by decide +kernel
theorem dX8_hear_35 : decode cX8_hear 35 = .ok (.invokevirtual 307, 3) := by decide +kernel
theorem dX8_hear_38 : decode cX8_hear 38 = .ok (.iconst 0, 1) := by decide +kernel
theorem dX8_hear_39 : decode cX8_hear 39 = .ok (.istore 4, 2) := by decide +kernel
theorem dX8_hear_41 : decode cX8_hear 41 = .ok (.iload 4, 2) := by decide +kernel
theorem dX8_hear_43 : decode cX8_hear 43 = .ok (.aload_n 0, 1) := by decide +kernel
theorem dX8_hear_44 : decode cX8_hear 44 = .ok (.getfield 96, 3) := by decide +kernel
theorem dX8_hear_47 : decode cX8_hear 47 = .ok (.if_icmp .ge 36, 3) := by decide +kernel
theorem dX8_hear_50 : decode cX8_hear 50 = .ok (.aload_n 0, 1) := by decide +kernel
theorem dX8_hear_51 : decode cX8_hear 51 = .ok (.getfield 26, 3) := by decide +kernel
theorem dX8_hear_54 : decode cX8_hear 54 = .ok (.iload 4, 2) := by decide +kernel
theorem dX8_hear_56 : decode cX8_hear 56 = .ok (.aaload, 1) := by decide +kernel
theorem dX8_hear_57 : decode cX8_hear 57 = .ok (.getfield 146, 3) := by decide +kernel
theorem dX8_hear_60 : decode cX8_hear 60 = .ok (.iload_n 2, 1) := by decide +kernel
theorem dX8_hear_61 : decode cX8_hear 61 = .ok (.if_icmp .ne 16, 3) := by decide +kernel
theorem dX8_hear_64 : decode cX8_hear 64 = .ok (.aload_n 1, 1) := by decide +kernel
theorem dX8_hear_65 : decode cX8_hear 65 = .ok (.iload 4, 2) := by decide +kernel
theorem dX8_hear_67 : decode cX8_hear 67 = .ok (.aload_n 0, 1) := by decide +kernel
theorem dX8_hear_68 : decode cX8_hear 68 = .ok (.getfield 26, 3) := by decide +kernel
theorem dX8_hear_71 : decode cX8_hear 71 = .ok (.iload 4, 2) := by decide +kernel
theorem dX8_hear_73 : decode cX8_hear 73 = .ok (.aaload, 1) := by decide +kernel
theorem dX8_hear_74 : decode cX8_hear 74 = .ok (.invokevirtual 311, 3) := by decide +kernel
theorem dX8_hear_77 : decode cX8_hear 77 = .ok (.iinc 4 1, 3) := by decide +kernel
theorem dX8_hear_80 : decode cX8_hear 80 = .ok (.goto (-39), 3) := by decide +kernel
theorem dX8_hear_83 : decode cX8_hear 83 = .ok (.aload_n 1, 1) := by decide +kernel
theorem dX8_hear_84 : decode cX8_hear 84 = .ok (.invokevirtual 315, 3) := by decide +kernel
theorem dX8_hear_87 : decode cX8_hear 87 = .ok (.return_, 1) := by decide +kernel
theorem dX8_copyClaims_0 : decode cX8_copyClaims 0 = .ok (.iconst 0, 1) := by decide +kernel
theorem dX8_copyClaims_1 : decode cX8_copyClaims 1 = .ok (.istore_n 3, 1) := by decide +kernel
theorem dX8_copyClaims_2 : decode cX8_copyClaims 2 = .ok (.iload_n 3, 1) := by decide +kernel
theorem dX8_copyClaims_3 : decode cX8_copyClaims 3 = .ok (.iload_n 2, 1) := by decide +kernel
theorem dX8_copyClaims_4 : decode cX8_copyClaims 4 = .ok (.if_icmp .ge 24, 3) := by decide +kernel
theorem dX8_copyClaims_7 : decode cX8_copyClaims 7 = .ok (.iload_n 3, 1) := by decide +kernel
theorem dX8_copyClaims_8 : decode cX8_copyClaims 8 = .ok (.bipush 24, 2) := by decide +kernel
theorem dX8_copyClaims_10 : decode cX8_copyClaims 10 = .ok (.if_icmp .ge 18, 3) := by decide +kernel
theorem dX8_copyClaims_13 : decode cX8_copyClaims 13 = .ok (.aload_n 1, 1) := by decide +kernel
theorem dX8_copyClaims_14 : decode cX8_copyClaims 14 = .ok (.iload_n 3, 1) := by decide +kernel
theorem dX8_copyClaims_15 : decode cX8_copyClaims 15 = .ok (.aaload, 1) := by decide +kernel
theorem dX8_copyClaims_16 : decode cX8_copyClaims 16 = .ok (.aload_n 0, 1) := by decide +kernel
theorem dX8_copyClaims_17 : decode cX8_copyClaims 17 = .ok (.iload_n 3, 1) := by decide +kernel
theorem dX8_copyClaims_18 : decode cX8_copyClaims 18 = .ok (.aaload, 1) := by decide +kernel
theorem dX8_copyClaims_19 : decode cX8_copyClaims 19 = .ok (.invokevirtual 318, 3) := by decide +kernel
theorem dX8_copyClaims_22 : decode cX8_copyClaims 22 = .ok (.iinc 3 1, 3) := by decide +kernel
theorem dX8_copyClaims_25 : decode cX8_copyClaims 25 = .ok (.goto (-23), 3) := by decide +kernel
theorem dX8_copyClaims_28 : decode cX8_copyClaims 28 = .ok (.return_, 1) := by decide +kernel
theorem dX8_lowest_0 : decode cX8_lowest 0 = .ok (.lload_n 0, 1) := by decide +kernel
theorem dX8_lowest_1 : decode cX8_lowest 1 = .ok (.invokestatic 322, 3) := by decide +kernel
theorem dX8_lowest_4 : decode cX8_lowest 4 = .ok (.lload_n 2, 1) := by decide +kernel
theorem dX8_lowest_5 : decode cX8_lowest 5 = .ok (.invokestatic 327, 3) := by decide +kernel
theorem dX8_lowest_8 : decode cX8_lowest 8 = .ok (.lstore 5, 2) := by decide +kernel
theorem dX8_lowest_10 : decode cX8_lowest 10 = .ok (.lload 5, 2) := by decide +kernel
theorem dX8_lowest_12 : decode cX8_lowest 12 = .ok (.lconst 0, 1) := by decide +kernel
theorem dX8_lowest_13 : decode cX8_lowest 13 = .ok (.lcmp, 1) := by decide +kernel
theorem dX8_lowest_14 : decode cX8_lowest 14 = .ok (.ifCond .ne 7, 3) := by decide +kernel
theorem dX8_lowest_17 : decode cX8_lowest 17 = .ok (.ldc2_w 178, 3) := by decide +kernel
theorem dX8_lowest_20 : decode cX8_lowest 20 = .ok (.lreturn, 1) := by decide +kernel
theorem dX8_lowest_21 : decode cX8_lowest 21 = .ok (.iload 4, 2) := by decide +kernel
theorem dX8_lowest_23 : decode cX8_lowest 23 = .ok (.ifCond .ne 7, 3) := by decide +kernel
theorem dX8_lowest_26 : decode cX8_lowest 26 = .ok (.lload_n 0, 1) := by decide +kernel
theorem dX8_lowest_27 : decode cX8_lowest 27 = .ok (.goto 4, 3) := by decide +kernel
theorem dX8_lowest_30 : decode cX8_lowest 30 = .ok (.lload_n 2, 1) := by decide +kernel
theorem dX8_lowest_31 : decode cX8_lowest 31 = .ok (.lload 5, 2) := by decide +kernel
theorem dX8_lowest_33 : decode cX8_lowest 33 = .ok (.ldiv, 1) := by decide +kernel
theorem dX8_lowest_34 : decode cX8_lowest 34 = .ok (.lreturn, 1) := by decide +kernel
theorem dX8_commonDivisor_0 : decode cX8_commonDivisor 0 = .ok (.lload_n 0, 1) := by decide +kernel
theorem dX8_commonDivisor_1 : decode cX8_commonDivisor 1 = .ok (.lstore 4, 2) := by decide +kernel
theorem dX8_commonDivisor_3 : decode cX8_commonDivisor 3 = .ok (.lload_n 2, 1) := by decide +kernel
theorem dX8_commonDivisor_4 : decode cX8_commonDivisor 4 = .ok (.lstore 6, 2) := by decide +kernel
theorem dX8_commonDivisor_6 : decode cX8_commonDivisor 6 = .ok (.iconst 0, 1) := by decide +kernel
theorem dX8_commonDivisor_7 : decode cX8_commonDivisor 7 = .ok (.istore 8, 2) := by decide +kernel
theorem dX8_commonDivisor_9 : decode cX8_commonDivisor 9 = .ok (.iload 8, 2) := by decide +kernel
theorem dX8_commonDivisor_11 : decode cX8_commonDivisor 11 = .ok (.sipush 1000, 3) := by decide +kernel
theorem dX8_commonDivisor_14 : decode cX8_commonDivisor 14 = .ok (.if_icmp .ge 31, 3) := by decide +kernel
theorem dX8_commonDivisor_17 : decode cX8_commonDivisor 17 = .ok (.lload 6, 2) := by decide +kernel
theorem dX8_commonDivisor_19 : decode cX8_commonDivisor 19 = .ok (.lconst 0, 1) := by decide +kernel
theorem dX8_commonDivisor_20 : decode cX8_commonDivisor 20 = .ok (.lcmp, 1) := by decide +kernel
theorem dX8_commonDivisor_21 : decode cX8_commonDivisor 21 = .ok (.ifCond .eq 24, 3) := by decide +kernel
theorem dX8_commonDivisor_24 : decode cX8_commonDivisor 24 = .ok (.lload 4, 2) := by decide +kernel
theorem dX8_commonDivisor_26 : decode cX8_commonDivisor 26 = .ok (.lload 6, 2) := by decide +kernel
theorem dX8_commonDivisor_28 : decode cX8_commonDivisor 28 = .ok (.lrem, 1) := by decide +kernel
theorem dX8_commonDivisor_29 : decode cX8_commonDivisor 29 = .ok (.lstore 9, 2) := by decide +kernel
theorem dX8_commonDivisor_31 : decode cX8_commonDivisor 31 = .ok (.lload 6, 2) := by decide +kernel
theorem dX8_commonDivisor_33 : decode cX8_commonDivisor 33 = .ok (.lstore 4, 2) := by decide +kernel
theorem dX8_commonDivisor_35 : decode cX8_commonDivisor 35 = .ok (.lload 9, 2) := by decide +kernel
theorem dX8_commonDivisor_37 : decode cX8_commonDivisor 37 = .ok (.lstore 6, 2) := by decide +kernel
theorem dX8_commonDivisor_39 : decode cX8_commonDivisor 39 = .ok (.iinc 8 1, 3) := by decide +kernel
theorem dX8_commonDivisor_42 : decode cX8_commonDivisor 42 = .ok (.goto (-33), 3) := by decide +kernel
theorem dX8_commonDivisor_45 : decode cX8_commonDivisor 45 = .ok (.lload 4, 2) := by decide +kernel
theorem dX8_commonDivisor_47 : decode cX8_commonDivisor 47 = .ok (.lreturn, 1) := by decide +kernel
theorem dX9_init_0 : decode cX9_init 0 = .ok (.aload_n 0, 1) := by decide +kernel
theorem dX9_init_1 : decode cX9_init 1 = .ok (.invokespecial 1, 3) := by decide +kernel
theorem dX9_init_4 : decode cX9_init 4 = .ok (.aload_n 0, 1) := by decide +kernel
theorem dX9_init_5 : decode cX9_init 5 = .ok (.iconst 0, 1) := by decide +kernel
theorem dX9_init_6 : decode cX9_init 6 = .ok (.putfield 7, 3) := by decide +kernel
theorem dX9_init_9 : decode cX9_init 9 = .ok (.aload_n 0, 1) := by decide +kernel
theorem dX9_init_10 : decode cX9_init 10 = .ok (.iconst 0, 1) := by decide +kernel
theorem dX9_init_11 : decode cX9_init 11 = .ok (.putfield 13, 3) := by decide +kernel
theorem dX9_init_14 : decode cX9_init 14 = .ok (.aload_n 0, 1) := by decide +kernel
theorem dX9_init_15 : decode cX9_init 15 = .ok (.bipush 8, 2) := by decide +kernel
theorem dX9_init_17 : decode cX9_init 17 = .ok (.newarray .int, 2) := by decide +kernel
theorem dX9_init_19 : decode cX9_init 19 = .ok (.putfield 16, 3) := by decide +kernel
theorem dX9_init_22 : decode cX9_init 22 = .ok (.aload_n 0, 1) := by decide +kernel
theorem dX9_init_23 : decode cX9_init 23 = .ok (.iconst 5, 1) := by decide +kernel
theorem dX9_init_24 : decode cX9_init 24 = .ok (.newarray .int, 2) := by decide +kernel
theorem dX9_init_26 : decode cX9_init 26 = .ok (.putfield 20, 3) := by decide +kernel
theorem dX9_init_29 : decode cX9_init 29 = .ok (.aload_n 0, 1) := by decide +kernel
theorem dX9_init_30 : decode cX9_init 30 = .ok (.iconst 5, 1) := by decide +kernel
theorem dX9_init_31 : decode cX9_init 31 = .ok (.newarray .int, 2) := by decide +kernel
theorem dX9_init_33 : decode cX9_init 33 = .ok (.putfield 23, 3) := by decide +kernel
theorem dX9_init_36 : decode cX9_init 36 = .ok (.aload_n 0, 1) := by decide +kernel
theorem dX9_init_37 : decode cX9_init 37 = .ok (.iconst 5, 1) := by decide +kernel
theorem dX9_init_38 : decode cX9_init 38 = .ok (.newarray .int, 2) := by decide +kernel
theorem dX9_init_40 : decode cX9_init 40 = .ok (.putfield 26, 3) := by decide +kernel
theorem dX9_init_43 : decode cX9_init 43 = .ok (.aload_n 0, 1) := by decide +kernel
theorem dX9_init_44 : decode cX9_init 44 = .ok (.sipush 240, 3) := by decide +kernel
theorem dX9_init_47 : decode cX9_init 47 = .ok (.newarray .int, 2) := by decide +kernel
theorem dX9_init_49 : decode cX9_init 49 = .ok (.putfield 29, 3) := by decide +kernel
theorem dX9_init_52 : decode cX9_init 52 = .ok (.aload_n 0, 1) := by decide +kernel
theorem dX9_init_53 : decode cX9_init 53 = .ok (.iconst 0, 1) := by decide +kernel
theorem dX9_init_54 : decode cX9_init 54 = .ok (.putfield 32, 3) := by decide +kernel
theorem dX9_init_57 : decode cX9_init 57 = .ok (.aload_n 0, 1) := by decide +kernel
theorem dX9_init_58 : decode cX9_init 58 = .ok (.iconst 0, 1) := by decide +kernel
theorem dX9_init_59 : decode cX9_init 59 = .ok (.putfield 35, 3) := by decide +kernel
theorem dX9_init_62 : decode cX9_init 62 = .ok (.aload_n 0, 1) := by decide +kernel
theorem dX9_init_63 : decode cX9_init 63 = .ok (.iconst 0, 1) := by decide +kernel
theorem dX9_init_64 : decode cX9_init 64 = .ok (.putfield 38, 3) := by decide +kernel
theorem dX9_init_67 : decode cX9_init 67 = .ok (.aload_n 0, 1) := by decide +kernel
theorem dX9_init_68 : decode cX9_init 68 = .ok (.bipush 100, 2) := by decide +kernel
theorem dX9_init_70 : decode cX9_init 70 = .ok (.newarray .int, 2) := by decide +kernel
theorem dX9_init_72 : decode cX9_init 72 = .ok (.putfield 41, 3) := by decide +kernel
theorem dX9_init_75 : decode cX9_init 75 = .ok (.aload_n 0, 1) := by decide +kernel
theorem dX9_init_76 : decode cX9_init 76 = .ok (.bipush 6, 2) := by decide +kernel
theorem dX9_init_78 : decode cX9_init 78 = .ok (.newarray .int, 2) := by decide +kernel
theorem dX9_init_80 : decode cX9_init 80 = .ok (.putfield 44, 3) := by decide +kernel
theorem dX9_init_83 : decode cX9_init 83 = .ok (.aload_n 0, 1) := by decide +kernel
theorem dX9_init_84 : decode cX9_init 84 = .ok (.bipush 48, 2) := by decide +kernel
theorem dX9_init_86 : decode cX9_init 86 = .ok (.newarray .int, 2) := by decide +kernel
theorem dX9_init_88 : decode cX9_init 88 = .ok (.putfield 47, 3) := by decide +kernel
theorem dX9_init_91 : decode cX9_init 91 = .ok (.aload_n 0, 1) := by decide +kernel
theorem dX9_init_92 : decode cX9_init 92 = .ok (.bipush 48, 2) := by decide +kernel
theorem dX9_init_94 : decode cX9_init 94 = .ok (.newarray .int, 2) := by decide +kernel
theorem dX9_init_96 : decode cX9_init 96 = .ok (.putfield 50, 3) := by decide +kernel
theorem dX9_init_99 : decode cX9_init 99 = .ok (.aload_n 0, 1) := by decide +kernel
theorem dX9_init_100 : decode cX9_init 100 = .ok (.bipush 48, 2) := by decide +kernel
theorem dX9_init_102 : decode cX9_init 102 = .ok (.newarray .int, 2) := by decide +kernel
theorem dX9_init_104 : decode cX9_init 104 = .ok (.putfield 53, 3) := by decide +kernel
theorem dX9_init_107 : decode cX9_init 107 = .ok (.aload_n 0, 1) := by decide +kernel
theorem dX9_init_108 : decode cX9_init 108 = .ok (.bipush 48, 2) := by decide +kernel
theorem dX9_init_110 : decode cX9_init 110 = .ok (.newarray .int, 2) := by decide +kernel
theorem dX9_init_112 : decode cX9_init 112 = .ok (.putfield 56, 3) := by decide +kernel
theorem dX9_init_115 : decode cX9_init 115 = .ok (.aload_n 0, 1) := by decide +kernel
theorem dX9_init_116 : decode cX9_init 116 = .ok (.bipush 6, 2) := by decide +kernel
theorem dX9_init_118 : decode cX9_init 118 = .ok (.newarray .int, 2) := by decide +kernel
theorem dX9_init_120 : decode cX9_init 120 = .ok (.putfield 59, 3) := by decide +kernel
theorem dX9_init_123 : decode cX9_init 123 = .ok (.aload_n 0, 1) := by decide +kernel
theorem dX9_init_124 : decode cX9_init 124 = .ok (.bipush 6, 2) := by decide +kernel
theorem dX9_init_126 : decode cX9_init 126 = .ok (.newarray .int, 2) := by decide +kernel
theorem dX9_init_128 : decode cX9_init 128 = .ok (.putfield 62, 3) := by decide +kernel
theorem dX9_init_131 : decode cX9_init 131 = .ok (.aload_n 0, 1) := by decide +kernel
theorem dX9_init_132 : decode cX9_init 132 = .ok (.bipush 6, 2) := by decide +kernel
theorem dX9_init_134 : decode cX9_init 134 = .ok (.newarray .int, 2) := by decide +kernel
theorem dX9_init_136 : decode cX9_init 136 = .ok (.putfield 65, 3) := by decide +kernel
theorem dX9_init_139 : decode cX9_init 139 = .ok (.aload_n 0, 1) := by decide +kernel
theorem dX9_init_140 : decode cX9_init 140 = .ok (.bipush 6, 2) := by decide +kernel
theorem dX9_init_142 : decode cX9_init 142 = .ok (.newarray .int, 2) := by decide +kernel
theorem dX9_init_144 : decode cX9_init 144 = .ok (.putfield 68, 3) := by decide +kernel
theorem dX9_init_147 : decode cX9_init 147 = .ok (.aload_n 0, 1) := by decide +kernel
theorem dX9_init_148 : decode cX9_init 148 = .ok (.bipush 6, 2) := by decide +kernel
theorem dX9_init_150 : decode cX9_init 150 = .ok (.newarray .int, 2) := by decide +kernel
theorem dX9_init_152 : decode cX9_init 152 = .ok (.putfield 71, 3) := by decide +kernel
theorem dX9_init_155 : decode cX9_init 155 = .ok (.aload_n 0, 1) := by decide +kernel
theorem dX9_init_156 : decode cX9_init 156 = .ok (.sipush 600, 3) := by decide +kernel
theorem dX9_init_159 : decode cX9_init 159 = .ok (.newarray .int, 2) := by decide +kernel
theorem dX9_init_161 : decode cX9_init 161 = .ok (.putfield 74, 3) := by decide +kernel
theorem dX9_init_164 : decode cX9_init 164 = .ok (.aload_n 0, 1) := by decide +kernel
theorem dX9_init_165 : decode cX9_init 165 = .ok (.iconst 0, 1) := by decide +kernel
theorem dX9_init_166 : decode cX9_init 166 = .ok (.putfield 77, 3) := by decide +kernel
theorem dX9_init_169 : decode cX9_init 169 = .ok (.aload_n 0, 1) := by decide +kernel
theorem dX9_init_170 : decode cX9_init 170 = .ok (.iconst 0, 1) := by decide +kernel
theorem dX9_init_171 : decode cX9_init 171 = .ok (.putfield 80, 3) := by decide +kernel
theorem dX9_init_174 : decode cX9_init 174 = .ok (.aload_n 0, 1) := by decide +kernel
theorem dX9_init_175 : decode cX9_init 175 = .ok (.bipush 101, 2) := by decide +kernel
theorem dX9_init_177 : decode cX9_init 177 = .ok (.newarray .int, 2) := by decide +kernel
theorem dX9_init_179 : decode cX9_init 179 = .ok (.putfield 83, 3) := by decide +kernel
theorem dX9_init_182 : decode cX9_init 182 = .ok (.aload_n 0, 1) := by decide +kernel
theorem dX9_init_183 : decode cX9_init 183 = .ok (.iconst 0, 1) := by decide +kernel
theorem dX9_init_184 : decode cX9_init 184 = .ok (.putfield 86, 3) := by decide +kernel
theorem dX9_init_187 : decode cX9_init 187 = .ok (.aload_n 0, 1) := by decide +kernel
theorem dX9_init_188 : decode cX9_init 188 = .ok (.iconst 0, 1) := by decide +kernel
theorem dX9_init_189 : decode cX9_init 189 = .ok (.putfield 89, 3) := by decide +kernel
theorem dX9_init_192 : decode cX9_init 192 = .ok (.aload_n 0, 1) := by decide +kernel
theorem dX9_init_193 : decode cX9_init 193 = .ok (.bipush 100, 2) := by decide +kernel
theorem dX9_init_195 : decode cX9_init 195 = .ok (.newarray .boolean, 2) := by decide +kernel
theorem dX9_init_197 : decode cX9_init 197 = .ok (.putfield 92, 3) := by decide +kernel
theorem dX9_init_200 : decode cX9_init 200 = .ok (.aload_n 0, 1) := by decide +kernel
theorem dX9_init_201 : decode cX9_init 201 = .ok (.iconst 0, 1) := by decide +kernel
theorem dX9_init_202 : decode cX9_init 202 = .ok (.putfield 96, 3) := by decide +kernel
theorem dX9_init_205 : decode cX9_init 205 = .ok (.aload_n 0, 1) := by decide +kernel
theorem dX9_init_206 : decode cX9_init 206 = .ok (.bipush 24, 2) := by decide +kernel
theorem dX9_init_208 : decode cX9_init 208 = .ok (.newarray .int, 2) := by decide +kernel
theorem dX9_init_210 : decode cX9_init 210 = .ok (.putfield 100, 3) := by decide +kernel
theorem dX9_init_213 : decode cX9_init 213 = .ok (.aload_n 0, 1) := by decide +kernel
theorem dX9_init_214 : decode cX9_init 214 = .ok (.bipush 24, 2) := by decide +kernel
theorem dX9_init_216 : decode cX9_init 216 = .ok (.newarray .int, 2) := by decide +kernel
theorem dX9_init_218 : decode cX9_init 218 = .ok (.putfield 103, 3) := by decide +kernel
theorem dX9_init_221 : decode cX9_init 221 = .ok (.aload_n 0, 1) := by decide +kernel
theorem dX9_init_222 : decode cX9_init 222 = .ok (.iconst 0, 1) := by decide +kernel
theorem dX9_init_223 : decode cX9_init 223 = .ok (.putfield 106, 3) := by decide +kernel
theorem dX9_init_226 : decode cX9_init 226 = .ok (.aload_n 0, 1) := by decide +kernel
theorem dX9_init_227 : decode cX9_init 227 = .ok (.iconst 0, 1) := by decide +kernel
theorem dX9_init_228 : decode cX9_init 228 = .ok (.putfield 109, 3) := by decide +kernel
theorem dX9_init_231 : decode cX9_init 231 = .ok (.aload_n 0, 1) := by decide +kernel
theorem dX9_init_232 : decode cX9_init 232 = .ok (.lconst 0, 1) := by decide +kernel
theorem dX9_init_233 : decode cX9_init 233 = .ok (.putfield 112, 3) := by decide +kernel
theorem dX9_init_236 : decode cX9_init 236 = .ok (.aload_n 0, 1) := by decide +kernel
theorem dX9_init_237 : decode cX9_init 237 = .ok (.sipush 240, 3) := by decide +kernel
theorem dX9_init_240 : decode cX9_init 240 = .ok (.newarray .int, 2) := by decide +kernel
theorem dX9_init_242 : decode cX9_init 242 = .ok (.putfield 116, 3) := by decide +kernel
theorem dX9_init_245 : decode cX9_init 245 = .ok (.aload_n 0, 1) := by decide +kernel
theorem dX9_init_246 : decode cX9_init 246 = .ok (.bipush 8, 2) := by decide +kernel
theorem dX9_init_248 : decode cX9_init 248 = .ok (.newarray .int, 2) := by decide +kernel
theorem dX9_init_250 : decode cX9_init 250 = .ok (.putfield 119, 3) := by decide +kernel
theorem dX9_init_253 : decode cX9_init 253 = .ok (.aload_n 0, 1) := by decide +kernel
theorem dX9_init_254 : decode cX9_init 254 = .ok (.iconst (-1), 1) := by decide +kernel
theorem dX9_init_255 : decode cX9_init 255 = .ok (.putfield 122, 3) := by decide +kernel
theorem dX9_init_258 : decode cX9_init 258 = .ok (.aload_n 0, 1) := by decide +kernel
theorem dX9_init_259 : decode cX9_init 259 = .ok (.iconst 0, 1) := by decide +kernel
theorem dX9_init_260 : decode cX9_init 260 = .ok (.putfield 125, 3) := by decide +kernel
theorem dX9_init_263 : decode cX9_init 263 = .ok (.aload_n 0, 1) := by decide +kernel
theorem dX9_init_264 : decode cX9_init 264 = .ok (.bipush 20, 2) := by decide +kernel
theorem dX9_init_266 : decode cX9_init 266 = .ok (.newarray .int, 2) := by decide +kernel
theorem dX9_init_268 : decode cX9_init 268 = .ok (.putfield 128, 3) := by decide +kernel
theorem dX9_init_271 : decode cX9_init 271 = .ok (.aload_n 0, 1) := by decide +kernel
theorem dX9_init_272 : decode cX9_init 272 = .ok (.bipush 6, 2) := by decide +kernel
theorem dX9_init_274 : decode cX9_init 274 = .ok (.newarray .int, 2) := by decide +kernel
theorem dX9_init_276 : decode cX9_init 276 = .ok (.dup, 1) := by decide +kernel
theorem dX9_init_277 : decode cX9_init 277 = .ok (.iconst 0, 1) := by decide +kernel
theorem dX9_init_278 : decode cX9_init 278 = .ok (.iconst (-1), 1) := by decide +kernel
theorem dX9_init_279 : decode cX9_init 279 = .ok (.iastore, 1) := by decide +kernel
theorem dX9_init_280 : decode cX9_init 280 = .ok (.dup, 1) := by decide +kernel
theorem dX9_init_281 : decode cX9_init 281 = .ok (.iconst 1, 1) := by decide +kernel
theorem dX9_init_282 : decode cX9_init 282 = .ok (.iconst (-1), 1) := by decide +kernel
theorem dX9_init_283 : decode cX9_init 283 = .ok (.iastore, 1) := by decide +kernel
theorem dX9_init_284 : decode cX9_init 284 = .ok (.dup, 1) := by decide +kernel
theorem dX9_init_285 : decode cX9_init 285 = .ok (.iconst 2, 1) := by decide +kernel
theorem dX9_init_286 : decode cX9_init 286 = .ok (.iconst (-1), 1) := by decide +kernel
theorem dX9_init_287 : decode cX9_init 287 = .ok (.iastore, 1) := by decide +kernel
theorem dX9_init_288 : decode cX9_init 288 = .ok (.dup, 1) := by decide +kernel
theorem dX9_init_289 : decode cX9_init 289 = .ok (.iconst 3, 1) := by decide +kernel
theorem dX9_init_290 : decode cX9_init 290 = .ok (.iconst (-1), 1) := by decide +kernel
theorem dX9_init_291 : decode cX9_init 291 = .ok (.iastore, 1) := by decide +kernel
theorem dX9_init_292 : decode cX9_init 292 = .ok (.dup, 1) := by decide +kernel
theorem dX9_init_293 : decode cX9_init 293 = .ok (.iconst 4, 1) := by decide +kernel
theorem dX9_init_294 : decode cX9_init 294 = .ok (.iconst (-1), 1) := by decide +kernel
theorem dX9_init_295 : decode cX9_init 295 = .ok (.iastore, 1) := by decide +kernel
theorem dX9_init_296 : decode cX9_init 296 = .ok (.dup, 1) := by decide +kernel
theorem dX9_init_297 : decode cX9_init 297 = .ok (.iconst 5, 1) := by decide +kernel
theorem dX9_init_298 : decode cX9_init 298 = .ok (.iconst (-1), 1) := by decide +kernel
theorem dX9_init_299 : decode cX9_init 299 = .ok (.iastore, 1) := by decide +kernel
theorem dX9_init_300 : decode cX9_init 300 = .ok (.putfield 131, 3) := by decide +kernel
theorem dX9_init_303 : decode cX9_init 303 = .ok (.aload_n 0, 1) := by decide +kernel
theorem dX9_init_304 : decode cX9_init 304 = .ok (.bipush 6, 2) := by decide +kernel
theorem dX9_init_306 : decode cX9_init 306 = .ok (.newarray .int, 2) := by decide +kernel
theorem dX9_init_308 : decode cX9_init 308 = .ok (.putfield 134, 3) := by decide +kernel
theorem dX9_init_311 : decode cX9_init 311 = .ok (.aload_n 0, 1) := by decide +kernel
theorem dX9_init_312 : decode cX9_init 312 = .ok (.sipush 360, 3) := by decide +kernel
theorem dX9_init_315 : decode cX9_init 315 = .ok (.newarray .long, 2) := by decide +kernel
theorem dX9_init_317 : decode cX9_init 317 = .ok (.putfield 137, 3) := by decide +kernel
theorem dX9_init_320 : decode cX9_init 320 = .ok (.aload_n 0, 1) := by decide +kernel
theorem dX9_init_321 : decode cX9_init 321 = .ok (.bipush 60, 2) := by decide +kernel
theorem dX9_init_323 : decode cX9_init 323 = .ok (.newarray .long, 2) := by decide +kernel
theorem dX9_init_325 : decode cX9_init 325 = .ok (.putfield 141, 3) := by decide +kernel
theorem dX9_init_328 : decode cX9_init 328 = .ok (.return_, 1) := by decide +kernel
theorem dX9_in_0 : decode cX9_in 0 = .ok (.iload_n 1, 1) := by decide +kernel
theorem dX9_in_1 : decode cX9_in 1 = .ok (.iload_n 2, 1) := by decide +kernel
theorem dX9_in_2 : decode cX9_in 2 = .ok (.if_icmp .lt 12, 3) := by decide +kernel
theorem dX9_in_5 : decode cX9_in 5 = .ok (.iload_n 1, 1) := by decide +kernel
theorem dX9_in_6 : decode cX9_in 6 = .ok (.iload_n 3, 1) := by decide +kernel
theorem dX9_in_7 : decode cX9_in 7 = .ok (.if_icmp .gt 7, 3) := by decide +kernel
theorem dX9_in_10 : decode cX9_in 10 = .ok (.iconst 1, 1) := by decide +kernel
theorem dX9_in_11 : decode cX9_in 11 = .ok (.goto 4, 3) := by decide +kernel
theorem dX9_in_14 : decode cX9_in 14 = .ok (.iconst 0, 1) := by decide +kernel
theorem dX9_in_15 : decode cX9_in 15 = .ok (.ireturn, 1) := by decide +kernel
theorem dX9_isClaim_0 : decode cX9_isClaim 0 = .ok (.aload_n 0, 1) := by decide +kernel
theorem dX9_isClaim_1 : decode cX9_isClaim 1 = .ok (.iload_n 1, 1) := by decide +kernel
theorem dX9_isClaim_2 : decode cX9_isClaim 2 = .ok (.iconst 0, 1) := by decide +kernel
theorem dX9_isClaim_3 : decode cX9_isClaim 3 = .ok (.aload_n 0, 1) := by decide +kernel
theorem dX9_isClaim_4 : decode cX9_isClaim 4 = .ok (.getfield 13, 3) := by decide +kernel
theorem dX9_isClaim_7 : decode cX9_isClaim 7 = .ok (.iconst 1, 1) := by decide +kernel
theorem dX9_isClaim_8 : decode cX9_isClaim 8 = .ok (.isub, 1) := by decide +kernel
theorem dX9_isClaim_9 : decode cX9_isClaim 9 = .ok (.invokevirtual 144, 3) := by decide +kernel
theorem dX9_isClaim_12 : decode cX9_isClaim 12 = .ok (.ireturn, 1) := by decide +kernel
theorem dX9_isSuit_0 : decode cX9_isSuit 0 = .ok (.aload_n 0, 1) := by decide +kernel
theorem dX9_isSuit_1 : decode cX9_isSuit 1 = .ok (.iload_n 1, 1) := by decide +kernel
theorem dX9_isSuit_2 : decode cX9_isSuit 2 = .ok (.iconst 0, 1) := by decide +kernel
theorem dX9_isSuit_3 : decode cX9_isSuit 3 = .ok (.aload_n 0, 1) := by decide +kernel
theorem dX9_isSuit_4 : decode cX9_isSuit 4 = .ok (.getfield 7, 3) := by decide +kernel
theorem dX9_isSuit_7 : decode cX9_isSuit 7 = .ok (.iconst 1, 1) := by decide +kernel
theorem dX9_isSuit_8 : decode cX9_isSuit 8 = .ok (.isub, 1) := by decide +kernel
theorem dX9_isSuit_9 : decode cX9_isSuit 9 = .ok (.invokevirtual 144, 3) := by decide +kernel
theorem dX9_isSuit_12 : decode cX9_isSuit 12 = .ok (.ireturn, 1) := by decide +kernel
theorem dX9_get_0 : decode cX9_get 0 = .ok (.aload_n 0, 1) := by decide +kernel
theorem dX9_get_1 : decode cX9_get 1 = .ok (.getfield 29, 3) := by decide +kernel
theorem dX9_get_4 : decode cX9_get 4 = .ok (.bipush 10, 2) := by decide +kernel
theorem dX9_get_6 : decode cX9_get 6 = .ok (.iload_n 1, 1) := by decide +kernel
theorem dX9_get_7 : decode cX9_get 7 = .ok (.imul, 1) := by decide +kernel
theorem dX9_get_8 : decode cX9_get 8 = .ok (.iload_n 2, 1) := by decide +kernel
theorem dX9_get_9 : decode cX9_get 9 = .ok (.iadd, 1) := by decide +kernel
theorem dX9_get_10 : decode cX9_get 10 = .ok (.iaload, 1) := by decide +kernel
theorem dX9_get_11 : decode cX9_get 11 = .ok (.ireturn, 1) := by decide +kernel
theorem dX9_openOf_0 : decode cX9_openOf 0 = .ok (.aload_n 0, 1) := by decide +kernel
theorem dX9_openOf_1 : decode cX9_openOf 1 = .ok (.iload_n 1, 1) := by decide +kernel
theorem dX9_openOf_2 : decode cX9_openOf 2 = .ok (.iconst 1, 1) := by decide +kernel
theorem dX9_openOf_3 : decode cX9_openOf 3 = .ok (.invokevirtual 148, 3) := by decide +kernel
theorem dX9_openOf_6 : decode cX9_openOf 6 = .ok (.aload_n 0, 1) := by decide +kernel
theorem dX9_openOf_7 : decode cX9_openOf 7 = .ok (.iload_n 1, 1) := by decide +kernel
theorem dX9_openOf_8 : decode cX9_openOf 8 = .ok (.iconst 3, 1) := by decide +kernel
theorem dX9_openOf_9 : decode cX9_openOf 9 = .ok (.invokevirtual 148, 3) := by decide +kernel
theorem dX9_openOf_12 : decode cX9_openOf 12 = .ok (.isub, 1) := by decide +kernel
theorem dX9_openOf_13 : decode cX9_openOf 13 = .ok (.ireturn, 1) := by decide +kernel
theorem dX9_manyOf_0 : decode cX9_manyOf 0 = .ok (.iconst 0, 1) := by decide +kernel
theorem dX9_manyOf_1 : decode cX9_manyOf 1 = .ok (.istore_n 2, 1) := by decide +kernel
theorem dX9_manyOf_2 : decode cX9_manyOf 2 = .ok (.iconst 0, 1) := by decide +kernel
theorem dX9_manyOf_3 : decode cX9_manyOf 3 = .ok (.istore_n 3, 1) := by decide +kernel
theorem dX9_manyOf_4 : decode cX9_manyOf 4 = .ok (.iload_n 3, 1) := by decide +kernel
theorem dX9_manyOf_5 : decode cX9_manyOf 5 = .ok (.aload_n 0, 1) := by decide +kernel
theorem dX9_manyOf_6 : decode cX9_manyOf 6 = .ok (.getfield 13, 3) := by decide +kernel
theorem dX9_manyOf_9 : decode cX9_manyOf 9 = .ok (.if_icmp .ge 27, 3) := by decide +kernel
theorem dX9_manyOf_12 : decode cX9_manyOf 12 = .ok (.iload_n 2, 1) := by decide +kernel
theorem dX9_manyOf_13 : decode cX9_manyOf 13 = .ok (.aload_n 0, 1) := by decide +kernel
theorem dX9_manyOf_14 : decode cX9_manyOf 14 = .ok (.iload_n 3, 1) := by decide +kernel
theorem dX9_manyOf_15 : decode cX9_manyOf 15 = .ok (.iconst 0, 1) := by decide +kernel
theorem dX9_manyOf_16 : decode cX9_manyOf 16 = .ok (.invokevirtual 148, 3) := by decide +kernel
theorem dX9_manyOf_19 : decode cX9_manyOf 19 = .ok (.iload_n 1, 1) := by decide +kernel
theorem dX9_manyOf_20 : decode cX9_manyOf 20 = .ok (.if_icmp .ne 7, 3) := by decide +kernel
theorem dX9_manyOf_23 : decode cX9_manyOf 23 = .ok (.iconst 1, 1) := by decide +kernel
theorem dX9_manyOf_24 : decode cX9_manyOf 24 = .ok (.goto 4, 3) := by decide +kernel
theorem dX9_manyOf_27 : decode cX9_manyOf 27 = .ok (.iconst 0, 1) := by decide +kernel
theorem dX9_manyOf_28 : decode cX9_manyOf 28 = .ok (.iadd, 1) := by decide +kernel
theorem dX9_manyOf_29 : decode cX9_manyOf 29 = .ok (.istore_n 2, 1) := by decide +kernel
theorem dX9_manyOf_30 : decode cX9_manyOf 30 = .ok (.iinc 3 1, 3) := by decide +kernel
theorem dX9_manyOf_33 : decode cX9_manyOf 33 = .ok (.goto (-29), 3) := by decide +kernel
theorem dX9_manyOf_36 : decode cX9_manyOf 36 = .ok (.iload_n 2, 1) := by decide +kernel
theorem dX9_manyOf_37 : decode cX9_manyOf 37 = .ok (.ireturn, 1) := by decide +kernel
theorem dX9_at_0 : decode cX9_at 0 = .ok (.iconst 0, 1) := by decide +kernel
theorem dX9_at_1 : decode cX9_at 1 = .ok (.istore_n 3, 1) := by decide +kernel
theorem dX9_at_2 : decode cX9_at 2 = .ok (.iconst 0, 1) := by decide +kernel
theorem dX9_at_3 : decode cX9_at 3 = .ok (.istore 4, 2) := by decide +kernel
theorem dX9_at_5 : decode cX9_at 5 = .ok (.iload 4, 2) := by decide +kernel
theorem dX9_at_7 : decode cX9_at 7 = .ok (.aload_n 0, 1) := by decide +kernel
theorem dX9_at_8 : decode cX9_at 8 = .ok (.getfield 13, 3) := by decide +kernel
theorem dX9_at_11 : decode cX9_at 11 = .ok (.if_icmp .ge 34, 3) := by decide +kernel
theorem dX9_at_14 : decode cX9_at 14 = .ok (.aload_n 0, 1) := by decide +kernel
theorem dX9_at_15 : decode cX9_at 15 = .ok (.iload 4, 2) := by decide +kernel
theorem dX9_at_17 : decode cX9_at 17 = .ok (.iconst 0, 1) := by decide +kernel
theorem dX9_at_18 : decode cX9_at 18 = .ok (.invokevirtual 148, 3) := by decide +kernel
theorem dX9_at_21 : decode cX9_at 21 = .ok (.iload_n 1, 1) := by decide +kernel
theorem dX9_at_22 : decode cX9_at 22 = .ok (.if_icmp .eq 6, 3) := by decide +kernel
theorem dX9_at_25 : decode cX9_at 25 = .ok (.goto 14, 3) := by decide +kernel
theorem dX9_at_28 : decode cX9_at 28 = .ok (.iload_n 3, 1) := by decide +kernel
theorem dX9_at_29 : decode cX9_at 29 = .ok (.iload_n 2, 1) := by decide +kernel
theorem dX9_at_30 : decode cX9_at 30 = .ok (.if_icmp .ne 6, 3) := by decide +kernel
theorem dX9_at_33 : decode cX9_at 33 = .ok (.iload 4, 2) := by decide +kernel
theorem dX9_at_35 : decode cX9_at 35 = .ok (.ireturn, 1) := by decide +kernel
theorem dX9_at_36 : decode cX9_at 36 = .ok (.iinc 3 1, 3) := by decide +kernel
theorem dX9_at_39 : decode cX9_at 39 = .ok (.iinc 4 1, 3) := by decide +kernel
theorem dX9_at_42 : decode cX9_at 42 = .ok (.goto (-37), 3) := by decide +kernel
theorem dX9_at_45 : decode cX9_at 45 = .ok (.iconst (-1), 1) := by decide +kernel
theorem dX9_at_46 : decode cX9_at 46 = .ok (.ireturn, 1) := by decide +kernel
theorem dX9_known_0 : decode cX9_known 0 = .ok (.aload_n 0, 1) := by decide +kernel
theorem dX9_known_1 : decode cX9_known 1 = .ok (.iload_n 1, 1) := by decide +kernel
theorem dX9_known_2 : decode cX9_known 2 = .ok (.iconst 0, 1) := by decide +kernel
theorem dX9_known_3 : decode cX9_known 3 = .ok (.bipush 7, 2) := by decide +kernel
theorem dX9_known_5 : decode cX9_known 5 = .ok (.invokevirtual 144, 3) := by decide +kernel
theorem dX9_known_8 : decode cX9_known 8 = .ok (.ifCond .ne 5, 3) := by decide +kernel
theorem dX9_known_11 : decode cX9_known 11 = .ok (.iconst (-1), 1) := by decide +kernel
theorem dX9_known_12 : decode cX9_known 12 = .ok (.ireturn, 1) := by decide +kernel
theorem dX9_known_13 : decode cX9_known 13 = .ok (.aload_n 0, 1) := by decide +kernel
theorem dX9_known_14 : decode cX9_known 14 = .ok (.iload_n 2, 1) := by decide +kernel
theorem dX9_known_15 : decode cX9_known 15 = .ok (.iconst 0, 1) := by decide +kernel
theorem dX9_known_16 : decode cX9_known 16 = .ok (.bipush 31, 2) := by decide +kernel
theorem dX9_known_18 : decode cX9_known 18 = .ok (.invokevirtual 144, 3) := by decide +kernel
theorem dX9_known_21 : decode cX9_known 21 = .ok (.ifCond .ne 6, 3) := by decide +kernel
theorem dX9_known_24 : decode cX9_known 24 = .ok (.bipush (-2), 2) := by decide +kernel
theorem dX9_known_26 : decode cX9_known 26 = .ok (.ireturn, 1) := by decide +kernel
theorem dX9_known_27 : decode cX9_known 27 = .ok (.aload_n 0, 1) := by decide +kernel
theorem dX9_known_28 : decode cX9_known 28 = .ok (.getfield 16, 3) := by decide +kernel
theorem dX9_known_31 : decode cX9_known 31 = .ok (.iload_n 1, 1) := by decide +kernel
theorem dX9_known_32 : decode cX9_known 32 = .ok (.iaload, 1) := by decide +kernel
theorem dX9_known_33 : decode cX9_known 33 = .ok (.istore_n 3, 1) := by decide +kernel
theorem dX9_known_34 : decode cX9_known 34 = .ok (.aload_n 0, 1) := by decide +kernel
theorem dX9_known_35 : decode cX9_known 35 = .ok (.getfield 16, 3) := by decide +kernel
theorem dX9_known_38 : decode cX9_known 38 = .ok (.iload_n 1, 1) := by decide +kernel
theorem dX9_known_39 : decode cX9_known 39 = .ok (.iload_n 2, 1) := by decide +kernel
theorem dX9_known_40 : decode cX9_known 40 = .ok (.iastore, 1) := by decide +kernel
theorem dX9_known_41 : decode cX9_known 41 = .ok (.iload_n 3, 1) := by decide +kernel
theorem dX9_known_42 : decode cX9_known 42 = .ok (.ireturn, 1) := by decide +kernel
theorem dX9_suit_0 : decode cX9_suit 0 = .ok (.aload_n 0, 1) := by decide +kernel
theorem dX9_suit_1 : decode cX9_suit 1 = .ok (.iload_n 1, 1) := by decide +kernel
theorem dX9_suit_2 : decode cX9_suit 2 = .ok (.iconst 0, 1) := by decide +kernel
theorem dX9_suit_3 : decode cX9_suit 3 = .ok (.bipush 7, 2) := by decide +kernel
theorem dX9_suit_5 : decode cX9_suit 5 = .ok (.invokevirtual 144, 3) := by decide +kernel
theorem dX9_suit_8 : decode cX9_suit 8 = .ok (.ifCond .eq 22, 3) := by decide +kernel
theorem dX9_suit_11 : decode cX9_suit 11 = .ok (.aload_n 0, 1) := by decide +kernel
theorem dX9_suit_12 : decode cX9_suit 12 = .ok (.iload_n 2, 1) := by decide +kernel
theorem dX9_suit_13 : decode cX9_suit 13 = .ok (.iconst 0, 1) := by decide +kernel
theorem dX9_suit_14 : decode cX9_suit 14 = .ok (.bipush 7, 2) := by decide +kernel
theorem dX9_suit_16 : decode cX9_suit 16 = .ok (.invokevirtual 144, 3) := by decide +kernel
theorem dX9_suit_19 : decode cX9_suit 19 = .ok (.ifCond .eq 11, 3) := by decide +kernel
theorem dX9_suit_22 : decode cX9_suit 22 = .ok (.aload_n 0, 1) := by decide +kernel
theorem dX9_suit_23 : decode cX9_suit 23 = .ok (.iload_n 3, 1) := by decide +kernel
theorem dX9_suit_24 : decode cX9_suit 24 = .ok (.invokevirtual 152, 3) := by decide +kernel
theorem dX9_suit_27 : decode cX9_suit 27 = .ok (.ifCond .ne 5, 3) := by decide +kernel
theorem dX9_suit_30 : decode cX9_suit 30 = .ok (.iconst (-1), 1) := by decide +kernel
theorem dX9_suit_31 : decode cX9_suit 31 = .ok (.ireturn, 1) := by decide +kernel
theorem dX9_suit_32 : decode cX9_suit 32 = .ok (.iload_n 1, 1) := by decide +kernel
theorem dX9_suit_33 : decode cX9_suit 33 = .ok (.iload_n 2, 1) := by decide +kernel
theorem dX9_suit_34 : decode cX9_suit 34 = .ok (.if_icmp .ne 6, 3) := by decide +kernel
theorem dX9_suit_37 : decode cX9_suit 37 = .ok (.bipush (-2), 2) := by decide +kernel
theorem dX9_suit_39 : decode cX9_suit 39 = .ok (.ireturn, 1) := by decide +kernel
theorem dX9_suit_40 : decode cX9_suit 40 = .ok (.aload_n 0, 1) := by decide +kernel
theorem dX9_suit_41 : decode cX9_suit 41 = .ok (.getfield 7, 3) := by decide +kernel
theorem dX9_suit_44 : decode cX9_suit 44 = .ok (.iconst 5, 1) := by decide +kernel
theorem dX9_suit_45 : decode cX9_suit 45 = .ok (.if_icmp .ne 6, 3) := by decide +kernel
theorem dX9_suit_48 : decode cX9_suit 48 = .ok (.bipush (-4), 2) := by decide +kernel
theorem dX9_suit_50 : decode cX9_suit 50 = .ok (.ireturn, 1) := by decide +kernel
theorem dX9_suit_51 : decode cX9_suit 51 = .ok (.aload_n 0, 1) := by decide +kernel
theorem dX9_suit_52 : decode cX9_suit 52 = .ok (.getfield 20, 3) := by decide +kernel
theorem dX9_suit_55 : decode cX9_suit 55 = .ok (.aload_n 0, 1) := by decide +kernel
theorem dX9_suit_56 : decode cX9_suit 56 = .ok (.getfield 7, 3) := by decide +kernel
theorem dX9_suit_59 : decode cX9_suit 59 = .ok (.iload_n 1, 1) := by decide +kernel
theorem dX9_suit_60 : decode cX9_suit 60 = .ok (.iastore, 1) := by decide +kernel
theorem dX9_suit_61 : decode cX9_suit 61 = .ok (.aload_n 0, 1) := by decide +kernel
theorem dX9_suit_62 : decode cX9_suit 62 = .ok (.getfield 23, 3) := by decide +kernel
theorem dX9_suit_65 : decode cX9_suit 65 = .ok (.aload_n 0, 1) := by decide +kernel
theorem dX9_suit_66 : decode cX9_suit 66 = .ok (.getfield 7, 3) := by decide +kernel
theorem dX9_suit_69 : decode cX9_suit 69 = .ok (.iload_n 2, 1) := by decide +kernel
theorem dX9_suit_70 : decode cX9_suit 70 = .ok (.iastore, 1) := by decide +kernel
theorem dX9_suit_71 : decode cX9_suit 71 = .ok (.aload_n 0, 1) := by decide +kernel
theorem dX9_suit_72 : decode cX9_suit 72 = .ok (.getfield 26, 3) := by decide +kernel
theorem dX9_suit_75 : decode cX9_suit 75 = .ok (.aload_n 0, 1) := by decide +kernel
theorem dX9_suit_76 : decode cX9_suit 76 = .ok (.getfield 7, 3) := by decide +kernel
theorem dX9_suit_79 : decode cX9_suit 79 = .ok (.iload_n 3, 1) := by decide +kernel
theorem dX9_suit_80 : decode cX9_suit 80 = .ok (.iastore, 1) := by decide +kernel
theorem dX9_suit_81 : decode cX9_suit 81 = .ok (.aload_n 0, 1) := by decide +kernel
theorem dX9_suit_82 : decode cX9_suit 82 = .ok (.dup, 1) := by decide +kernel
theorem dX9_suit_83 : decode cX9_suit 83 = .ok (.getfield 7, 3) := by decide +kernel
theorem dX9_suit_86 : decode cX9_suit 86 = .ok (.iconst 1, 1) := by decide +kernel
theorem dX9_suit_87 : decode cX9_suit 87 = .ok (.iadd, 1) := by decide +kernel
theorem dX9_suit_88 : decode cX9_suit 88 = .ok (.putfield 7, 3) := by decide +kernel
theorem dX9_suit_91 : decode cX9_suit 91 = .ok (.aload_n 0, 1) := by decide +kernel
theorem dX9_suit_92 : decode cX9_suit 92 = .ok (.getfield 7, 3) := by decide +kernel
theorem dX9_suit_95 : decode cX9_suit 95 = .ok (.iconst 1, 1) := by decide +kernel
theorem dX9_suit_96 : decode cX9_suit 96 = .ok (.isub, 1) := by decide +kernel
theorem dX9_suit_97 : decode cX9_suit 97 = .ok (.ireturn, 1) := by decide +kernel
theorem dX9_claim_0 : decode cX9_claim 0 = .ok (.aload_n 0, 1) := by decide +kernel
theorem dX9_claim_1 : decode cX9_claim 1 = .ok (.iload_n 1, 1) := by decide +kernel
theorem dX9_claim_2 : decode cX9_claim 2 = .ok (.invokevirtual 156, 3) := by decide +kernel
theorem dX9_claim_5 : decode cX9_claim 5 = .ok (.ifCond .ne 5, 3) := by decide +kernel
theorem dX9_claim_8 : decode cX9_claim 8 = .ok (.iconst (-1), 1) := by decide +kernel
theorem dX9_claim_9 : decode cX9_claim 9 = .ok (.ireturn, 1) := by decide +kernel
theorem dX9_claim_10 : decode cX9_claim 10 = .ok (.aload_n 0, 1) := by decide +kernel
theorem dX9_claim_11 : decode cX9_claim 11 = .ok (.iload_n 2, 1) := by decide +kernel
theorem dX9_claim_12 : decode cX9_claim 12 = .ok (.iconst 1, 1) := by decide +kernel
theorem dX9_claim_13 : decode cX9_claim 13 = .ok (.bipush 99, 2) := by decide +kernel
theorem dX9_claim_15 : decode cX9_claim 15 = .ok (.invokevirtual 144, 3) := by decide +kernel
theorem dX9_claim_18 : decode cX9_claim 18 = .ok (.ifCond .eq 13, 3) := by decide +kernel
theorem dX9_claim_21 : decode cX9_claim 21 = .ok (.aload_n 0, 1) := by decide +kernel
theorem dX9_claim_22 : decode cX9_claim 22 = .ok (.iload_n 3, 1) := by decide +kernel
theorem dX9_claim_23 : decode cX9_claim 23 = .ok (.iconst 0, 1) := by decide +kernel
theorem dX9_claim_24 : decode cX9_claim 24 = .ok (.iconst 2, 1) := by decide +kernel
theorem dX9_claim_25 : decode cX9_claim 25 = .ok (.invokevirtual 144, 3) := by decide +kernel
theorem dX9_claim_28 : decode cX9_claim 28 = .ok (.ifCond .ne 6, 3) := by decide +kernel
theorem dX9_claim_31 : decode cX9_claim 31 = .ok (.bipush (-2), 2) := by decide +kernel
theorem dX9_claim_33 : decode cX9_claim 33 = .ok (.ireturn, 1) := by decide +kernel
theorem dX9_claim_34 : decode cX9_claim 34 = .ok (.aload_n 0, 1) := by decide +kernel
theorem dX9_claim_35 : decode cX9_claim 35 = .ok (.getfield 13, 3) := by decide +kernel
theorem dX9_claim_38 : decode cX9_claim 38 = .ok (.bipush 24, 2) := by decide +kernel
theorem dX9_claim_40 : decode cX9_claim 40 = .ok (.if_icmp .eq 13, 3) := by decide +kernel
theorem dX9_claim_43 : decode cX9_claim 43 = .ok (.aload_n 0, 1) := by decide +kernel
theorem dX9_claim_44 : decode cX9_claim 44 = .ok (.iload_n 1, 1) := by decide +kernel
theorem dX9_claim_45 : decode cX9_claim 45 = .ok (.invokevirtual 159, 3) := by decide +kernel
theorem dX9_claim_48 : decode cX9_claim 48 = .ok (.bipush 6, 2) := by decide +kernel
theorem dX9_claim_50 : decode cX9_claim 50 = .ok (.if_icmp .ne 6, 3) := by decide +kernel
theorem dX9_claim_53 : decode cX9_claim 53 = .ok (.bipush (-4), 2) := by decide +kernel
theorem dX9_claim_55 : decode cX9_claim 55 = .ok (.ireturn, 1) := by decide +kernel
theorem dX9_claim_56 : decode cX9_claim 56 = .ok (.iconst 0, 1) := by decide +kernel
theorem dX9_claim_57 : decode cX9_claim 57 = .ok (.istore 4, 2) := by decide +kernel
theorem dX9_claim_59 : decode cX9_claim 59 = .ok (.iload 4, 2) := by decide +kernel
theorem dX9_claim_61 : decode cX9_claim 61 = .ok (.bipush 10, 2) := by decide +kernel
theorem dX9_claim_63 : decode cX9_claim 63 = .ok (.if_icmp .ge 25, 3) := by decide +kernel
theorem dX9_claim_66 : decode cX9_claim 66 = .ok (.aload_n 0, 1) := by decide +kernel
theorem dX9_claim_67 : decode cX9_claim 67 = .ok (.getfield 29, 3) := by decide +kernel
theorem dX9_claim_70 : decode cX9_claim 70 = .ok (.bipush 10, 2) := by decide +kernel
theorem dX9_claim_72 : decode cX9_claim 72 = .ok (.aload_n 0, 1) := by decide +kernel
theorem dX9_claim_73 : decode cX9_claim 73 = .ok (.getfield 13, 3) := by decide +kernel
theorem dX9_claim_76 : decode cX9_claim 76 = .ok (.imul, 1) := by decide +kernel
theorem dX9_claim_77 : decode cX9_claim 77 = .ok (.iload 4, 2) := by decide +kernel
theorem dX9_claim_79 : decode cX9_claim 79 = .ok (.iadd, 1) := by decide +kernel
theorem dX9_claim_80 : decode cX9_claim 80 = .ok (.iconst 0, 1) := by decide +kernel
theorem dX9_claim_81 : decode cX9_claim 81 = .ok (.iastore, 1) := by decide +kernel
theorem dX9_claim_82 : decode cX9_claim 82 = .ok (.iinc 4 1, 3) := by decide +kernel
theorem dX9_claim_85 : decode cX9_claim 85 = .ok (.goto (-26), 3) := by decide +kernel
theorem dX9_claim_88 : decode cX9_claim 88 = .ok (.aload_n 0, 1) := by decide +kernel
theorem dX9_claim_89 : decode cX9_claim 89 = .ok (.getfield 29, 3) := by decide +kernel
theorem dX9_claim_92 : decode cX9_claim 92 = .ok (.bipush 10, 2) := by decide +kernel
theorem dX9_claim_94 : decode cX9_claim 94 = .ok (.aload_n 0, 1) := by decide +kernel
theorem dX9_claim_95 : decode cX9_claim 95 = .ok (.getfield 13, 3) := by decide +kernel
theorem dX9_claim_98 : decode cX9_claim 98 = .ok (.imul, 1) := by decide +kernel
theorem dX9_claim_99 : decode cX9_claim 99 = .ok (.iload_n 1, 1) := by decide +kernel
theorem dX9_claim_100 : decode cX9_claim 100 = .ok (.iastore, 1) := by decide +kernel
theorem dX9_claim_101 : decode cX9_claim 101 = .ok (.aload_n 0, 1) := by decide +kernel
theorem dX9_claim_102 : decode cX9_claim 102 = .ok (.getfield 29, 3) := by decide +kernel
theorem dX9_claim_105 : decode cX9_claim 105 = .ok (.bipush 10, 2) := by decide +kernel
theorem dX9_claim_107 : decode cX9_claim 107 = .ok (.aload_n 0, 1) := by decide +kernel
theorem dX9_claim_108 : decode cX9_claim 108 = .ok (.getfield 13, 3) := by decide +kernel
theorem dX9_claim_111 : decode cX9_claim 111 = .ok (.imul, 1) := by decide +kernel
theorem dX9_claim_112 : decode cX9_claim 112 = .ok (.iconst 1, 1) := by decide +kernel
theorem dX9_claim_113 : decode cX9_claim 113 = .ok (.iadd, 1) := by decide +kernel
theorem dX9_claim_114 : decode cX9_claim 114 = .ok (.iload_n 2, 1) := by decide +kernel
theorem dX9_claim_115 : decode cX9_claim 115 = .ok (.iastore, 1) := by decide +kernel
theorem dX9_claim_116 : decode cX9_claim 116 = .ok (.aload_n 0, 1) := by decide +kernel
theorem dX9_claim_117 : decode cX9_claim 117 = .ok (.getfield 29, 3) := by decide +kernel
theorem dX9_claim_120 : decode cX9_claim 120 = .ok (.bipush 10, 2) := by decide +kernel
theorem dX9_claim_122 : decode cX9_claim 122 = .ok (.aload_n 0, 1) := by decide +kernel
theorem dX9_claim_123 : decode cX9_claim 123 = .ok (.getfield 13, 3) := by decide +kernel
theorem dX9_claim_126 : decode cX9_claim 126 = .ok (.imul, 1) := by decide +kernel
theorem dX9_claim_127 : decode cX9_claim 127 = .ok (.iconst 2, 1) := by decide +kernel
theorem dX9_claim_128 : decode cX9_claim 128 = .ok (.iadd, 1) := by decide +kernel
theorem dX9_claim_129 : decode cX9_claim 129 = .ok (.iload_n 3, 1) := by decide +kernel
theorem dX9_claim_130 : decode cX9_claim 130 = .ok (.iastore, 1) := by decide +kernel
theorem dX9_claim_131 : decode cX9_claim 131 = .ok (.aload_n 0, 1) := by decide +kernel
theorem dX9_claim_132 : decode cX9_claim 132 = .ok (.getfield 29, 3) := by decide +kernel
theorem dX9_claim_135 : decode cX9_claim 135 = .ok (.bipush 10, 2) := by decide +kernel
theorem dX9_claim_137 : decode cX9_claim 137 = .ok (.aload_n 0, 1) := by decide +kernel
theorem dX9_claim_138 : decode cX9_claim 138 = .ok (.getfield 13, 3) := by decide +kernel
theorem dX9_claim_141 : decode cX9_claim 141 = .ok (.imul, 1) := by decide +kernel
theorem dX9_claim_142 : decode cX9_claim 142 = .ok (.iconst 4, 1) := by decide +kernel
theorem dX9_claim_143 : decode cX9_claim 143 = .ok (.iadd, 1) := by decide +kernel
theorem dX9_claim_144 : decode cX9_claim 144 = .ok (.iconst 1, 1) := by decide +kernel
theorem dX9_claim_145 : decode cX9_claim 145 = .ok (.iastore, 1) := by decide +kernel
theorem dX9_claim_146 : decode cX9_claim 146 = .ok (.aload_n 0, 1) := by decide +kernel
theorem dX9_claim_147 : decode cX9_claim 147 = .ok (.dup, 1) := by decide +kernel
theorem dX9_claim_148 : decode cX9_claim 148 = .ok (.getfield 13, 3) := by decide +kernel
theorem dX9_claim_151 : decode cX9_claim 151 = .ok (.iconst 1, 1) := by decide +kernel
theorem dX9_claim_152 : decode cX9_claim 152 = .ok (.iadd, 1) := by decide +kernel
theorem dX9_claim_153 : decode cX9_claim 153 = .ok (.putfield 13, 3) := by decide +kernel
theorem dX9_claim_156 : decode cX9_claim 156 = .ok (.aload_n 0, 1) := by decide +kernel
theorem dX9_claim_157 : decode cX9_claim 157 = .ok (.getfield 13, 3) := by decide +kernel
theorem dX9_claim_160 : decode cX9_claim 160 = .ok (.iconst 1, 1) := by decide +kernel
theorem dX9_claim_161 : decode cX9_claim 161 = .ok (.isub, 1) := by decide +kernel
theorem dX9_claim_162 : decode cX9_claim 162 = .ok (.ireturn, 1) := by decide +kernel
theorem dX9_becomes_0 : decode cX9_becomes 0 = .ok (.aload_n 0, 1) := by decide +kernel
theorem dX9_becomes_1 : decode cX9_becomes 1 = .ok (.getfield 29, 3) := by decide +kernel
theorem dX9_becomes_4 : decode cX9_becomes 4 = .ok (.bipush 10, 2) := by decide +kernel
theorem dX9_becomes_6 : decode cX9_becomes 6 = .ok (.iload_n 1, 1) := by decide +kernel
theorem dX9_becomes_7 : decode cX9_becomes 7 = .ok (.imul, 1) := by decide +kernel
theorem dX9_becomes_8 : decode cX9_becomes 8 = .ok (.iload_n 2, 1) := by decide +kernel
theorem dX9_becomes_9 : decode cX9_becomes 9 = .ok (.iadd, 1) := by decide +kernel
theorem dX9_becomes_10 : decode cX9_becomes 10 = .ok (.iaload, 1) := by decide +kernel
theorem dX9_becomes_11 : decode cX9_becomes 11 = .ok (.istore 4, 2) := by decide +kernel
theorem dX9_becomes_13 : decode cX9_becomes 13 = .ok (.aload_n 0, 1) := by decide +kernel
theorem dX9_becomes_14 : decode cX9_becomes 14 = .ok (.getfield 29, 3) := by decide +kernel
theorem dX9_becomes_17 : decode cX9_becomes 17 = .ok (.bipush 10, 2) := by decide +kernel
theorem dX9_becomes_19 : decode cX9_becomes 19 = .ok (.iload_n 1, 1) := by decide +kernel
theorem dX9_becomes_20 : decode cX9_becomes 20 = .ok (.imul, 1) := by decide +kernel
theorem dX9_becomes_21 : decode cX9_becomes 21 = .ok (.iload_n 2, 1) := by decide +kernel
theorem dX9_becomes_22 : decode cX9_becomes 22 = .ok (.iadd, 1) := by decide +kernel
theorem dX9_becomes_23 : decode cX9_becomes 23 = .ok (.iload_n 3, 1) := by decide +kernel
theorem dX9_becomes_24 : decode cX9_becomes 24 = .ok (.iastore, 1) := by decide +kernel
theorem dX9_becomes_25 : decode cX9_becomes 25 = .ok (.iload 4, 2) := by decide +kernel
theorem dX9_becomes_27 : decode cX9_becomes 27 = .ok (.ireturn, 1) := by decide +kernel
theorem dX9_answer_0 : decode cX9_answer 0 = .ok (.aload_n 0, 1) := by decide +kernel
theorem dX9_answer_1 : decode cX9_answer 1 = .ok (.iload_n 1, 1) := by decide +kernel
theorem dX9_answer_2 : decode cX9_answer 2 = .ok (.invokevirtual 163, 3) := by decide +kernel
theorem dX9_answer_5 : decode cX9_answer 5 = .ok (.ifCond .ne 5, 3) := by decide +kernel
theorem dX9_answer_8 : decode cX9_answer 8 = .ok (.iconst (-1), 1) := by decide +kernel
theorem dX9_answer_9 : decode cX9_answer 9 = .ok (.ireturn, 1) := by decide +kernel
theorem dX9_answer_10 : decode cX9_answer 10 = .ok (.aload_n 0, 1) := by decide +kernel
theorem dX9_answer_11 : decode cX9_answer 11 = .ok (.iload_n 2, 1) := by decide +kernel
theorem dX9_answer_12 : decode cX9_answer 12 = .ok (.iconst 0, 1) := by decide +kernel
theorem dX9_answer_13 : decode cX9_answer 13 = .ok (.aload_n 0, 1) := by decide +kernel
theorem dX9_answer_14 : decode cX9_answer 14 = .ok (.iload_n 1, 1) := by decide +kernel
theorem dX9_answer_15 : decode cX9_answer 15 = .ok (.iconst 1, 1) := by decide +kernel
theorem dX9_answer_16 : decode cX9_answer 16 = .ok (.invokevirtual 148, 3) := by decide +kernel
theorem dX9_answer_19 : decode cX9_answer 19 = .ok (.invokevirtual 144, 3) := by decide +kernel
theorem dX9_answer_22 : decode cX9_answer 22 = .ok (.ifCond .ne 6, 3) := by decide +kernel
theorem dX9_answer_25 : decode cX9_answer 25 = .ok (.bipush (-2), 2) := by decide +kernel
theorem dX9_answer_27 : decode cX9_answer 27 = .ok (.ireturn, 1) := by decide +kernel
theorem dX9_answer_28 : decode cX9_answer 28 = .ok (.aload_n 0, 1) := by decide +kernel
theorem dX9_answer_29 : decode cX9_answer 29 = .ok (.getfield 29, 3) := by decide +kernel
theorem dX9_answer_32 : decode cX9_answer 32 = .ok (.bipush 10, 2) := by decide +kernel
theorem dX9_answer_34 : decode cX9_answer 34 = .ok (.iload_n 1, 1) := by decide +kernel
theorem dX9_answer_35 : decode cX9_answer 35 = .ok (.imul, 1) := by decide +kernel
theorem dX9_answer_36 : decode cX9_answer 36 = .ok (.iconst 4, 1) := by decide +kernel
theorem dX9_answer_37 : decode cX9_answer 37 = .ok (.iadd, 1) := by decide +kernel
theorem dX9_answer_38 : decode cX9_answer 38 = .ok (.iload_n 3, 1) := by decide +kernel
theorem dX9_answer_39 : decode cX9_answer 39 = .ok (.ifCond .eq 7, 3) := by decide +kernel
theorem dX9_answer_42 : decode cX9_answer 42 = .ok (.iconst 1, 1) := by decide +kernel
theorem dX9_answer_43 : decode cX9_answer 43 = .ok (.goto 4, 3) := by decide +kernel
theorem dX9_answer_46 : decode cX9_answer 46 = .ok (.iconst 0, 1) := by decide +kernel
theorem dX9_answer_47 : decode cX9_answer 47 = .ok (.iastore, 1) := by decide +kernel
theorem dX9_answer_48 : decode cX9_answer 48 = .ok (.aload_n 0, 1) := by decide +kernel
theorem dX9_answer_49 : decode cX9_answer 49 = .ok (.iload_n 1, 1) := by decide +kernel
theorem dX9_answer_50 : decode cX9_answer 50 = .ok (.iconst 3, 1) := by decide +kernel
theorem dX9_answer_51 : decode cX9_answer 51 = .ok (.iload_n 2, 1) := by decide +kernel
theorem dX9_answer_52 : decode cX9_answer 52 = .ok (.invokevirtual 166, 3) := by decide +kernel
theorem dX9_answer_55 : decode cX9_answer 55 = .ok (.ireturn, 1) := by decide +kernel
theorem dX9_proof_0 : decode cX9_proof 0 = .ok (.aload_n 0, 1) := by decide +kernel
theorem dX9_proof_1 : decode cX9_proof 1 = .ok (.iload_n 1, 1) := by decide +kernel
theorem dX9_proof_2 : decode cX9_proof 2 = .ok (.invokevirtual 163, 3) := by decide +kernel
theorem dX9_proof_5 : decode cX9_proof 5 = .ok (.ifCond .eq 13, 3) := by decide +kernel
theorem dX9_proof_8 : decode cX9_proof 8 = .ok (.aload_n 0, 1) := by decide +kernel
theorem dX9_proof_9 : decode cX9_proof 9 = .ok (.iload_n 2, 1) := by decide +kernel
theorem dX9_proof_10 : decode cX9_proof 10 = .ok (.iconst 0, 1) := by decide +kernel
theorem dX9_proof_11 : decode cX9_proof 11 = .ok (.iconst 3, 1) := by decide +kernel
theorem dX9_proof_12 : decode cX9_proof 12 = .ok (.invokevirtual 144, 3) := by decide +kernel
theorem dX9_proof_15 : decode cX9_proof 15 = .ok (.ifCond .ne 5, 3) := by decide +kernel
theorem dX9_proof_18 : decode cX9_proof 18 = .ok (.iconst (-1), 1) := by decide +kernel
theorem dX9_proof_19 : decode cX9_proof 19 = .ok (.ireturn, 1) := by decide +kernel
theorem dX9_proof_20 : decode cX9_proof 20 = .ok (.aload_n 0, 1) := by decide +kernel
theorem dX9_proof_21 : decode cX9_proof 21 = .ok (.iload_n 3, 1) := by decide +kernel
theorem dX9_proof_22 : decode cX9_proof 22 = .ok (.iconst 0, 1) := by decide +kernel
theorem dX9_proof_23 : decode cX9_proof 23 = .ok (.iload_n 2, 1) := by decide +kernel
theorem dX9_proof_24 : decode cX9_proof 24 = .ok (.ifCond .ne 7, 3) := by decide +kernel
theorem dX9_proof_27 : decode cX9_proof 27 = .ok (.iconst 3, 1) := by decide +kernel
theorem dX9_proof_28 : decode cX9_proof 28 = .ok (.goto 4, 3) := by decide +kernel
theorem dX9_proof_31 : decode cX9_proof 31 = .ok (.iconst 1, 1) := by decide +kernel
theorem dX9_proof_32 : decode cX9_proof 32 = .ok (.invokevirtual 144, 3) := by decide +kernel
theorem dX9_proof_35 : decode cX9_proof 35 = .ok (.ifCond .eq 15, 3) := by decide +kernel
theorem dX9_proof_38 : decode cX9_proof 38 = .ok (.aload_n 0, 1) := by decide +kernel
theorem dX9_proof_39 : decode cX9_proof 39 = .ok (.iload_n 1, 1) := by decide +kernel
theorem dX9_proof_40 : decode cX9_proof 40 = .ok (.iconst 5, 1) := by decide +kernel
theorem dX9_proof_41 : decode cX9_proof 41 = .ok (.iload_n 2, 1) := by decide +kernel
theorem dX9_proof_42 : decode cX9_proof 42 = .ok (.iadd, 1) := by decide +kernel
theorem dX9_proof_43 : decode cX9_proof 43 = .ok (.iload_n 3, 1) := by decide +kernel
theorem dX9_proof_44 : decode cX9_proof 44 = .ok (.invokevirtual 166, 3) := by decide +kernel
theorem dX9_proof_47 : decode cX9_proof 47 = .ok (.goto 5, 3) := by decide +kernel
theorem dX9_proof_50 : decode cX9_proof 50 = .ok (.bipush (-2), 2) := by decide +kernel
theorem dX9_proof_52 : decode cX9_proof 52 = .ok (.ireturn, 1) := by decide +kernel
theorem dX9_truth_0 : decode cX9_truth 0 = .ok (.aload_n 0, 1) := by decide +kernel
theorem dX9_truth_1 : decode cX9_truth 1 = .ok (.iload_n 1, 1) := by decide +kernel
theorem dX9_truth_2 : decode cX9_truth 2 = .ok (.invokevirtual 163, 3) := by decide +kernel
theorem dX9_truth_5 : decode cX9_truth 5 = .ok (.ifCond .ne 5, 3) := by decide +kernel
theorem dX9_truth_8 : decode cX9_truth 8 = .ok (.iconst (-1), 1) := by decide +kernel
theorem dX9_truth_9 : decode cX9_truth 9 = .ok (.ireturn, 1) := by decide +kernel
theorem dX9_truth_10 : decode cX9_truth 10 = .ok (.aload_n 0, 1) := by decide +kernel
theorem dX9_truth_11 : decode cX9_truth 11 = .ok (.iload_n 2, 1) := by decide +kernel
theorem dX9_truth_12 : decode cX9_truth 12 = .ok (.iconst 0, 1) := by decide +kernel
theorem dX9_truth_13 : decode cX9_truth 13 = .ok (.bipush 99, 2) := by decide +kernel
theorem dX9_truth_15 : decode cX9_truth 15 = .ok (.invokevirtual 144, 3) := by decide +kernel
theorem dX9_truth_18 : decode cX9_truth 18 = .ok (.ifCond .eq 14, 3) := by decide +kernel
theorem dX9_truth_21 : decode cX9_truth 21 = .ok (.aload_n 0, 1) := by decide +kernel
theorem dX9_truth_22 : decode cX9_truth 22 = .ok (.iload_n 1, 1) := by decide +kernel
theorem dX9_truth_23 : decode cX9_truth 23 = .ok (.bipush 9, 2) := by decide +kernel
theorem dX9_truth_25 : decode cX9_truth 25 = .ok (.iload_n 2, 1) := by decide +kernel
theorem dX9_truth_26 : decode cX9_truth 26 = .ok (.invokevirtual 166, 3) := by decide +kernel
theorem dX9_truth_29 : decode cX9_truth 29 = .ok (.goto 5, 3) := by decide +kernel
theorem dX9_truth_32 : decode cX9_truth 32 = .ok (.bipush (-2), 2) := by decide +kernel
theorem dX9_truth_34 : decode cX9_truth 34 = .ok (.ireturn, 1) := by decide +kernel
theorem dX9_of_0 : decode cX9_of 0 = .ok (.aload_n 0, 1) := by decide +kernel
theorem dX9_of_1 : decode cX9_of 1 = .ok (.iload_n 1, 1) := by decide +kernel
theorem dX9_of_2 : decode cX9_of 2 = .ok (.invokevirtual 163, 3) := by decide +kernel
theorem dX9_of_5 : decode cX9_of 5 = .ok (.ifCond .eq 23, 3) := by decide +kernel
theorem dX9_of_8 : decode cX9_of 8 = .ok (.aload_n 0, 1) := by decide +kernel
theorem dX9_of_9 : decode cX9_of 9 = .ok (.iload_n 2, 1) := by decide +kernel
theorem dX9_of_10 : decode cX9_of 10 = .ok (.iconst 0, 1) := by decide +kernel
theorem dX9_of_11 : decode cX9_of 11 = .ok (.bipush 9, 2) := by decide +kernel
theorem dX9_of_13 : decode cX9_of 13 = .ok (.invokevirtual 144, 3) := by decide +kernel
theorem dX9_of_16 : decode cX9_of 16 = .ok (.ifCond .eq 12, 3) := by decide +kernel
theorem dX9_of_19 : decode cX9_of 19 = .ok (.aload_n 0, 1) := by decide +kernel
theorem dX9_of_20 : decode cX9_of 20 = .ok (.iload_n 1, 1) := by decide +kernel
theorem dX9_of_21 : decode cX9_of 21 = .ok (.iload_n 2, 1) := by decide +kernel
theorem dX9_of_22 : decode cX9_of 22 = .ok (.invokevirtual 148, 3) := by decide +kernel
theorem dX9_of_25 : decode cX9_of 25 = .ok (.goto 4, 3) := by decide +kernel
theorem dX9_of_28 : decode cX9_of 28 = .ok (.iconst (-1), 1) := by decide +kernel
theorem dX9_of_29 : decode cX9_of 29 = .ok (.ireturn, 1) := by decide +kernel
theorem dX9_isLaw_0 : decode cX9_isLaw 0 = .ok (.aload_n 0, 1) := by decide +kernel
theorem dX9_isLaw_1 : decode cX9_isLaw 1 = .ok (.iload_n 1, 1) := by decide +kernel
theorem dX9_isLaw_2 : decode cX9_isLaw 2 = .ok (.iconst 0, 1) := by decide +kernel
theorem dX9_isLaw_3 : decode cX9_isLaw 3 = .ok (.aload_n 0, 1) := by decide +kernel
theorem dX9_isLaw_4 : decode cX9_isLaw 4 = .ok (.getfield 32, 3) := by decide +kernel
theorem dX9_isLaw_7 : decode cX9_isLaw 7 = .ok (.iconst 1, 1) := by decide +kernel
theorem dX9_isLaw_8 : decode cX9_isLaw 8 = .ok (.isub, 1) := by decide +kernel
theorem dX9_isLaw_9 : decode cX9_isLaw 9 = .ok (.invokevirtual 144, 3) := by decide +kernel
theorem dX9_isLaw_12 : decode cX9_isLaw 12 = .ok (.ireturn, 1) := by decide +kernel
theorem dX9_feed_0 : decode cX9_feed 0 = .ok (.aload_n 0, 1) := by decide +kernel
theorem dX9_feed_1 : decode cX9_feed 1 = .ok (.iload_n 2, 1) := by decide +kernel
theorem dX9_feed_2 : decode cX9_feed 2 = .ok (.iconst 0, 1) := by decide +kernel
theorem dX9_feed_3 : decode cX9_feed 3 = .ok (.iconst 4, 1) := by decide +kernel
theorem dX9_feed_4 : decode cX9_feed 4 = .ok (.invokevirtual 144, 3) := by decide +kernel
theorem dX9_feed_7 : decode cX9_feed 7 = .ok (.ifCond .ne 6, 3) := by decide +kernel
theorem dX9_feed_10 : decode cX9_feed 10 = .ok (.bipush (-2), 2) := by decide +kernel
theorem dX9_feed_12 : decode cX9_feed 12 = .ok (.ireturn, 1) := by decide +kernel
theorem dX9_feed_13 : decode cX9_feed 13 = .ok (.aload_n 0, 1) := by decide +kernel
theorem dX9_feed_14 : decode cX9_feed 14 = .ok (.getfield 35, 3) := by decide +kernel
theorem dX9_feed_17 : decode cX9_feed 17 = .ok (.iload_n 2, 1) := by decide +kernel
theorem dX9_feed_18 : decode cX9_feed 18 = .ok (.iadd, 1) := by decide +kernel
theorem dX9_feed_19 : decode cX9_feed 19 = .ok (.bipush 100, 2) := by decide +kernel
theorem dX9_feed_21 : decode cX9_feed 21 = .ok (.if_icmp .le 6, 3) := by decide +kernel
theorem dX9_feed_24 : decode cX9_feed 24 = .ok (.bipush (-4), 2) := by decide +kernel
theorem dX9_feed_26 : decode cX9_feed 26 = .ok (.ireturn, 1) := by decide +kernel
theorem dX9_feed_27 : decode cX9_feed 27 = .ok (.iload_n 2, 1) := by decide +kernel
theorem dX9_feed_28 : decode cX9_feed 28 = .ok (.iconst 1, 1) := by decide +kernel
theorem dX9_feed_29 : decode cX9_feed 29 = .ok (.isub, 1) := by decide +kernel
theorem dX9_feed_30 : decode cX9_feed 30 = .ok (.istore_n 3, 1) := by decide +kernel
theorem dX9_feed_31 : decode cX9_feed 31 = .ok (.iload_n 3, 1) := by decide +kernel
theorem dX9_feed_32 : decode cX9_feed 32 = .ok (.ifCond .lt 35, 3) := by decide +kernel
theorem dX9_feed_35 : decode cX9_feed 35 = .ok (.aload_n 0, 1) := by decide +kernel
theorem dX9_feed_36 : decode cX9_feed 36 = .ok (.getfield 41, 3) := by decide +kernel
theorem dX9_feed_39 : decode cX9_feed 39 = .ok (.aload_n 0, 1) := by decide +kernel
theorem dX9_feed_40 : decode cX9_feed 40 = .ok (.getfield 35, 3) := by decide +kernel
theorem dX9_feed_43 : decode cX9_feed 43 = .ok (.iload_n 1, 1) := by decide +kernel
theorem dX9_feed_44 : decode cX9_feed 44 = .ok (.bipush 8, 2) := by decide +kernel
theorem dX9_feed_46 : decode cX9_feed 46 = .ok (.iload_n 3, 1) := by decide +kernel
theorem dX9_feed_47 : decode cX9_feed 47 = .ok (.imul, 1) := by decide +kernel
theorem dX9_feed_48 : decode cX9_feed 48 = .ok (.ishr, 1) := by decide +kernel
theorem dX9_feed_49 : decode cX9_feed 49 = .ok (.i2b, 1) := by decide +kernel
theorem dX9_feed_50 : decode cX9_feed 50 = .ok (.iastore, 1) := by decide +kernel
theorem dX9_feed_51 : decode cX9_feed 51 = .ok (.aload_n 0, 1) := by decide +kernel
theorem dX9_feed_52 : decode cX9_feed 52 = .ok (.dup, 1) := by decide +kernel
theorem dX9_feed_53 : decode cX9_feed 53 = .ok (.getfield 35, 3) := by decide +kernel
theorem dX9_feed_56 : decode cX9_feed 56 = .ok (.iconst 1, 1) := by decide +kernel
theorem dX9_feed_57 : decode cX9_feed 57 = .ok (.iadd, 1) := by decide +kernel
theorem dX9_feed_58 : decode cX9_feed 58 = .ok (.putfield 35, 3) := by decide +kernel
theorem dX9_feed_61 : decode cX9_feed 61 = .ok (.iinc 3 (-1), 3) := by decide +kernel
theorem dX9_feed_64 : decode cX9_feed 64 = .ok (.goto (-33), 3) := by decide +kernel
theorem dX9_feed_67 : decode cX9_feed 67 = .ok (.aload_n 0, 1) := by decide +kernel
theorem dX9_feed_68 : decode cX9_feed 68 = .ok (.getfield 35, 3) := by decide +kernel
theorem dX9_feed_71 : decode cX9_feed 71 = .ok (.ireturn, 1) := by decide +kernel
theorem dX9_next_0 : decode cX9_next 0 = .ok (.aload_n 0, 1) := by decide +kernel
theorem dX9_next_1 : decode cX9_next 1 = .ok (.getfield 38, 3) := by decide +kernel
theorem dX9_next_4 : decode cX9_next 4 = .ok (.aload_n 0, 1) := by decide +kernel
theorem dX9_next_5 : decode cX9_next 5 = .ok (.getfield 35, 3) := by decide +kernel
theorem dX9_next_8 : decode cX9_next 8 = .ok (.if_icmp .ge 15, 3) := by decide +kernel
theorem dX9_next_11 : decode cX9_next 11 = .ok (.aload_n 0, 1) := by decide +kernel
theorem dX9_next_12 : decode cX9_next 12 = .ok (.getfield 41, 3) := by decide +kernel
theorem dX9_next_15 : decode cX9_next 15 = .ok (.aload_n 0, 1) := by decide +kernel
theorem dX9_next_16 : decode cX9_next 16 = .ok (.getfield 38, 3) := by decide +kernel
theorem dX9_next_19 : decode cX9_next 19 = .ok (.iaload, 1) := by decide +kernel
theorem dX9_next_20 : decode cX9_next 20 = .ok (.goto 4, 3) := by decide +kernel
theorem dX9_next_23 : decode cX9_next 23 = .ok (.iconst (-1), 1) := by decide +kernel
theorem dX9_next_24 : decode cX9_next 24 = .ok (.ireturn, 1) := by decide +kernel
theorem dX9_takes_0 : decode cX9_takes 0 = .ok (.aload_n 0, 1) := by decide +kernel
theorem dX9_takes_1 : decode cX9_takes 1 = .ok (.invokevirtual 170, 3) := by decide +kernel
theorem dX9_takes_4 : decode cX9_takes 4 = .ok (.iload_n 1, 1) := by decide +kernel
theorem dX9_takes_5 : decode cX9_takes 5 = .ok (.if_icmp .eq 5, 3) := by decide +kernel
theorem dX9_takes_8 : decode cX9_takes 8 = .ok (.iconst 0, 1) := by decide +kernel
theorem dX9_takes_9 : decode cX9_takes 9 = .ok (.ireturn, 1) := by decide +kernel
theorem dX9_takes_10 : decode cX9_takes 10 = .ok (.aload_n 0, 1) := by decide +kernel
theorem dX9_takes_11 : decode cX9_takes 11 = .ok (.dup, 1) := by decide +kernel
theorem dX9_takes_12 : decode cX9_takes 12 = .ok (.getfield 38, 3) := by decide +kernel
theorem dX9_takes_15 : decode cX9_takes 15 = .ok (.iconst 1, 1) := by decide +kernel
theorem dX9_takes_16 : decode cX9_takes 16 = .ok (.iadd, 1) := by decide +kernel
theorem dX9_takes_17 : decode cX9_takes 17 = .ok (.putfield 38, 3) := by decide +kernel
theorem dX9_takes_20 : decode cX9_takes 20 = .ok (.iconst 1, 1) := by decide +kernel
theorem dX9_takes_21 : decode cX9_takes 21 = .ok (.ireturn, 1) := by decide +kernel
theorem dX9_takesWord_0 : decode cX9_takesWord 0 = .ok (.iload_n 2, 1) := by decide +kernel
theorem dX9_takesWord_1 : decode cX9_takesWord 1 = .ok (.iconst 1, 1) := by decide +kernel
theorem dX9_takesWord_2 : decode cX9_takesWord 2 = .ok (.isub, 1) := by decide +kernel
theorem dX9_takesWord_3 : decode cX9_takesWord 3 = .ok (.istore_n 3, 1) := by decide +kernel
theorem dX9_takesWord_4 : decode cX9_takesWord 4 = .ok (.iload_n 3, 1) := by decide +kernel
theorem dX9_takesWord_5 : decode cX9_takesWord 5 = .ok (.ifCond .lt 29, 3) := by decide +kernel
theorem dX9_takesWord_8 : decode cX9_takesWord 8 = .ok (.aload_n 0, 1) := by decide +kernel
theorem dX9_takesWord_9 : decode cX9_takesWord 9 = .ok (.bipush 96, 2) := by decide +kernel
theorem dX9_takesWord_11 : decode cX9_takesWord 11 = .ok (.iload_n 1, 1) := by decide +kernel
theorem dX9_takesWord_12 : decode cX9_takesWord 12 = .ok (.iconst 5, 1) := by decide +kernel
theorem dX9_takesWord_13 : decode cX9_takesWord 13 = .ok (.iload_n 3, 1) := by decide +kernel
theorem dX9_takesWord_14 : decode cX9_takesWord 14 = .ok (.imul, 1) := by decide +kernel
theorem dX9_takesWord_15 : decode cX9_takesWord 15 = .ok (.ishr, 1) := by decide +kernel
theorem dX9_takesWord_16 : decode cX9_takesWord 16 = .ok (.bipush 31, 2) := by decide +kernel
theorem dX9_takesWord_18 : decode cX9_takesWord 18 = .ok (.iand, 1) := by decide +kernel
theorem dX9_takesWord_19 : decode cX9_takesWord 19 = .ok (.iadd, 1) := by decide +kernel
theorem dX9_takesWord_20 : decode cX9_takesWord 20 = .ok (.invokevirtual 174, 3) := by decide +kernel
theorem dX9_takesWord_23 : decode cX9_takesWord 23 = .ok (.ifCond .ne 5, 3) := by decide +kernel
theorem dX9_takesWord_26 : decode cX9_takesWord 26 = .ok (.iconst 0, 1) := by decide +kernel
theorem dX9_takesWord_27 : decode cX9_takesWord 27 = .ok (.ireturn, 1) := by decide +kernel
theorem dX9_takesWord_28 : decode cX9_takesWord 28 = .ok (.iinc 3 (-1), 3) := by decide +kernel
theorem dX9_takesWord_31 : decode cX9_takesWord 31 = .ok (.goto (-27), 3) := by decide +kernel
theorem dX9_takesWord_34 : decode cX9_takesWord 34 = .ok (.aload_n 0, 1) := by decide +kernel
theorem dX9_takesWord_35 : decode cX9_takesWord 35 = .ok (.bipush 32, 2) := by decide +kernel
theorem dX9_takesWord_37 : decode cX9_takesWord 37 = .ok (.invokevirtual 174, 3) := by decide +kernel
theorem dX9_takesWord_40 : decode cX9_takesWord 40 = .ok (.ireturn, 1) := by decide +kernel
theorem dX9_isDigit_0 : decode cX9_isDigit 0 = .ok (.aload_n 0, 1) := by decide +kernel
theorem dX9_isDigit_1 : decode cX9_isDigit 1 = .ok (.aload_n 0, 1) := by decide +kernel
theorem dX9_isDigit_2 : decode cX9_isDigit 2 = .ok (.invokevirtual 170, 3) := by decide +kernel
theorem dX9_isDigit_5 : decode cX9_isDigit 5 = .ok (.bipush 48, 2) := by decide +kernel
theorem dX9_isDigit_7 : decode cX9_isDigit 7 = .ok (.bipush 57, 2) := by decide +kernel
theorem dX9_isDigit_9 : decode cX9_isDigit 9 = .ok (.invokevirtual 144, 3) := by decide +kernel
theorem dX9_isDigit_12 : decode cX9_isDigit 12 = .ok (.ireturn, 1) := by decide +kernel
theorem dX9_takesNumber_0 : decode cX9_takesNumber 0 = .ok (.aload_n 0, 1) := by decide +kernel
theorem dX9_takesNumber_1 : decode cX9_takesNumber 1 = .ok (.invokevirtual 177, 3) := by decide +kernel
theorem dX9_takesNumber_4 : decode cX9_takesNumber 4 = .ok (.ifCond .ne 5, 3) := by decide +kernel
theorem dX9_takesNumber_7 : decode cX9_takesNumber 7 = .ok (.iconst 0, 1) := by decide +kernel
theorem dX9_takesNumber_8 : decode cX9_takesNumber 8 = .ok (.ireturn, 1) := by decide +kernel
theorem dX9_takesNumber_9 : decode cX9_takesNumber 9 = .ok (.aload_n 0, 1) := by decide +kernel
theorem dX9_takesNumber_10 : decode cX9_takesNumber 10 = .ok (.aload_n 0, 1) := by decide +kernel
theorem dX9_takesNumber_11 : decode cX9_takesNumber 11 = .ok (.invokevirtual 170, 3) := by decide +kernel
theorem dX9_takesNumber_14 : decode cX9_takesNumber 14 = .ok (.bipush 48, 2) := by decide +kernel
theorem dX9_takesNumber_16 : decode cX9_takesNumber 16 = .ok (.isub, 1) := by decide +kernel
theorem dX9_takesNumber_17 : decode cX9_takesNumber 17 = .ok (.putfield 80, 3) := by decide +kernel
theorem dX9_takesNumber_20 : decode cX9_takesNumber 20 = .ok (.aload_n 0, 1) := by decide +kernel
theorem dX9_takesNumber_21 : decode cX9_takesNumber 21 = .ok (.dup, 1) := by decide +kernel
theorem dX9_takesNumber_22 : decode cX9_takesNumber 22 = .ok (.getfield 38, 3) := by decide +kernel
theorem dX9_takesNumber_25 : decode cX9_takesNumber 25 = .ok (.iconst 1, 1) := by decide +kernel
theorem dX9_takesNumber_26 : decode cX9_takesNumber 26 = .ok (.iadd, 1) := by decide +kernel
theorem dX9_takesNumber_27 : decode cX9_takesNumber 27 = .ok (.putfield 38, 3) := by decide +kernel
theorem dX9_takesNumber_30 : decode cX9_takesNumber 30 = .ok (.aload_n 0, 1) := by decide +kernel
theorem dX9_takesNumber_31 : decode cX9_takesNumber 31 = .ok (.invokevirtual 177, 3) := by decide +kernel
theorem dX9_takesNumber_34 : decode cX9_takesNumber 34 = .ok (.ifCond .eq 54, 3) := by decide +kernel
theorem dX9_takesNumber_37 : decode cX9_takesNumber 37 = .ok (.iload_n 1, 1) := by decide +kernel
theorem dX9_takesNumber_38 : decode cX9_takesNumber 38 = .ok (.ifCond .eq 21, 3) := by decide +kernel
theorem dX9_takesNumber_41 : decode cX9_takesNumber 41 = .ok (.aload_n 0, 1) := by decide +kernel
theorem dX9_takesNumber_42 : decode cX9_takesNumber 42 = .ok (.getfield 80, 3) := by decide +kernel
theorem dX9_takesNumber_45 : decode cX9_takesNumber 45 = .ok (.ifCond .ne 14, 3) := by decide +kernel
theorem dX9_takesNumber_48 : decode cX9_takesNumber 48 = .ok (.aload_n 0, 1) := by decide +kernel
theorem dX9_takesNumber_49 : decode cX9_takesNumber 49 = .ok (.invokevirtual 170, 3) := by decide +kernel
theorem dX9_takesNumber_52 : decode cX9_takesNumber 52 = .ok (.bipush 48, 2) := by decide +kernel
theorem dX9_takesNumber_54 : decode cX9_takesNumber 54 = .ok (.if_icmp .ne 5, 3) := by decide +kernel
theorem dX9_takesNumber_57 : decode cX9_takesNumber 57 = .ok (.iconst 0, 1) := by decide +kernel
theorem dX9_takesNumber_58 : decode cX9_takesNumber 58 = .ok (.ireturn, 1) := by decide +kernel
theorem dX9_takesNumber_59 : decode cX9_takesNumber 59 = .ok (.aload_n 0, 1) := by decide +kernel
theorem dX9_takesNumber_60 : decode cX9_takesNumber 60 = .ok (.bipush 10, 2) := by decide +kernel
theorem dX9_takesNumber_62 : decode cX9_takesNumber 62 = .ok (.aload_n 0, 1) := by decide +kernel
theorem dX9_takesNumber_63 : decode cX9_takesNumber 63 = .ok (.getfield 80, 3) := by decide +kernel
theorem dX9_takesNumber_66 : decode cX9_takesNumber 66 = .ok (.imul, 1) := by decide +kernel
theorem dX9_takesNumber_67 : decode cX9_takesNumber 67 = .ok (.aload_n 0, 1) := by decide +kernel
theorem dX9_takesNumber_68 : decode cX9_takesNumber 68 = .ok (.invokevirtual 170, 3) := by decide +kernel
theorem dX9_takesNumber_71 : decode cX9_takesNumber 71 = .ok (.iadd, 1) := by decide +kernel
theorem dX9_takesNumber_72 : decode cX9_takesNumber 72 = .ok (.bipush 48, 2) := by decide +kernel
theorem dX9_takesNumber_74 : decode cX9_takesNumber 74 = .ok (.isub, 1) := by decide +kernel
theorem dX9_takesNumber_75 : decode cX9_takesNumber 75 = .ok (.putfield 80, 3) := by decide +kernel
theorem dX9_takesNumber_78 : decode cX9_takesNumber 78 = .ok (.aload_n 0, 1) := by decide +kernel
theorem dX9_takesNumber_79 : decode cX9_takesNumber 79 = .ok (.dup, 1) := by decide +kernel
theorem dX9_takesNumber_80 : decode cX9_takesNumber 80 = .ok (.getfield 38, 3) := by decide +kernel
theorem dX9_takesNumber_83 : decode cX9_takesNumber 83 = .ok (.iconst 1, 1) := by decide +kernel
theorem dX9_takesNumber_84 : decode cX9_takesNumber 84 = .ok (.iadd, 1) := by decide +kernel
theorem dX9_takesNumber_85 : decode cX9_takesNumber 85 = .ok (.putfield 38, 3) := by decide +kernel
theorem dX9_takesNumber_88 : decode cX9_takesNumber 88 = .ok (.iload_n 1, 1) := by decide +kernel
theorem dX9_takesNumber_89 : decode cX9_takesNumber 89 = .ok (.ifCond .eq 10, 3) := by decide +kernel
theorem dX9_takesNumber_92 : decode cX9_takesNumber 92 = .ok (.aload_n 0, 1) := by decide +kernel
theorem dX9_takesNumber_93 : decode cX9_takesNumber 93 = .ok (.getfield 80, 3) := by decide +kernel
theorem dX9_takesNumber_96 : decode cX9_takesNumber 96 = .ok (.ifCond .le 7, 3) := by decide +kernel
theorem dX9_takesNumber_99 : decode cX9_takesNumber 99 = .ok (.iconst 1, 1) := by decide +kernel
theorem dX9_takesNumber_100 : decode cX9_takesNumber 100 = .ok (.goto 4, 3) := by decide +kernel
theorem dX9_takesNumber_103 : decode cX9_takesNumber 103 = .ok (.iconst 0, 1) := by decide +kernel
theorem dX9_takesNumber_104 : decode cX9_takesNumber 104 = .ok (.ireturn, 1) := by decide +kernel
theorem dX9_put_0 : decode cX9_put 0 = .ok (.aload_n 0, 1) := by decide +kernel
theorem dX9_put_1 : decode cX9_put 1 = .ok (.getfield 74, 3) := by decide +kernel
theorem dX9_put_4 : decode cX9_put 4 = .ok (.aload_n 0, 1) := by decide +kernel
theorem dX9_put_5 : decode cX9_put 5 = .ok (.getfield 77, 3) := by decide +kernel
theorem dX9_put_8 : decode cX9_put 8 = .ok (.iload_n 1, 1) := by decide +kernel
theorem dX9_put_9 : decode cX9_put 9 = .ok (.iastore, 1) := by decide +kernel
theorem dX9_put_10 : decode cX9_put 10 = .ok (.aload_n 0, 1) := by decide +kernel
theorem dX9_put_11 : decode cX9_put 11 = .ok (.dup, 1) := by decide +kernel
theorem dX9_put_12 : decode cX9_put 12 = .ok (.getfield 77, 3) := by decide +kernel
theorem dX9_put_15 : decode cX9_put 15 = .ok (.iconst 1, 1) := by decide +kernel
theorem dX9_put_16 : decode cX9_put 16 = .ok (.iadd, 1) := by decide +kernel
theorem dX9_put_17 : decode cX9_put 17 = .ok (.putfield 77, 3) := by decide +kernel
theorem dX9_put_20 : decode cX9_put 20 = .ok (.return_, 1) := by decide +kernel
theorem dX9_whole_0 : decode cX9_whole 0 = .ok (.aload_n 0, 1) := by decide +kernel
theorem dX9_whole_1 : decode cX9_whole 1 = .ok (.getfield 86, 3) := by decide +kernel
theorem dX9_whole_4 : decode cX9_whole 4 = .ok (.ifCond .le 48, 3) := by decide +kernel
theorem dX9_whole_7 : decode cX9_whole 7 = .ok (.aload_n 0, 1) := by decide +kernel
theorem dX9_whole_8 : decode cX9_whole 8 = .ok (.getfield 83, 3) := by decide +kernel
theorem dX9_whole_11 : decode cX9_whole 11 = .ok (.aload_n 0, 1) := by decide +kernel
theorem dX9_whole_12 : decode cX9_whole 12 = .ok (.getfield 86, 3) := by decide +kernel
theorem dX9_whole_15 : decode cX9_whole 15 = .ok (.iconst 1, 1) := by decide +kernel
theorem dX9_whole_16 : decode cX9_whole 16 = .ok (.isub, 1) := by decide +kernel
theorem dX9_whole_17 : decode cX9_whole 17 = .ok (.iaload, 1) := by decide +kernel
theorem dX9_whole_18 : decode cX9_whole 18 = .ok (.bipush 33, 2) := by decide +kernel
theorem dX9_whole_20 : decode cX9_whole 20 = .ok (.if_icmp .ne 32, 3) := by decide +kernel
theorem dX9_whole_23 : decode cX9_whole 23 = .ok (.aload_n 0, 1) := by decide +kernel
theorem dX9_whole_24 : decode cX9_whole 24 = .ok (.bipush (-33), 2) := by decide +kernel
theorem dX9_whole_26 : decode cX9_whole 26 = .ok (.invokevirtual 181, 3) := by decide +kernel
theorem dX9_whole_29 : decode cX9_whole 29 = .ok (.aload_n 0, 1) := by decide +kernel
theorem dX9_whole_30 : decode cX9_whole 30 = .ok (.dup, 1) := by decide +kernel
theorem dX9_whole_31 : decode cX9_whole 31 = .ok (.getfield 86, 3) := by decide +kernel
theorem dX9_whole_34 : decode cX9_whole 34 = .ok (.iconst 1, 1) := by decide +kernel
theorem dX9_whole_35 : decode cX9_whole 35 = .ok (.isub, 1) := by decide +kernel
theorem dX9_whole_36 : decode cX9_whole 36 = .ok (.putfield 86, 3) := by decide +kernel
theorem dX9_whole_39 : decode cX9_whole 39 = .ok (.aload_n 0, 1) := by decide +kernel
theorem dX9_whole_40 : decode cX9_whole 40 = .ok (.dup, 1) := by decide +kernel
theorem dX9_whole_41 : decode cX9_whole 41 = .ok (.getfield 89, 3) := by decide +kernel
theorem dX9_whole_44 : decode cX9_whole 44 = .ok (.iconst 1, 1) := by decide +kernel
theorem dX9_whole_45 : decode cX9_whole 45 = .ok (.isub, 1) := by decide +kernel
theorem dX9_whole_46 : decode cX9_whole 46 = .ok (.putfield 89, 3) := by decide +kernel
theorem dX9_whole_49 : decode cX9_whole 49 = .ok (.goto (-49), 3) := by decide +kernel
theorem dX9_whole_52 : decode cX9_whole 52 = .ok (.return_, 1) := by decide +kernel
theorem dX9_settle_0 : decode cX9_settle 0 = .ok (.aload_n 0, 1) := by decide +kernel
theorem dX9_settle_1 : decode cX9_settle 1 = .ok (.getfield 86, 3) := by decide +kernel
theorem dX9_settle_4 : decode cX9_settle 4 = .ok (.ifCond .le 68, 3) := by decide +kernel
theorem dX9_settle_7 : decode cX9_settle 7 = .ok (.aload_n 0, 1) := by decide +kernel
theorem dX9_settle_8 : decode cX9_settle 8 = .ok (.getfield 83, 3) := by decide +kernel
theorem dX9_settle_11 : decode cX9_settle 11 = .ok (.aload_n 0, 1) := by decide +kernel
theorem dX9_settle_12 : decode cX9_settle 12 = .ok (.getfield 86, 3) := by decide +kernel
theorem dX9_settle_15 : decode cX9_settle 15 = .ok (.iconst 1, 1) := by decide +kernel
theorem dX9_settle_16 : decode cX9_settle 16 = .ok (.isub, 1) := by decide +kernel
theorem dX9_settle_17 : decode cX9_settle 17 = .ok (.iaload, 1) := by decide +kernel
theorem dX9_settle_18 : decode cX9_settle 18 = .ok (.bipush 38, 2) := by decide +kernel
theorem dX9_settle_20 : decode cX9_settle 20 = .ok (.if_icmp .eq 25, 3) := by decide +kernel
theorem dX9_settle_23 : decode cX9_settle 23 = .ok (.aload_n 0, 1) := by decide +kernel
theorem dX9_settle_24 : decode cX9_settle 24 = .ok (.getfield 83, 3) := by decide +kernel
theorem dX9_settle_27 : decode cX9_settle 27 = .ok (.aload_n 0, 1) := by decide +kernel
theorem dX9_settle_28 : decode cX9_settle 28 = .ok (.getfield 86, 3) := by decide +kernel
theorem dX9_settle_31 : decode cX9_settle 31 = .ok (.iconst 1, 1) := by decide +kernel
theorem dX9_settle_32 : decode cX9_settle 32 = .ok (.isub, 1) := by decide +kernel
theorem dX9_settle_33 : decode cX9_settle 33 = .ok (.iaload, 1) := by decide +kernel
theorem dX9_settle_34 : decode cX9_settle 34 = .ok (.bipush 124, 2) := by decide +kernel
theorem dX9_settle_36 : decode cX9_settle 36 = .ok (.if_icmp .ne 36, 3) := by decide +kernel
theorem dX9_settle_39 : decode cX9_settle 39 = .ok (.iload_n 1, 1) := by decide +kernel
theorem dX9_settle_40 : decode cX9_settle 40 = .ok (.bipush 38, 2) := by decide +kernel
theorem dX9_settle_42 : decode cX9_settle 42 = .ok (.if_icmp .eq 30, 3) := by decide +kernel
theorem dX9_settle_45 : decode cX9_settle 45 = .ok (.aload_n 0, 1) := by decide +kernel
theorem dX9_settle_46 : decode cX9_settle 46 = .ok (.dup, 1) := by decide +kernel
theorem dX9_settle_47 : decode cX9_settle 47 = .ok (.getfield 86, 3) := by decide +kernel
theorem dX9_settle_50 : decode cX9_settle 50 = .ok (.iconst 1, 1) := by decide +kernel
theorem dX9_settle_51 : decode cX9_settle 51 = .ok (.isub, 1) := by decide +kernel
theorem dX9_settle_52 : decode cX9_settle 52 = .ok (.putfield 86, 3) := by decide +kernel
theorem dX9_settle_55 : decode cX9_settle 55 = .ok (.aload_n 0, 1) := by decide +kernel
theorem dX9_settle_56 : decode cX9_settle 56 = .ok (.aload_n 0, 1) := by decide +kernel
theorem dX9_settle_57 : decode cX9_settle 57 = .ok (.getfield 83, 3) := by decide +kernel
theorem dX9_settle_60 : decode cX9_settle 60 = .ok (.aload_n 0, 1) := by decide +kernel
theorem dX9_settle_61 : decode cX9_settle 61 = .ok (.getfield 86, 3) := by decide +kernel
theorem dX9_settle_64 : decode cX9_settle 64 = .ok (.iaload, 1) := by decide +kernel
theorem dX9_settle_65 : decode cX9_settle 65 = .ok (.ineg, 1) := by decide +kernel
theorem dX9_settle_66 : decode cX9_settle 66 = .ok (.invokevirtual 181, 3) := by decide +kernel
theorem dX9_settle_69 : decode cX9_settle 69 = .ok (.goto (-69), 3) := by decide +kernel
theorem dX9_settle_72 : decode cX9_settle 72 = .ok (.return_, 1) := by decide +kernel
theorem dX9_letter_0 : decode cX9_letter 0 = .ok (.iload_n 1, 1) := by decide +kernel
theorem dX9_letter_1 : decode cX9_letter 1 = .ok (.tableswitch 139 97 121 #[115, 130, 139, 139, 139, 139, 139, 133, 139, 139, 139, 139, 139, 139, 119, 139, 136, 139, 123, 139, 125, 139, 121, 127, 117], 115) := by decide +kernel
theorem dX9_letter_116 : decode cX9_letter 116 = .ok (.iconst 0, 1) := by decide +kernel
theorem dX9_letter_117 : decode cX9_letter 117 = .ok (.ireturn, 1) := by decide +kernel
theorem dX9_letter_118 : decode cX9_letter 118 = .ok (.iconst 1, 1) := by decide +kernel
theorem dX9_letter_119 : decode cX9_letter 119 = .ok (.ireturn, 1) := by decide +kernel
theorem dX9_letter_120 : decode cX9_letter 120 = .ok (.iconst 2, 1) := by decide +kernel
theorem dX9_letter_121 : decode cX9_letter 121 = .ok (.ireturn, 1) := by decide +kernel
theorem dX9_letter_122 : decode cX9_letter 122 = .ok (.iconst 3, 1) := by decide +kernel
theorem dX9_letter_123 : decode cX9_letter 123 = .ok (.ireturn, 1) := by decide +kernel
theorem dX9_letter_124 : decode cX9_letter 124 = .ok (.iconst 4, 1) := by decide +kernel
theorem dX9_letter_125 : decode cX9_letter 125 = .ok (.ireturn, 1) := by decide +kernel
theorem dX9_letter_126 : decode cX9_letter 126 = .ok (.iconst 5, 1) := by decide +kernel
theorem dX9_letter_127 : decode cX9_letter 127 = .ok (.ireturn, 1) := by decide +kernel
theorem dX9_letter_128 : decode cX9_letter 128 = .ok (.bipush 6, 2) := by decide +kernel
theorem dX9_letter_130 : decode cX9_letter 130 = .ok (.ireturn, 1) := by decide +kernel
theorem dX9_letter_131 : decode cX9_letter 131 = .ok (.bipush 7, 2) := by decide +kernel
theorem dX9_letter_133 : decode cX9_letter 133 = .ok (.ireturn, 1) := by decide +kernel
theorem dX9_letter_134 : decode cX9_letter 134 = .ok (.bipush 8, 2) := by decide +kernel
theorem dX9_letter_136 : decode cX9_letter 136 = .ok (.ireturn, 1) := by decide +kernel
theorem dX9_letter_137 : decode cX9_letter 137 = .ok (.bipush 9, 2) := by decide +kernel
theorem dX9_letter_139 : decode cX9_letter 139 = .ok (.ireturn, 1) := by decide +kernel
theorem dX9_letter_140 : decode cX9_letter 140 = .ok (.iconst (-1), 1) := by decide +kernel
theorem dX9_letter_141 : decode cX9_letter 141 = .ok (.ireturn, 1) := by decide +kernel
theorem dX9_takesTest_0 : decode cX9_takesTest 0 = .ok (.aload_n 0, 1) := by decide +kernel
theorem dX9_takesTest_1 : decode cX9_takesTest 1 = .ok (.aload_n 0, 1) := by decide +kernel
theorem dX9_takesTest_2 : decode cX9_takesTest 2 = .ok (.invokevirtual 170, 3) := by decide +kernel
theorem dX9_takesTest_5 : decode cX9_takesTest 5 = .ok (.invokevirtual 185, 3) := by decide +kernel
theorem dX9_takesTest_8 : decode cX9_takesTest 8 = .ok (.istore_n 1, 1) := by decide +kernel
theorem dX9_takesTest_9 : decode cX9_takesTest 9 = .ok (.iload_n 1, 1) := by decide +kernel
theorem dX9_takesTest_10 : decode cX9_takesTest 10 = .ok (.ifCond .ge 5, 3) := by decide +kernel
theorem dX9_takesTest_13 : decode cX9_takesTest 13 = .ok (.iconst 0, 1) := by decide +kernel
theorem dX9_takesTest_14 : decode cX9_takesTest 14 = .ok (.ireturn, 1) := by decide +kernel
theorem dX9_takesTest_15 : decode cX9_takesTest 15 = .ok (.aload_n 0, 1) := by decide +kernel
theorem dX9_takesTest_16 : decode cX9_takesTest 16 = .ok (.dup, 1) := by decide +kernel
theorem dX9_takesTest_17 : decode cX9_takesTest 17 = .ok (.getfield 38, 3) := by decide +kernel
theorem dX9_takesTest_20 : decode cX9_takesTest 20 = .ok (.iconst 1, 1) := by decide +kernel
theorem dX9_takesTest_21 : decode cX9_takesTest 21 = .ok (.iadd, 1) := by decide +kernel
theorem dX9_takesTest_22 : decode cX9_takesTest 22 = .ok (.putfield 38, 3) := by decide +kernel
theorem dX9_takesTest_25 : decode cX9_takesTest 25 = .ok (.aload_n 0, 1) := by decide +kernel
theorem dX9_takesTest_26 : decode cX9_takesTest 26 = .ok (.invokevirtual 170, 3) := by decide +kernel
theorem dX9_takesTest_29 : decode cX9_takesTest 29 = .ok (.istore_n 2, 1) := by decide +kernel
theorem dX9_takesTest_30 : decode cX9_takesTest 30 = .ok (.aload_n 0, 1) := by decide +kernel
theorem dX9_takesTest_31 : decode cX9_takesTest 31 = .ok (.iload_n 2, 1) := by decide +kernel
theorem dX9_takesTest_32 : decode cX9_takesTest 32 = .ok (.bipush 60, 2) := by decide +kernel
theorem dX9_takesTest_34 : decode cX9_takesTest 34 = .ok (.bipush 62, 2) := by decide +kernel
theorem dX9_takesTest_36 : decode cX9_takesTest 36 = .ok (.invokevirtual 144, 3) := by decide +kernel
theorem dX9_takesTest_39 : decode cX9_takesTest 39 = .ok (.ifCond .ne 5, 3) := by decide +kernel
theorem dX9_takesTest_42 : decode cX9_takesTest 42 = .ok (.iconst 0, 1) := by decide +kernel
theorem dX9_takesTest_43 : decode cX9_takesTest 43 = .ok (.ireturn, 1) := by decide +kernel
theorem dX9_takesTest_44 : decode cX9_takesTest 44 = .ok (.aload_n 0, 1) := by decide +kernel
theorem dX9_takesTest_45 : decode cX9_takesTest 45 = .ok (.dup, 1) := by decide +kernel
theorem dX9_takesTest_46 : decode cX9_takesTest 46 = .ok (.getfield 38, 3) := by decide +kernel
theorem dX9_takesTest_49 : decode cX9_takesTest 49 = .ok (.iconst 1, 1) := by decide +kernel
theorem dX9_takesTest_50 : decode cX9_takesTest 50 = .ok (.iadd, 1) := by decide +kernel
theorem dX9_takesTest_51 : decode cX9_takesTest 51 = .ok (.putfield 38, 3) := by decide +kernel
theorem dX9_takesTest_54 : decode cX9_takesTest 54 = .ok (.aload_n 0, 1) := by decide +kernel
theorem dX9_takesTest_55 : decode cX9_takesTest 55 = .ok (.iconst 0, 1) := by decide +kernel
theorem dX9_takesTest_56 : decode cX9_takesTest 56 = .ok (.invokevirtual 188, 3) := by decide +kernel
theorem dX9_takesTest_59 : decode cX9_takesTest 59 = .ok (.ifCond .ne 5, 3) := by decide +kernel
theorem dX9_takesTest_62 : decode cX9_takesTest 62 = .ok (.iconst 0, 1) := by decide +kernel
theorem dX9_takesTest_63 : decode cX9_takesTest 63 = .ok (.ireturn, 1) := by decide +kernel
theorem dX9_takesTest_64 : decode cX9_takesTest 64 = .ok (.aload_n 0, 1) := by decide +kernel
theorem dX9_takesTest_65 : decode cX9_takesTest 65 = .ok (.sipush 10000, 3) := by decide +kernel
theorem dX9_takesTest_68 : decode cX9_takesTest 68 = .ok (.iload_n 1, 1) := by decide +kernel
theorem dX9_takesTest_69 : decode cX9_takesTest 69 = .ok (.imul, 1) := by decide +kernel
theorem dX9_takesTest_70 : decode cX9_takesTest 70 = .ok (.bipush 100, 2) := by decide +kernel
theorem dX9_takesTest_72 : decode cX9_takesTest 72 = .ok (.iload_n 2, 1) := by decide +kernel
theorem dX9_takesTest_73 : decode cX9_takesTest 73 = .ok (.imul, 1) := by decide +kernel
theorem dX9_takesTest_74 : decode cX9_takesTest 74 = .ok (.iadd, 1) := by decide +kernel
theorem dX9_takesTest_75 : decode cX9_takesTest 75 = .ok (.aload_n 0, 1) := by decide +kernel
theorem dX9_takesTest_76 : decode cX9_takesTest 76 = .ok (.getfield 80, 3) := by decide +kernel
theorem dX9_takesTest_79 : decode cX9_takesTest 79 = .ok (.iadd, 1) := by decide +kernel
theorem dX9_takesTest_80 : decode cX9_takesTest 80 = .ok (.invokevirtual 181, 3) := by decide +kernel
theorem dX9_takesTest_83 : decode cX9_takesTest 83 = .ok (.aload_n 0, 1) := by decide +kernel
theorem dX9_takesTest_84 : decode cX9_takesTest 84 = .ok (.invokevirtual 192, 3) := by decide +kernel
theorem dX9_takesTest_87 : decode cX9_takesTest 87 = .ok (.iconst 1, 1) := by decide +kernel
theorem dX9_takesTest_88 : decode cX9_takesTest 88 = .ok (.ireturn, 1) := by decide +kernel
theorem dX9_takesE_0 : decode cX9_takesE 0 = .ok (.aload_n 0, 1) := by decide +kernel
theorem dX9_takesE_1 : decode cX9_takesE 1 = .ok (.iconst 0, 1) := by decide +kernel
theorem dX9_takesE_2 : decode cX9_takesE 2 = .ok (.putfield 86, 3) := by decide +kernel
theorem dX9_takesE_5 : decode cX9_takesE 5 = .ok (.aload_n 0, 1) := by decide +kernel
theorem dX9_takesE_6 : decode cX9_takesE 6 = .ok (.iconst 0, 1) := by decide +kernel
theorem dX9_takesE_7 : decode cX9_takesE 7 = .ok (.putfield 89, 3) := by decide +kernel
theorem dX9_takesE_10 : decode cX9_takesE 10 = .ok (.aload_n 0, 1) := by decide +kernel
theorem dX9_takesE_11 : decode cX9_takesE 11 = .ok (.getfield 53, 3) := by decide +kernel
theorem dX9_takesE_14 : decode cX9_takesE 14 = .ok (.iload_n 1, 1) := by decide +kernel
theorem dX9_takesE_15 : decode cX9_takesE 15 = .ok (.aload_n 0, 1) := by decide +kernel
theorem dX9_takesE_16 : decode cX9_takesE 16 = .ok (.getfield 77, 3) := by decide +kernel
theorem dX9_takesE_19 : decode cX9_takesE 19 = .ok (.iastore, 1) := by decide +kernel
theorem dX9_takesE_20 : decode cX9_takesE 20 = .ok (.iconst 1, 1) := by decide +kernel
theorem dX9_takesE_21 : decode cX9_takesE 21 = .ok (.istore_n 2, 1) := by decide +kernel
theorem dX9_takesE_22 : decode cX9_takesE 22 = .ok (.aload_n 0, 1) := by decide +kernel
theorem dX9_takesE_23 : decode cX9_takesE 23 = .ok (.invokevirtual 170, 3) := by decide +kernel
theorem dX9_takesE_26 : decode cX9_takesE 26 = .ok (.istore_n 3, 1) := by decide +kernel
theorem dX9_takesE_27 : decode cX9_takesE 27 = .ok (.iload_n 2, 1) := by decide +kernel
theorem dX9_takesE_28 : decode cX9_takesE 28 = .ok (.ifCond .eq 82, 3) := by decide +kernel
theorem dX9_takesE_31 : decode cX9_takesE 31 = .ok (.iload_n 3, 1) := by decide +kernel
theorem dX9_takesE_32 : decode cX9_takesE 32 = .ok (.bipush 33, 2) := by decide +kernel
theorem dX9_takesE_34 : decode cX9_takesE 34 = .ok (.if_icmp .eq 9, 3) := by decide +kernel
theorem dX9_takesE_37 : decode cX9_takesE 37 = .ok (.iload_n 3, 1) := by decide +kernel
theorem dX9_takesE_38 : decode cX9_takesE 38 = .ok (.bipush 40, 2) := by decide +kernel
theorem dX9_takesE_40 : decode cX9_takesE 40 = .ok (.if_icmp .ne 56, 3) := by decide +kernel
theorem dX9_takesE_43 : decode cX9_takesE 43 = .ok (.aload_n 0, 1) := by decide +kernel
theorem dX9_takesE_44 : decode cX9_takesE 44 = .ok (.getfield 89, 3) := by decide +kernel
theorem dX9_takesE_47 : decode cX9_takesE 47 = .ok (.iconst 4, 1) := by decide +kernel
theorem dX9_takesE_48 : decode cX9_takesE 48 = .ok (.if_icmp .ne 5, 3) := by decide +kernel
theorem dX9_takesE_51 : decode cX9_takesE 51 = .ok (.iconst 0, 1) := by decide +kernel
theorem dX9_takesE_52 : decode cX9_takesE 52 = .ok (.ireturn, 1) := by decide +kernel
theorem dX9_takesE_53 : decode cX9_takesE 53 = .ok (.aload_n 0, 1) := by decide +kernel
theorem dX9_takesE_54 : decode cX9_takesE 54 = .ok (.dup, 1) := by decide +kernel
theorem dX9_takesE_55 : decode cX9_takesE 55 = .ok (.getfield 89, 3) := by decide +kernel
theorem dX9_takesE_58 : decode cX9_takesE 58 = .ok (.iconst 1, 1) := by decide +kernel
theorem dX9_takesE_59 : decode cX9_takesE 59 = .ok (.iadd, 1) := by decide +kernel
theorem dX9_takesE_60 : decode cX9_takesE 60 = .ok (.putfield 89, 3) := by decide +kernel
theorem dX9_takesE_63 : decode cX9_takesE 63 = .ok (.aload_n 0, 1) := by decide +kernel
theorem dX9_takesE_64 : decode cX9_takesE 64 = .ok (.getfield 83, 3) := by decide +kernel
theorem dX9_takesE_67 : decode cX9_takesE 67 = .ok (.aload_n 0, 1) := by decide +kernel
theorem dX9_takesE_68 : decode cX9_takesE 68 = .ok (.getfield 86, 3) := by decide +kernel
theorem dX9_takesE_71 : decode cX9_takesE 71 = .ok (.iload_n 3, 1) := by decide +kernel
theorem dX9_takesE_72 : decode cX9_takesE 72 = .ok (.iastore, 1) := by decide +kernel
theorem dX9_takesE_73 : decode cX9_takesE 73 = .ok (.aload_n 0, 1) := by decide +kernel
theorem dX9_takesE_74 : decode cX9_takesE 74 = .ok (.dup, 1) := by decide +kernel
theorem dX9_takesE_75 : decode cX9_takesE 75 = .ok (.getfield 86, 3) := by decide +kernel
theorem dX9_takesE_78 : decode cX9_takesE 78 = .ok (.iconst 1, 1) := by decide +kernel
theorem dX9_takesE_79 : decode cX9_takesE 79 = .ok (.iadd, 1) := by decide +kernel
theorem dX9_takesE_80 : decode cX9_takesE 80 = .ok (.putfield 86, 3) := by decide +kernel
theorem dX9_takesE_83 : decode cX9_takesE 83 = .ok (.aload_n 0, 1) := by decide +kernel
theorem dX9_takesE_84 : decode cX9_takesE 84 = .ok (.dup, 1) := by decide +kernel
theorem dX9_takesE_85 : decode cX9_takesE 85 = .ok (.getfield 38, 3) := by decide +kernel
theorem dX9_takesE_88 : decode cX9_takesE 88 = .ok (.iconst 1, 1) := by decide +kernel
theorem dX9_takesE_89 : decode cX9_takesE 89 = .ok (.iadd, 1) := by decide +kernel
theorem dX9_takesE_90 : decode cX9_takesE 90 = .ok (.putfield 38, 3) := by decide +kernel
theorem dX9_takesE_93 : decode cX9_takesE 93 = .ok (.goto (-71), 3) := by decide +kernel
theorem dX9_takesE_96 : decode cX9_takesE 96 = .ok (.aload_n 0, 1) := by decide +kernel
theorem dX9_takesE_97 : decode cX9_takesE 97 = .ok (.invokevirtual 195, 3) := by decide +kernel
theorem dX9_takesE_100 : decode cX9_takesE 100 = .ok (.ifCond .eq 8, 3) := by decide +kernel
theorem dX9_takesE_103 : decode cX9_takesE 103 = .ok (.iconst 0, 1) := by decide +kernel
theorem dX9_takesE_104 : decode cX9_takesE 104 = .ok (.istore_n 2, 1) := by decide +kernel
theorem dX9_takesE_105 : decode cX9_takesE 105 = .ok (.goto (-83), 3) := by decide +kernel
theorem dX9_takesE_108 : decode cX9_takesE 108 = .ok (.iconst 0, 1) := by decide +kernel
theorem dX9_takesE_109 : decode cX9_takesE 109 = .ok (.ireturn, 1) := by decide +kernel
theorem dX9_takesE_110 : decode cX9_takesE 110 = .ok (.iload_n 3, 1) := by decide +kernel
theorem dX9_takesE_111 : decode cX9_takesE 111 = .ok (.bipush 38, 2) := by decide +kernel
theorem dX9_takesE_113 : decode cX9_takesE 113 = .ok (.if_icmp .eq 9, 3) := by decide +kernel
theorem dX9_takesE_116 : decode cX9_takesE 116 = .ok (.iload_n 3, 1) := by decide +kernel
theorem dX9_takesE_117 : decode cX9_takesE 117 = .ok (.bipush 124, 2) := by decide +kernel
theorem dX9_takesE_119 : decode cX9_takesE 119 = .ok (.if_icmp .ne 43, 3) := by decide +kernel
theorem dX9_takesE_122 : decode cX9_takesE 122 = .ok (.aload_n 0, 1) := by decide +kernel
theorem dX9_takesE_123 : decode cX9_takesE 123 = .ok (.iload_n 3, 1) := by decide +kernel
theorem dX9_takesE_124 : decode cX9_takesE 124 = .ok (.invokevirtual 198, 3) := by decide +kernel
theorem dX9_takesE_127 : decode cX9_takesE 127 = .ok (.aload_n 0, 1) := by decide +kernel
theorem dX9_takesE_128 : decode cX9_takesE 128 = .ok (.getfield 83, 3) := by decide +kernel
theorem dX9_takesE_131 : decode cX9_takesE 131 = .ok (.aload_n 0, 1) := by decide +kernel
theorem dX9_takesE_132 : decode cX9_takesE 132 = .ok (.getfield 86, 3) := by decide +kernel
theorem dX9_takesE_135 : decode cX9_takesE 135 = .ok (.iload_n 3, 1) := by decide +kernel
theorem dX9_takesE_136 : decode cX9_takesE 136 = .ok (.iastore, 1) := by decide +kernel
theorem dX9_takesE_137 : decode cX9_takesE 137 = .ok (.aload_n 0, 1) := by decide +kernel
theorem dX9_takesE_138 : decode cX9_takesE 138 = .ok (.dup, 1) := by decide +kernel
theorem dX9_takesE_139 : decode cX9_takesE 139 = .ok (.getfield 86, 3) := by decide +kernel
theorem dX9_takesE_142 : decode cX9_takesE 142 = .ok (.iconst 1, 1) := by decide +kernel
theorem dX9_takesE_143 : decode cX9_takesE 143 = .ok (.iadd, 1) := by decide +kernel
theorem dX9_takesE_144 : decode cX9_takesE 144 = .ok (.putfield 86, 3) := by decide +kernel
theorem dX9_takesE_147 : decode cX9_takesE 147 = .ok (.iconst 1, 1) := by decide +kernel
theorem dX9_takesE_148 : decode cX9_takesE 148 = .ok (.istore_n 2, 1) := by decide +kernel
theorem dX9_takesE_149 : decode cX9_takesE 149 = .ok (.aload_n 0, 1) := by decide +kernel
theorem dX9_takesE_150 : decode cX9_takesE 150 = .ok (.dup, 1) := by decide +kernel
theorem dX9_takesE_151 : decode cX9_takesE 151 = .ok (.getfield 38, 3) := by decide +kernel
theorem dX9_takesE_154 : decode cX9_takesE 154 = .ok (.iconst 1, 1) := by decide +kernel
theorem dX9_takesE_155 : decode cX9_takesE 155 = .ok (.iadd, 1) := by decide +kernel
theorem dX9_takesE_156 : decode cX9_takesE 156 = .ok (.putfield 38, 3) := by decide +kernel
theorem dX9_takesE_159 : decode cX9_takesE 159 = .ok (.goto (-137), 3) := by decide +kernel
theorem dX9_takesE_162 : decode cX9_takesE 162 = .ok (.aload_n 0, 1) := by decide +kernel
theorem dX9_takesE_163 : decode cX9_takesE 163 = .ok (.bipush 124, 2) := by decide +kernel
theorem dX9_takesE_165 : decode cX9_takesE 165 = .ok (.invokevirtual 198, 3) := by decide +kernel
theorem dX9_takesE_168 : decode cX9_takesE 168 = .ok (.aload_n 0, 1) := by decide +kernel
theorem dX9_takesE_169 : decode cX9_takesE 169 = .ok (.getfield 56, 3) := by decide +kernel
theorem dX9_takesE_172 : decode cX9_takesE 172 = .ok (.iload_n 1, 1) := by decide +kernel
theorem dX9_takesE_173 : decode cX9_takesE 173 = .ok (.aload_n 0, 1) := by decide +kernel
theorem dX9_takesE_174 : decode cX9_takesE 174 = .ok (.getfield 77, 3) := by decide +kernel
theorem dX9_takesE_177 : decode cX9_takesE 177 = .ok (.iastore, 1) := by decide +kernel
theorem dX9_takesE_178 : decode cX9_takesE 178 = .ok (.aload_n 0, 1) := by decide +kernel
theorem dX9_takesE_179 : decode cX9_takesE 179 = .ok (.getfield 86, 3) := by decide +kernel
theorem dX9_takesE_182 : decode cX9_takesE 182 = .ok (.ifCond .ne 5, 3) := by decide +kernel
theorem dX9_takesE_185 : decode cX9_takesE 185 = .ok (.iconst 1, 1) := by decide +kernel
theorem dX9_takesE_186 : decode cX9_takesE 186 = .ok (.ireturn, 1) := by decide +kernel
theorem dX9_takesE_187 : decode cX9_takesE 187 = .ok (.iload_n 3, 1) := by decide +kernel
theorem dX9_takesE_188 : decode cX9_takesE 188 = .ok (.bipush 41, 2) := by decide +kernel
theorem dX9_takesE_190 : decode cX9_takesE 190 = .ok (.if_icmp .eq 5, 3) := by decide +kernel
theorem dX9_takesE_193 : decode cX9_takesE 193 = .ok (.iconst 0, 1) := by decide +kernel
theorem dX9_takesE_194 : decode cX9_takesE 194 = .ok (.ireturn, 1) := by decide +kernel
theorem dX9_takesE_195 : decode cX9_takesE 195 = .ok (.aload_n 0, 1) := by decide +kernel
theorem dX9_takesE_196 : decode cX9_takesE 196 = .ok (.dup, 1) := by decide +kernel
theorem dX9_takesE_197 : decode cX9_takesE 197 = .ok (.getfield 86, 3) := by decide +kernel
theorem dX9_takesE_200 : decode cX9_takesE 200 = .ok (.iconst 1, 1) := by decide +kernel
theorem dX9_takesE_201 : decode cX9_takesE 201 = .ok (.isub, 1) := by decide +kernel
theorem dX9_takesE_202 : decode cX9_takesE 202 = .ok (.putfield 86, 3) := by decide +kernel
theorem dX9_takesE_205 : decode cX9_takesE 205 = .ok (.aload_n 0, 1) := by decide +kernel
theorem dX9_takesE_206 : decode cX9_takesE 206 = .ok (.dup, 1) := by decide +kernel
theorem dX9_takesE_207 : decode cX9_takesE 207 = .ok (.getfield 89, 3) := by decide +kernel
theorem dX9_takesE_210 : decode cX9_takesE 210 = .ok (.iconst 1, 1) := by decide +kernel
theorem dX9_takesE_211 : decode cX9_takesE 211 = .ok (.isub, 1) := by decide +kernel
theorem dX9_takesE_212 : decode cX9_takesE 212 = .ok (.putfield 89, 3) := by decide +kernel
theorem dX9_takesE_215 : decode cX9_takesE 215 = .ok (.aload_n 0, 1) := by decide +kernel
theorem dX9_takesE_216 : decode cX9_takesE 216 = .ok (.dup, 1) := by decide +kernel
theorem dX9_takesE_217 : decode cX9_takesE 217 = .ok (.getfield 38, 3) := by decide +kernel
theorem dX9_takesE_220 : decode cX9_takesE 220 = .ok (.iconst 1, 1) := by decide +kernel
theorem dX9_takesE_221 : decode cX9_takesE 221 = .ok (.iadd, 1) := by decide +kernel
theorem dX9_takesE_222 : decode cX9_takesE 222 = .ok (.putfield 38, 3) := by decide +kernel
theorem dX9_takesE_225 : decode cX9_takesE 225 = .ok (.aload_n 0, 1) := by decide +kernel
theorem dX9_takesE_226 : decode cX9_takesE 226 = .ok (.invokevirtual 192, 3) := by decide +kernel
theorem dX9_takesE_229 : decode cX9_takesE 229 = .ok (.goto (-207), 3) := by decide +kernel
theorem dX9_takesOath_0 : decode cX9_takesOath 0 = .ok (.aload_n 0, 1) := by decide +kernel
theorem dX9_takesOath_1 : decode cX9_takesOath 1 = .ok (.ldc 201, 2) := by decide +kernel
theorem dX9_takesOath_3 : decode cX9_takesOath 3 = .ok (.iconst 4, 1) := by decide +kernel
theorem dX9_takesOath_4 : decode cX9_takesOath 4 = .ok (.invokevirtual 202, 3) := by decide +kernel
theorem dX9_takesOath_7 : decode cX9_takesOath 7 = .ok (.ifCond .ne 5, 3) := by decide +kernel
theorem dX9_takesOath_10 : decode cX9_takesOath 10 = .ok (.iconst 0, 1) := by decide +kernel
theorem dX9_takesOath_11 : decode cX9_takesOath 11 = .ok (.ireturn, 1) := by decide +kernel
theorem dX9_takesOath_12 : decode cX9_takesOath 12 = .ok (.aload_n 0, 1) := by decide +kernel
theorem dX9_takesOath_13 : decode cX9_takesOath 13 = .ok (.invokevirtual 170, 3) := by decide +kernel
theorem dX9_takesOath_16 : decode cX9_takesOath 16 = .ok (.istore_n 2, 1) := by decide +kernel
theorem dX9_takesOath_17 : decode cX9_takesOath 17 = .ok (.aload_n 0, 1) := by decide +kernel
theorem dX9_takesOath_18 : decode cX9_takesOath 18 = .ok (.getfield 50, 3) := by decide +kernel
theorem dX9_takesOath_21 : decode cX9_takesOath 21 = .ok (.iload_n 1, 1) := by decide +kernel
theorem dX9_takesOath_22 : decode cX9_takesOath 22 = .ok (.iload_n 2, 1) := by decide +kernel
theorem dX9_takesOath_23 : decode cX9_takesOath 23 = .ok (.bipush 112, 2) := by decide +kernel
theorem dX9_takesOath_25 : decode cX9_takesOath 25 = .ok (.if_icmp .ne 7, 3) := by decide +kernel
theorem dX9_takesOath_28 : decode cX9_takesOath 28 = .ok (.iconst 1, 1) := by decide +kernel
theorem dX9_takesOath_29 : decode cX9_takesOath 29 = .ok (.goto 55, 3) := by decide +kernel
theorem dX9_takesOath_32 : decode cX9_takesOath 32 = .ok (.iload_n 2, 1) := by decide +kernel
theorem dX9_takesOath_33 : decode cX9_takesOath 33 = .ok (.bipush 111, 2) := by decide +kernel
theorem dX9_takesOath_35 : decode cX9_takesOath 35 = .ok (.if_icmp .ne 7, 3) := by decide +kernel
theorem dX9_takesOath_38 : decode cX9_takesOath 38 = .ok (.iconst 2, 1) := by decide +kernel
theorem dX9_takesOath_39 : decode cX9_takesOath 39 = .ok (.goto 45, 3) := by decide +kernel
theorem dX9_takesOath_42 : decode cX9_takesOath 42 = .ok (.iload_n 2, 1) := by decide +kernel
theorem dX9_takesOath_43 : decode cX9_takesOath 43 = .ok (.bipush 103, 2) := by decide +kernel
theorem dX9_takesOath_45 : decode cX9_takesOath 45 = .ok (.if_icmp .ne 7, 3) := by decide +kernel
theorem dX9_takesOath_48 : decode cX9_takesOath 48 = .ok (.iconst 3, 1) := by decide +kernel
theorem dX9_takesOath_49 : decode cX9_takesOath 49 = .ok (.goto 35, 3) := by decide +kernel
theorem dX9_takesOath_52 : decode cX9_takesOath 52 = .ok (.iload_n 2, 1) := by decide +kernel
theorem dX9_takesOath_53 : decode cX9_takesOath 53 = .ok (.bipush 104, 2) := by decide +kernel
theorem dX9_takesOath_55 : decode cX9_takesOath 55 = .ok (.if_icmp .ne 7, 3) := by decide +kernel
theorem dX9_takesOath_58 : decode cX9_takesOath 58 = .ok (.iconst 4, 1) := by decide +kernel
theorem dX9_takesOath_59 : decode cX9_takesOath 59 = .ok (.goto 25, 3) := by decide +kernel
theorem dX9_takesOath_62 : decode cX9_takesOath 62 = .ok (.iload_n 2, 1) := by decide +kernel
theorem dX9_takesOath_63 : decode cX9_takesOath 63 = .ok (.bipush 99, 2) := by decide +kernel
theorem dX9_takesOath_65 : decode cX9_takesOath 65 = .ok (.if_icmp .ne 7, 3) := by decide +kernel
theorem dX9_takesOath_68 : decode cX9_takesOath 68 = .ok (.iconst 5, 1) := by decide +kernel
theorem dX9_takesOath_69 : decode cX9_takesOath 69 = .ok (.goto 15, 3) := by decide +kernel
theorem dX9_takesOath_72 : decode cX9_takesOath 72 = .ok (.iload_n 2, 1) := by decide +kernel
theorem dX9_takesOath_73 : decode cX9_takesOath 73 = .ok (.bipush 116, 2) := by decide +kernel
theorem dX9_takesOath_75 : decode cX9_takesOath 75 = .ok (.if_icmp .ne 8, 3) := by decide +kernel
theorem dX9_takesOath_78 : decode cX9_takesOath 78 = .ok (.bipush 6, 2) := by decide +kernel
theorem dX9_takesOath_80 : decode cX9_takesOath 80 = .ok (.goto 4, 3) := by decide +kernel
theorem dX9_takesOath_83 : decode cX9_takesOath 83 = .ok (.iconst 0, 1) := by decide +kernel
theorem dX9_takesOath_84 : decode cX9_takesOath 84 = .ok (.iastore, 1) := by decide +kernel
theorem dX9_takesOath_85 : decode cX9_takesOath 85 = .ok (.aload_n 0, 1) := by decide +kernel
theorem dX9_takesOath_86 : decode cX9_takesOath 86 = .ok (.getfield 50, 3) := by decide +kernel
theorem dX9_takesOath_89 : decode cX9_takesOath 89 = .ok (.iload_n 1, 1) := by decide +kernel
theorem dX9_takesOath_90 : decode cX9_takesOath 90 = .ok (.iaload, 1) := by decide +kernel
theorem dX9_takesOath_91 : decode cX9_takesOath 91 = .ok (.ifCond .ne 5, 3) := by decide +kernel
theorem dX9_takesOath_94 : decode cX9_takesOath 94 = .ok (.iconst 0, 1) := by decide +kernel
theorem dX9_takesOath_95 : decode cX9_takesOath 95 = .ok (.ireturn, 1) := by decide +kernel
theorem dX9_takesOath_96 : decode cX9_takesOath 96 = .ok (.aload_n 0, 1) := by decide +kernel
theorem dX9_takesOath_97 : decode cX9_takesOath 97 = .ok (.dup, 1) := by decide +kernel
theorem dX9_takesOath_98 : decode cX9_takesOath 98 = .ok (.getfield 38, 3) := by decide +kernel
theorem dX9_takesOath_101 : decode cX9_takesOath 101 = .ok (.iconst 1, 1) := by decide +kernel
theorem dX9_takesOath_102 : decode cX9_takesOath 102 = .ok (.iadd, 1) := by decide +kernel
theorem dX9_takesOath_103 : decode cX9_takesOath 103 = .ok (.putfield 38, 3) := by decide +kernel
theorem dX9_takesOath_106 : decode cX9_takesOath 106 = .ok (.aload_n 0, 1) := by decide +kernel
theorem dX9_takesOath_107 : decode cX9_takesOath 107 = .ok (.bipush 32, 2) := by decide +kernel
theorem dX9_takesOath_109 : decode cX9_takesOath 109 = .ok (.invokevirtual 174, 3) := by decide +kernel
theorem dX9_takesOath_112 : decode cX9_takesOath 112 = .ok (.ifCond .eq 15, 3) := by decide +kernel
theorem dX9_takesOath_115 : decode cX9_takesOath 115 = .ok (.aload_n 0, 1) := by decide +kernel
theorem dX9_takesOath_116 : decode cX9_takesOath 116 = .ok (.iload_n 1, 1) := by decide +kernel
theorem dX9_takesOath_117 : decode cX9_takesOath 117 = .ok (.invokevirtual 206, 3) := by decide +kernel
theorem dX9_takesOath_120 : decode cX9_takesOath 120 = .ok (.ifCond .eq 7, 3) := by decide +kernel
theorem dX9_takesOath_123 : decode cX9_takesOath 123 = .ok (.iconst 1, 1) := by decide +kernel
theorem dX9_takesOath_124 : decode cX9_takesOath 124 = .ok (.goto 4, 3) := by decide +kernel
theorem dX9_takesOath_127 : decode cX9_takesOath 127 = .ok (.iconst 0, 1) := by decide +kernel
theorem dX9_takesOath_128 : decode cX9_takesOath 128 = .ok (.ireturn, 1) := by decide +kernel
theorem dX9_takesLose_0 : decode cX9_takesLose 0 = .ok (.iload_n 2, 1) := by decide +kernel
theorem dX9_takesLose_1 : decode cX9_takesLose 1 = .ok (.ifCond .eq 16, 3) := by decide +kernel
theorem dX9_takesLose_4 : decode cX9_takesLose 4 = .ok (.aload_n 0, 1) := by decide +kernel
theorem dX9_takesLose_5 : decode cX9_takesLose 5 = .ok (.ldc 209, 2) := by decide +kernel
theorem dX9_takesLose_7 : decode cX9_takesLose 7 = .ok (.iconst 4, 1) := by decide +kernel
theorem dX9_takesLose_8 : decode cX9_takesLose 8 = .ok (.invokevirtual 202, 3) := by decide +kernel
theorem dX9_takesLose_11 : decode cX9_takesLose 11 = .ok (.ifCond .eq 24, 3) := by decide +kernel
theorem dX9_takesLose_14 : decode cX9_takesLose 14 = .ok (.goto 13, 3) := by decide +kernel
theorem dX9_takesLose_17 : decode cX9_takesLose 17 = .ok (.aload_n 0, 1) := by decide +kernel
theorem dX9_takesLose_18 : decode cX9_takesLose 18 = .ok (.ldc 210, 2) := by decide +kernel
theorem dX9_takesLose_20 : decode cX9_takesLose 20 = .ok (.iconst 4, 1) := by decide +kernel
theorem dX9_takesLose_21 : decode cX9_takesLose 21 = .ok (.invokevirtual 202, 3) := by decide +kernel
theorem dX9_takesLose_24 : decode cX9_takesLose 24 = .ok (.ifCond .eq 11, 3) := by decide +kernel
theorem dX9_takesLose_27 : decode cX9_takesLose 27 = .ok (.aload_n 0, 1) := by decide +kernel
theorem dX9_takesLose_28 : decode cX9_takesLose 28 = .ok (.iconst 0, 1) := by decide +kernel
theorem dX9_takesLose_29 : decode cX9_takesLose 29 = .ok (.invokevirtual 188, 3) := by decide +kernel
theorem dX9_takesLose_32 : decode cX9_takesLose 32 = .ok (.ifCond .ne 5, 3) := by decide +kernel
theorem dX9_takesLose_35 : decode cX9_takesLose 35 = .ok (.iconst 0, 1) := by decide +kernel
theorem dX9_takesLose_36 : decode cX9_takesLose 36 = .ok (.ireturn, 1) := by decide +kernel
theorem dX9_takesLose_37 : decode cX9_takesLose 37 = .ok (.aload_n 0, 1) := by decide +kernel
theorem dX9_takesLose_38 : decode cX9_takesLose 38 = .ok (.getfield 80, 3) := by decide +kernel
theorem dX9_takesLose_41 : decode cX9_takesLose 41 = .ok (.istore_n 3, 1) := by decide +kernel
theorem dX9_takesLose_42 : decode cX9_takesLose 42 = .ok (.aload_n 0, 1) := by decide +kernel
theorem dX9_takesLose_43 : decode cX9_takesLose 43 = .ok (.bipush 32, 2) := by decide +kernel
theorem dX9_takesLose_45 : decode cX9_takesLose 45 = .ok (.invokevirtual 174, 3) := by decide +kernel
theorem dX9_takesLose_48 : decode cX9_takesLose 48 = .ok (.ifCond .eq 11, 3) := by decide +kernel
theorem dX9_takesLose_51 : decode cX9_takesLose 51 = .ok (.aload_n 0, 1) := by decide +kernel
theorem dX9_takesLose_52 : decode cX9_takesLose 52 = .ok (.iconst 1, 1) := by decide +kernel
theorem dX9_takesLose_53 : decode cX9_takesLose 53 = .ok (.invokevirtual 188, 3) := by decide +kernel
theorem dX9_takesLose_56 : decode cX9_takesLose 56 = .ok (.ifCond .ne 5, 3) := by decide +kernel
theorem dX9_takesLose_59 : decode cX9_takesLose 59 = .ok (.iconst 0, 1) := by decide +kernel
theorem dX9_takesLose_60 : decode cX9_takesLose 60 = .ok (.ireturn, 1) := by decide +kernel
theorem dX9_takesLose_61 : decode cX9_takesLose 61 = .ok (.iload_n 2, 1) := by decide +kernel
theorem dX9_takesLose_62 : decode cX9_takesLose 62 = .ok (.ifCond .eq 23, 3) := by decide +kernel
theorem dX9_takesLose_65 : decode cX9_takesLose 65 = .ok (.aload_n 0, 1) := by decide +kernel
theorem dX9_takesLose_66 : decode cX9_takesLose 66 = .ok (.getfield 65, 3) := by decide +kernel
theorem dX9_takesLose_69 : decode cX9_takesLose 69 = .ok (.iload_n 1, 1) := by decide +kernel
theorem dX9_takesLose_70 : decode cX9_takesLose 70 = .ok (.iload_n 3, 1) := by decide +kernel
theorem dX9_takesLose_71 : decode cX9_takesLose 71 = .ok (.iastore, 1) := by decide +kernel
theorem dX9_takesLose_72 : decode cX9_takesLose 72 = .ok (.aload_n 0, 1) := by decide +kernel
theorem dX9_takesLose_73 : decode cX9_takesLose 73 = .ok (.getfield 68, 3) := by decide +kernel
theorem dX9_takesLose_76 : decode cX9_takesLose 76 = .ok (.iload_n 1, 1) := by decide +kernel
theorem dX9_takesLose_77 : decode cX9_takesLose 77 = .ok (.aload_n 0, 1) := by decide +kernel
theorem dX9_takesLose_78 : decode cX9_takesLose 78 = .ok (.getfield 80, 3) := by decide +kernel
theorem dX9_takesLose_81 : decode cX9_takesLose 81 = .ok (.iastore, 1) := by decide +kernel
theorem dX9_takesLose_82 : decode cX9_takesLose 82 = .ok (.goto 20, 3) := by decide +kernel
theorem dX9_takesLose_85 : decode cX9_takesLose 85 = .ok (.aload_n 0, 1) := by decide +kernel
theorem dX9_takesLose_86 : decode cX9_takesLose 86 = .ok (.getfield 59, 3) := by decide +kernel
theorem dX9_takesLose_89 : decode cX9_takesLose 89 = .ok (.iload_n 1, 1) := by decide +kernel
theorem dX9_takesLose_90 : decode cX9_takesLose 90 = .ok (.iload_n 3, 1) := by decide +kernel
theorem dX9_takesLose_91 : decode cX9_takesLose 91 = .ok (.iastore, 1) := by decide +kernel
theorem dX9_takesLose_92 : decode cX9_takesLose 92 = .ok (.aload_n 0, 1) := by decide +kernel
theorem dX9_takesLose_93 : decode cX9_takesLose 93 = .ok (.getfield 62, 3) := by decide +kernel
theorem dX9_takesLose_96 : decode cX9_takesLose 96 = .ok (.iload_n 1, 1) := by decide +kernel
theorem dX9_takesLose_97 : decode cX9_takesLose 97 = .ok (.aload_n 0, 1) := by decide +kernel
theorem dX9_takesLose_98 : decode cX9_takesLose 98 = .ok (.getfield 80, 3) := by decide +kernel
theorem dX9_takesLose_101 : decode cX9_takesLose 101 = .ok (.iastore, 1) := by decide +kernel
theorem dX9_takesLose_102 : decode cX9_takesLose 102 = .ok (.iconst 1, 1) := by decide +kernel
theorem dX9_takesLose_103 : decode cX9_takesLose 103 = .ok (.ireturn, 1) := by decide +kernel
theorem dX9_takesLeast_0 : decode cX9_takesLeast 0 = .ok (.aload_n 0, 1) := by decide +kernel
theorem dX9_takesLeast_1 : decode cX9_takesLeast 1 = .ok (.ldc 211, 2) := by decide +kernel
theorem dX9_takesLeast_3 : decode cX9_takesLeast 3 = .ok (.iconst 5, 1) := by decide +kernel
theorem dX9_takesLeast_4 : decode cX9_takesLeast 4 = .ok (.invokevirtual 202, 3) := by decide +kernel
theorem dX9_takesLeast_7 : decode cX9_takesLeast 7 = .ok (.ifCond .eq 11, 3) := by decide +kernel
theorem dX9_takesLeast_10 : decode cX9_takesLeast 10 = .ok (.aload_n 0, 1) := by decide +kernel
theorem dX9_takesLeast_11 : decode cX9_takesLeast 11 = .ok (.iconst 0, 1) := by decide +kernel
theorem dX9_takesLeast_12 : decode cX9_takesLeast 12 = .ok (.invokevirtual 188, 3) := by decide +kernel
theorem dX9_takesLeast_15 : decode cX9_takesLeast 15 = .ok (.ifCond .ne 5, 3) := by decide +kernel
theorem dX9_takesLeast_18 : decode cX9_takesLeast 18 = .ok (.iconst 0, 1) := by decide +kernel
theorem dX9_takesLeast_19 : decode cX9_takesLeast 19 = .ok (.ireturn, 1) := by decide +kernel
theorem dX9_takesLeast_20 : decode cX9_takesLeast 20 = .ok (.aload_n 0, 1) := by decide +kernel
theorem dX9_takesLeast_21 : decode cX9_takesLeast 21 = .ok (.getfield 71, 3) := by decide +kernel
theorem dX9_takesLeast_24 : decode cX9_takesLeast 24 = .ok (.iload_n 1, 1) := by decide +kernel
theorem dX9_takesLeast_25 : decode cX9_takesLeast 25 = .ok (.aload_n 0, 1) := by decide +kernel
theorem dX9_takesLeast_26 : decode cX9_takesLeast 26 = .ok (.getfield 80, 3) := by decide +kernel
theorem dX9_takesLeast_29 : decode cX9_takesLeast 29 = .ok (.iastore, 1) := by decide +kernel
theorem dX9_takesLeast_30 : decode cX9_takesLeast 30 = .ok (.iconst 1, 1) := by decide +kernel
theorem dX9_takesLeast_31 : decode cX9_takesLeast 31 = .ok (.ireturn, 1) := by decide +kernel
theorem dX9_takesClause_0 : decode cX9_takesClause 0 = .ok (.aload_n 0, 1) := by decide +kernel
theorem dX9_takesClause_1 : decode cX9_takesClause 1 = .ok (.getfield 38, 3) := by decide +kernel
theorem dX9_takesClause_4 : decode cX9_takesClause 4 = .ok (.iconst 1, 1) := by decide +kernel
theorem dX9_takesClause_5 : decode cX9_takesClause 5 = .ok (.iadd, 1) := by decide +kernel
theorem dX9_takesClause_6 : decode cX9_takesClause 6 = .ok (.aload_n 0, 1) := by decide +kernel
theorem dX9_takesClause_7 : decode cX9_takesClause 7 = .ok (.getfield 35, 3) := by decide +kernel
theorem dX9_takesClause_10 : decode cX9_takesClause 10 = .ok (.if_icmp .ge 17, 3) := by decide +kernel
theorem dX9_takesClause_13 : decode cX9_takesClause 13 = .ok (.aload_n 0, 1) := by decide +kernel
theorem dX9_takesClause_14 : decode cX9_takesClause 14 = .ok (.getfield 41, 3) := by decide +kernel
theorem dX9_takesClause_17 : decode cX9_takesClause 17 = .ok (.aload_n 0, 1) := by decide +kernel
theorem dX9_takesClause_18 : decode cX9_takesClause 18 = .ok (.getfield 38, 3) := by decide +kernel
theorem dX9_takesClause_21 : decode cX9_takesClause 21 = .ok (.iconst 1, 1) := by decide +kernel
theorem dX9_takesClause_22 : decode cX9_takesClause 22 = .ok (.iadd, 1) := by decide +kernel
theorem dX9_takesClause_23 : decode cX9_takesClause 23 = .ok (.iaload, 1) := by decide +kernel
theorem dX9_takesClause_24 : decode cX9_takesClause 24 = .ok (.goto 4, 3) := by decide +kernel
theorem dX9_takesClause_27 : decode cX9_takesClause 27 = .ok (.iconst (-1), 1) := by decide +kernel
theorem dX9_takesClause_28 : decode cX9_takesClause 28 = .ok (.istore_n 3, 1) := by decide +kernel
theorem dX9_takesClause_29 : decode cX9_takesClause 29 = .ok (.aload_n 0, 1) := by decide +kernel
theorem dX9_takesClause_30 : decode cX9_takesClause 30 = .ok (.getfield 47, 3) := by decide +kernel
theorem dX9_takesClause_33 : decode cX9_takesClause 33 = .ok (.iload_n 2, 1) := by decide +kernel
theorem dX9_takesClause_34 : decode cX9_takesClause 34 = .ok (.bipush 6, 2) := by decide +kernel
theorem dX9_takesClause_36 : decode cX9_takesClause 36 = .ok (.iastore, 1) := by decide +kernel
theorem dX9_takesClause_37 : decode cX9_takesClause 37 = .ok (.aload_n 0, 1) := by decide +kernel
theorem dX9_takesClause_38 : decode cX9_takesClause 38 = .ok (.invokevirtual 170, 3) := by decide +kernel
theorem dX9_takesClause_41 : decode cX9_takesClause 41 = .ok (.lookupswitch 230 #[(98, 74), (102, 43), (108, 209), (111, 154)], 43) := by decide +kernel
theorem dX9_takesClause_84 : decode cX9_takesClause 84 = .ok (.aload_n 0, 1) := by decide +kernel
theorem dX9_takesClause_85 : decode cX9_takesClause 85 = .ok (.getfield 47, 3) := by decide +kernel
theorem dX9_takesClause_88 : decode cX9_takesClause 88 = .ok (.iload_n 2, 1) := by decide +kernel
theorem dX9_takesClause_89 : decode cX9_takesClause 89 = .ok (.iconst 0, 1) := by decide +kernel
theorem dX9_takesClause_90 : decode cX9_takesClause 90 = .ok (.iastore, 1) := by decide +kernel
theorem dX9_takesClause_91 : decode cX9_takesClause 91 = .ok (.aload_n 0, 1) := by decide +kernel
theorem dX9_takesClause_92 : decode cX9_takesClause 92 = .ok (.ldc 212, 2) := by decide +kernel
theorem dX9_takesClause_94 : decode cX9_takesClause 94 = .ok (.iconst 4, 1) := by decide +kernel
theorem dX9_takesClause_95 : decode cX9_takesClause 95 = .ok (.invokevirtual 202, 3) := by decide +kernel
theorem dX9_takesClause_98 : decode cX9_takesClause 98 = .ok (.ifCond .eq 15, 3) := by decide +kernel
theorem dX9_takesClause_101 : decode cX9_takesClause 101 = .ok (.aload_n 0, 1) := by decide +kernel
theorem dX9_takesClause_102 : decode cX9_takesClause 102 = .ok (.iload_n 2, 1) := by decide +kernel
theorem dX9_takesClause_103 : decode cX9_takesClause 103 = .ok (.invokevirtual 206, 3) := by decide +kernel
theorem dX9_takesClause_106 : decode cX9_takesClause 106 = .ok (.ifCond .eq 7, 3) := by decide +kernel
theorem dX9_takesClause_109 : decode cX9_takesClause 109 = .ok (.iconst 1, 1) := by decide +kernel
theorem dX9_takesClause_110 : decode cX9_takesClause 110 = .ok (.goto 4, 3) := by decide +kernel
theorem dX9_takesClause_113 : decode cX9_takesClause 113 = .ok (.iconst 0, 1) := by decide +kernel
theorem dX9_takesClause_114 : decode cX9_takesClause 114 = .ok (.ireturn, 1) := by decide +kernel
theorem dX9_takesClause_115 : decode cX9_takesClause 115 = .ok (.iload_n 3, 1) := by decide +kernel
theorem dX9_takesClause_116 : decode cX9_takesClause 116 = .ok (.bipush 105, 2) := by decide +kernel
theorem dX9_takesClause_118 : decode cX9_takesClause 118 = .ok (.if_icmp .eq 16, 3) := by decide +kernel
theorem dX9_takesClause_121 : decode cX9_takesClause 121 = .ok (.iload_n 3, 1) := by decide +kernel
theorem dX9_takesClause_122 : decode cX9_takesClause 122 = .ok (.bipush 97, 2) := by decide +kernel
theorem dX9_takesClause_124 : decode cX9_takesClause 124 = .ok (.if_icmp .eq 10, 3) := by decide +kernel
theorem dX9_takesClause_127 : decode cX9_takesClause 127 = .ok (.aload_n 0, 1) := by decide +kernel
theorem dX9_takesClause_128 : decode cX9_takesClause 128 = .ok (.iload_n 1, 1) := by decide +kernel
theorem dX9_takesClause_129 : decode cX9_takesClause 129 = .ok (.iconst 1, 1) := by decide +kernel
theorem dX9_takesClause_130 : decode cX9_takesClause 130 = .ok (.invokevirtual 213, 3) := by decide +kernel
theorem dX9_takesClause_133 : decode cX9_takesClause 133 = .ok (.ireturn, 1) := by decide +kernel
theorem dX9_takesClause_134 : decode cX9_takesClause 134 = .ok (.aload_n 0, 1) := by decide +kernel
theorem dX9_takesClause_135 : decode cX9_takesClause 135 = .ok (.getfield 47, 3) := by decide +kernel
theorem dX9_takesClause_138 : decode cX9_takesClause 138 = .ok (.iload_n 2, 1) := by decide +kernel
theorem dX9_takesClause_139 : decode cX9_takesClause 139 = .ok (.iload_n 3, 1) := by decide +kernel
theorem dX9_takesClause_140 : decode cX9_takesClause 140 = .ok (.bipush 105, 2) := by decide +kernel
theorem dX9_takesClause_142 : decode cX9_takesClause 142 = .ok (.if_icmp .ne 7, 3) := by decide +kernel
theorem dX9_takesClause_145 : decode cX9_takesClause 145 = .ok (.iconst 1, 1) := by decide +kernel
theorem dX9_takesClause_146 : decode cX9_takesClause 146 = .ok (.goto 4, 3) := by decide +kernel
theorem dX9_takesClause_149 : decode cX9_takesClause 149 = .ok (.iconst 3, 1) := by decide +kernel
theorem dX9_takesClause_150 : decode cX9_takesClause 150 = .ok (.iastore, 1) := by decide +kernel
theorem dX9_takesClause_151 : decode cX9_takesClause 151 = .ok (.iload_n 3, 1) := by decide +kernel
theorem dX9_takesClause_152 : decode cX9_takesClause 152 = .ok (.bipush 105, 2) := by decide +kernel
theorem dX9_takesClause_154 : decode cX9_takesClause 154 = .ok (.if_icmp .ne 16, 3) := by decide +kernel
theorem dX9_takesClause_157 : decode cX9_takesClause 157 = .ok (.aload_n 0, 1) := by decide +kernel
theorem dX9_takesClause_158 : decode cX9_takesClause 158 = .ok (.ldc 217, 2) := by decide +kernel
theorem dX9_takesClause_160 : decode cX9_takesClause 160 = .ok (.iconst 4, 1) := by decide +kernel
theorem dX9_takesClause_161 : decode cX9_takesClause 161 = .ok (.invokevirtual 202, 3) := by decide +kernel
theorem dX9_takesClause_164 : decode cX9_takesClause 164 = .ok (.ifCond .eq 29, 3) := by decide +kernel
theorem dX9_takesClause_167 : decode cX9_takesClause 167 = .ok (.goto 14, 3) := by decide +kernel
theorem dX9_takesClause_170 : decode cX9_takesClause 170 = .ok (.aload_n 0, 1) := by decide +kernel
theorem dX9_takesClause_171 : decode cX9_takesClause 171 = .ok (.sipush 2098, 3) := by decide +kernel
theorem dX9_takesClause_174 : decode cX9_takesClause 174 = .ok (.iconst 3, 1) := by decide +kernel
theorem dX9_takesClause_175 : decode cX9_takesClause 175 = .ok (.invokevirtual 202, 3) := by decide +kernel
theorem dX9_takesClause_178 : decode cX9_takesClause 178 = .ok (.ifCond .eq 15, 3) := by decide +kernel
theorem dX9_takesClause_181 : decode cX9_takesClause 181 = .ok (.aload_n 0, 1) := by decide +kernel
theorem dX9_takesClause_182 : decode cX9_takesClause 182 = .ok (.iload_n 2, 1) := by decide +kernel
theorem dX9_takesClause_183 : decode cX9_takesClause 183 = .ok (.invokevirtual 206, 3) := by decide +kernel
theorem dX9_takesClause_186 : decode cX9_takesClause 186 = .ok (.ifCond .eq 7, 3) := by decide +kernel
theorem dX9_takesClause_189 : decode cX9_takesClause 189 = .ok (.iconst 1, 1) := by decide +kernel
theorem dX9_takesClause_190 : decode cX9_takesClause 190 = .ok (.goto 4, 3) := by decide +kernel
theorem dX9_takesClause_193 : decode cX9_takesClause 193 = .ok (.iconst 0, 1) := by decide +kernel
theorem dX9_takesClause_194 : decode cX9_takesClause 194 = .ok (.ireturn, 1) := by decide +kernel
theorem dX9_takesClause_195 : decode cX9_takesClause 195 = .ok (.aload_n 0, 1) := by decide +kernel
theorem dX9_takesClause_196 : decode cX9_takesClause 196 = .ok (.getfield 47, 3) := by decide +kernel
theorem dX9_takesClause_199 : decode cX9_takesClause 199 = .ok (.iload_n 2, 1) := by decide +kernel
theorem dX9_takesClause_200 : decode cX9_takesClause 200 = .ok (.iload_n 3, 1) := by decide +kernel
theorem dX9_takesClause_201 : decode cX9_takesClause 201 = .ok (.bipush 118, 2) := by decide +kernel
theorem dX9_takesClause_203 : decode cX9_takesClause 203 = .ok (.if_icmp .ne 7, 3) := by decide +kernel
theorem dX9_takesClause_206 : decode cX9_takesClause 206 = .ok (.iconst 4, 1) := by decide +kernel
theorem dX9_takesClause_207 : decode cX9_takesClause 207 = .ok (.goto 4, 3) := by decide +kernel
theorem dX9_takesClause_210 : decode cX9_takesClause 210 = .ok (.iconst 2, 1) := by decide +kernel
theorem dX9_takesClause_211 : decode cX9_takesClause 211 = .ok (.iastore, 1) := by decide +kernel
theorem dX9_takesClause_212 : decode cX9_takesClause 212 = .ok (.iload_n 3, 1) := by decide +kernel
theorem dX9_takesClause_213 : decode cX9_takesClause 213 = .ok (.bipush 118, 2) := by decide +kernel
theorem dX9_takesClause_215 : decode cX9_takesClause 215 = .ok (.if_icmp .ne 29, 3) := by decide +kernel
theorem dX9_takesClause_218 : decode cX9_takesClause 218 = .ok (.aload_n 0, 1) := by decide +kernel
theorem dX9_takesClause_219 : decode cX9_takesClause 219 = .ok (.ldc 218, 2) := by decide +kernel
theorem dX9_takesClause_221 : decode cX9_takesClause 221 = .ok (.iconst 4, 1) := by decide +kernel
theorem dX9_takesClause_222 : decode cX9_takesClause 222 = .ok (.invokevirtual 202, 3) := by decide +kernel
theorem dX9_takesClause_225 : decode cX9_takesClause 225 = .ok (.ifCond .eq 15, 3) := by decide +kernel
theorem dX9_takesClause_228 : decode cX9_takesClause 228 = .ok (.aload_n 0, 1) := by decide +kernel
theorem dX9_takesClause_229 : decode cX9_takesClause 229 = .ok (.iload_n 2, 1) := by decide +kernel
theorem dX9_takesClause_230 : decode cX9_takesClause 230 = .ok (.invokevirtual 206, 3) := by decide +kernel
theorem dX9_takesClause_233 : decode cX9_takesClause 233 = .ok (.ifCond .eq 7, 3) := by decide +kernel
theorem dX9_takesClause_236 : decode cX9_takesClause 236 = .ok (.iconst 1, 1) := by decide +kernel
theorem dX9_takesClause_237 : decode cX9_takesClause 237 = .ok (.goto 12, 3) := by decide +kernel
theorem dX9_takesClause_240 : decode cX9_takesClause 240 = .ok (.iconst 0, 1) := by decide +kernel
theorem dX9_takesClause_241 : decode cX9_takesClause 241 = .ok (.goto 8, 3) := by decide +kernel
theorem dX9_takesClause_244 : decode cX9_takesClause 244 = .ok (.aload_n 0, 1) := by decide +kernel
theorem dX9_takesClause_245 : decode cX9_takesClause 245 = .ok (.iload_n 2, 1) := by decide +kernel
theorem dX9_takesClause_246 : decode cX9_takesClause 246 = .ok (.invokevirtual 219, 3) := by decide +kernel
theorem dX9_takesClause_249 : decode cX9_takesClause 249 = .ok (.ireturn, 1) := by decide +kernel
theorem dX9_takesClause_250 : decode cX9_takesClause 250 = .ok (.iload_n 3, 1) := by decide +kernel
theorem dX9_takesClause_251 : decode cX9_takesClause 251 = .ok (.bipush 101, 2) := by decide +kernel
theorem dX9_takesClause_253 : decode cX9_takesClause 253 = .ok (.if_icmp .ne 11, 3) := by decide +kernel
theorem dX9_takesClause_256 : decode cX9_takesClause 256 = .ok (.aload_n 0, 1) := by decide +kernel
theorem dX9_takesClause_257 : decode cX9_takesClause 257 = .ok (.iload_n 1, 1) := by decide +kernel
theorem dX9_takesClause_258 : decode cX9_takesClause 258 = .ok (.invokevirtual 222, 3) := by decide +kernel
theorem dX9_takesClause_261 : decode cX9_takesClause 261 = .ok (.goto 9, 3) := by decide +kernel
theorem dX9_takesClause_264 : decode cX9_takesClause 264 = .ok (.aload_n 0, 1) := by decide +kernel
theorem dX9_takesClause_265 : decode cX9_takesClause 265 = .ok (.iload_n 1, 1) := by decide +kernel
theorem dX9_takesClause_266 : decode cX9_takesClause 266 = .ok (.iconst 0, 1) := by decide +kernel
theorem dX9_takesClause_267 : decode cX9_takesClause 267 = .ok (.invokevirtual 213, 3) := by decide +kernel
theorem dX9_takesClause_270 : decode cX9_takesClause 270 = .ok (.ireturn, 1) := by decide +kernel
theorem dX9_takesClause_271 : decode cX9_takesClause 271 = .ok (.aload_n 0, 1) := by decide +kernel
theorem dX9_takesClause_272 : decode cX9_takesClause 272 = .ok (.getfield 47, 3) := by decide +kernel
theorem dX9_takesClause_275 : decode cX9_takesClause 275 = .ok (.iload_n 2, 1) := by decide +kernel
theorem dX9_takesClause_276 : decode cX9_takesClause 276 = .ok (.iconst 5, 1) := by decide +kernel
theorem dX9_takesClause_277 : decode cX9_takesClause 277 = .ok (.iastore, 1) := by decide +kernel
theorem dX9_takesClause_278 : decode cX9_takesClause 278 = .ok (.aload_n 0, 1) := by decide +kernel
theorem dX9_takesClause_279 : decode cX9_takesClause 279 = .ok (.ldc 225, 2) := by decide +kernel
theorem dX9_takesClause_281 : decode cX9_takesClause 281 = .ok (.iconst 4, 1) := by decide +kernel
theorem dX9_takesClause_282 : decode cX9_takesClause 282 = .ok (.invokevirtual 202, 3) := by decide +kernel
theorem dX9_takesClause_285 : decode cX9_takesClause 285 = .ok (.ifCond .eq 15, 3) := by decide +kernel
theorem dX9_takesClause_288 : decode cX9_takesClause 288 = .ok (.aload_n 0, 1) := by decide +kernel
theorem dX9_takesClause_289 : decode cX9_takesClause 289 = .ok (.iload_n 2, 1) := by decide +kernel
theorem dX9_takesClause_290 : decode cX9_takesClause 290 = .ok (.invokevirtual 206, 3) := by decide +kernel
theorem dX9_takesClause_293 : decode cX9_takesClause 293 = .ok (.ifCond .eq 7, 3) := by decide +kernel
theorem dX9_takesClause_296 : decode cX9_takesClause 296 = .ok (.iconst 1, 1) := by decide +kernel
theorem dX9_takesClause_297 : decode cX9_takesClause 297 = .ok (.goto 4, 3) := by decide +kernel
theorem dX9_takesClause_300 : decode cX9_takesClause 300 = .ok (.iconst 0, 1) := by decide +kernel
theorem dX9_takesClause_301 : decode cX9_takesClause 301 = .ok (.ireturn, 1) := by decide +kernel
theorem dX9_goes_0 : decode cX9_goes 0 = .ok (.aload_n 0, 1) := by decide +kernel
theorem dX9_goes_1 : decode cX9_goes 1 = .ok (.iconst 0, 1) := by decide +kernel
theorem dX9_goes_2 : decode cX9_goes 2 = .ok (.putfield 38, 3) := by decide +kernel
theorem dX9_goes_5 : decode cX9_goes 5 = .ok (.aload_n 0, 1) := by decide +kernel
theorem dX9_goes_6 : decode cX9_goes 6 = .ok (.bipush 100, 2) := by decide +kernel
theorem dX9_goes_8 : decode cX9_goes 8 = .ok (.iload_n 1, 1) := by decide +kernel
theorem dX9_goes_9 : decode cX9_goes 9 = .ok (.imul, 1) := by decide +kernel
theorem dX9_goes_10 : decode cX9_goes 10 = .ok (.putfield 77, 3) := by decide +kernel
theorem dX9_goes_13 : decode cX9_goes 13 = .ok (.aload_n 0, 1) := by decide +kernel
theorem dX9_goes_14 : decode cX9_goes 14 = .ok (.getfield 59, 3) := by decide +kernel
theorem dX9_goes_17 : decode cX9_goes 17 = .ok (.iload_n 1, 1) := by decide +kernel
theorem dX9_goes_18 : decode cX9_goes 18 = .ok (.iconst 1, 1) := by decide +kernel
theorem dX9_goes_19 : decode cX9_goes 19 = .ok (.iastore, 1) := by decide +kernel
theorem dX9_goes_20 : decode cX9_goes 20 = .ok (.aload_n 0, 1) := by decide +kernel
theorem dX9_goes_21 : decode cX9_goes 21 = .ok (.getfield 62, 3) := by decide +kernel
theorem dX9_goes_24 : decode cX9_goes 24 = .ok (.iload_n 1, 1) := by decide +kernel
theorem dX9_goes_25 : decode cX9_goes 25 = .ok (.iconst 1, 1) := by decide +kernel
theorem dX9_goes_26 : decode cX9_goes 26 = .ok (.iastore, 1) := by decide +kernel
theorem dX9_goes_27 : decode cX9_goes 27 = .ok (.aload_n 0, 1) := by decide +kernel
theorem dX9_goes_28 : decode cX9_goes 28 = .ok (.getfield 65, 3) := by decide +kernel
theorem dX9_goes_31 : decode cX9_goes 31 = .ok (.iload_n 1, 1) := by decide +kernel
theorem dX9_goes_32 : decode cX9_goes 32 = .ok (.iconst 0, 1) := by decide +kernel
theorem dX9_goes_33 : decode cX9_goes 33 = .ok (.iastore, 1) := by decide +kernel
theorem dX9_goes_34 : decode cX9_goes 34 = .ok (.aload_n 0, 1) := by decide +kernel
theorem dX9_goes_35 : decode cX9_goes 35 = .ok (.getfield 68, 3) := by decide +kernel
theorem dX9_goes_38 : decode cX9_goes 38 = .ok (.iload_n 1, 1) := by decide +kernel
theorem dX9_goes_39 : decode cX9_goes 39 = .ok (.iconst 1, 1) := by decide +kernel
theorem dX9_goes_40 : decode cX9_goes 40 = .ok (.iastore, 1) := by decide +kernel
theorem dX9_goes_41 : decode cX9_goes 41 = .ok (.aload_n 0, 1) := by decide +kernel
theorem dX9_goes_42 : decode cX9_goes 42 = .ok (.getfield 71, 3) := by decide +kernel
theorem dX9_goes_45 : decode cX9_goes 45 = .ok (.iload_n 1, 1) := by decide +kernel
theorem dX9_goes_46 : decode cX9_goes 46 = .ok (.iconst 0, 1) := by decide +kernel
theorem dX9_goes_47 : decode cX9_goes 47 = .ok (.iastore, 1) := by decide +kernel
theorem dX9_goes_48 : decode cX9_goes 48 = .ok (.iconst 0, 1) := by decide +kernel
theorem dX9_goes_49 : decode cX9_goes 49 = .ok (.istore_n 2, 1) := by decide +kernel
theorem dX9_goes_50 : decode cX9_goes 50 = .ok (.aload_n 0, 1) := by decide +kernel
theorem dX9_goes_51 : decode cX9_goes 51 = .ok (.iload_n 1, 1) := by decide +kernel
theorem dX9_goes_52 : decode cX9_goes 52 = .ok (.bipush 8, 2) := by decide +kernel
theorem dX9_goes_54 : decode cX9_goes 54 = .ok (.iload_n 1, 1) := by decide +kernel
theorem dX9_goes_55 : decode cX9_goes 55 = .ok (.imul, 1) := by decide +kernel
theorem dX9_goes_56 : decode cX9_goes 56 = .ok (.iload_n 2, 1) := by decide +kernel
theorem dX9_goes_57 : decode cX9_goes 57 = .ok (.iadd, 1) := by decide +kernel
theorem dX9_goes_58 : decode cX9_goes 58 = .ok (.invokevirtual 226, 3) := by decide +kernel
theorem dX9_goes_61 : decode cX9_goes 61 = .ok (.ifCond .ne 5, 3) := by decide +kernel
theorem dX9_goes_64 : decode cX9_goes 64 = .ok (.iconst 0, 1) := by decide +kernel
theorem dX9_goes_65 : decode cX9_goes 65 = .ok (.ireturn, 1) := by decide +kernel
theorem dX9_goes_66 : decode cX9_goes 66 = .ok (.iinc 2 1, 3) := by decide +kernel
theorem dX9_goes_69 : decode cX9_goes 69 = .ok (.aload_n 0, 1) := by decide +kernel
theorem dX9_goes_70 : decode cX9_goes 70 = .ok (.getfield 44, 3) := by decide +kernel
theorem dX9_goes_73 : decode cX9_goes 73 = .ok (.iload_n 1, 1) := by decide +kernel
theorem dX9_goes_74 : decode cX9_goes 74 = .ok (.iload_n 2, 1) := by decide +kernel
theorem dX9_goes_75 : decode cX9_goes 75 = .ok (.iastore, 1) := by decide +kernel
theorem dX9_goes_76 : decode cX9_goes 76 = .ok (.aload_n 0, 1) := by decide +kernel
theorem dX9_goes_77 : decode cX9_goes 77 = .ok (.getfield 38, 3) := by decide +kernel
theorem dX9_goes_80 : decode cX9_goes 80 = .ok (.aload_n 0, 1) := by decide +kernel
theorem dX9_goes_81 : decode cX9_goes 81 = .ok (.getfield 35, 3) := by decide +kernel
theorem dX9_goes_84 : decode cX9_goes 84 = .ok (.if_icmp .ne 5, 3) := by decide +kernel
theorem dX9_goes_87 : decode cX9_goes 87 = .ok (.iconst 1, 1) := by decide +kernel
theorem dX9_goes_88 : decode cX9_goes 88 = .ok (.ireturn, 1) := by decide +kernel
theorem dX9_goes_89 : decode cX9_goes 89 = .ok (.iload_n 2, 1) := by decide +kernel
theorem dX9_goes_90 : decode cX9_goes 90 = .ok (.bipush 8, 2) := by decide +kernel
theorem dX9_goes_92 : decode cX9_goes 92 = .ok (.if_icmp .eq 12, 3) := by decide +kernel
theorem dX9_goes_95 : decode cX9_goes 95 = .ok (.aload_n 0, 1) := by decide +kernel
theorem dX9_goes_96 : decode cX9_goes 96 = .ok (.bipush 59, 2) := by decide +kernel
theorem dX9_goes_98 : decode cX9_goes 98 = .ok (.invokevirtual 174, 3) := by decide +kernel
theorem dX9_goes_101 : decode cX9_goes 101 = .ok (.ifCond .ne (-51), 3) := by decide +kernel
theorem dX9_goes_104 : decode cX9_goes 104 = .ok (.iconst 0, 1) := by decide +kernel
theorem dX9_goes_105 : decode cX9_goes 105 = .ok (.ireturn, 1) := by decide +kernel
theorem dX9_law_0 : decode cX9_law 0 = .ok (.aload_n 0, 1) := by decide +kernel
theorem dX9_law_1 : decode cX9_law 1 = .ok (.getfield 32, 3) := by decide +kernel
theorem dX9_law_4 : decode cX9_law 4 = .ok (.bipush 6, 2) := by decide +kernel
theorem dX9_law_6 : decode cX9_law 6 = .ok (.if_icmp .ne 6, 3) := by decide +kernel
theorem dX9_law_9 : decode cX9_law 9 = .ok (.bipush (-4), 2) := by decide +kernel
theorem dX9_law_11 : decode cX9_law 11 = .ok (.ireturn, 1) := by decide +kernel
theorem dX9_law_12 : decode cX9_law 12 = .ok (.aload_n 0, 1) := by decide +kernel
theorem dX9_law_13 : decode cX9_law 13 = .ok (.aload_n 0, 1) := by decide +kernel
theorem dX9_law_14 : decode cX9_law 14 = .ok (.getfield 32, 3) := by decide +kernel
theorem dX9_law_17 : decode cX9_law 17 = .ok (.invokevirtual 229, 3) := by decide +kernel
theorem dX9_law_20 : decode cX9_law 20 = .ok (.istore_n 1, 1) := by decide +kernel
theorem dX9_law_21 : decode cX9_law 21 = .ok (.aload_n 0, 1) := by decide +kernel
theorem dX9_law_22 : decode cX9_law 22 = .ok (.iconst 0, 1) := by decide +kernel
theorem dX9_law_23 : decode cX9_law 23 = .ok (.putfield 35, 3) := by decide +kernel
theorem dX9_law_26 : decode cX9_law 26 = .ok (.iload_n 1, 1) := by decide +kernel
theorem dX9_law_27 : decode cX9_law 27 = .ok (.ifCond .ne 11, 3) := by decide +kernel
theorem dX9_law_30 : decode cX9_law 30 = .ok (.bipush (-10), 2) := by decide +kernel
theorem dX9_law_32 : decode cX9_law 32 = .ok (.aload_n 0, 1) := by decide +kernel
theorem dX9_law_33 : decode cX9_law 33 = .ok (.getfield 38, 3) := by decide +kernel
theorem dX9_law_36 : decode cX9_law 36 = .ok (.isub, 1) := by decide +kernel
theorem dX9_law_37 : decode cX9_law 37 = .ok (.ireturn, 1) := by decide +kernel
theorem dX9_law_38 : decode cX9_law 38 = .ok (.aload_n 0, 1) := by decide +kernel
theorem dX9_law_39 : decode cX9_law 39 = .ok (.dup, 1) := by decide +kernel
theorem dX9_law_40 : decode cX9_law 40 = .ok (.getfield 32, 3) := by decide +kernel
theorem dX9_law_43 : decode cX9_law 43 = .ok (.iconst 1, 1) := by decide +kernel
theorem dX9_law_44 : decode cX9_law 44 = .ok (.iadd, 1) := by decide +kernel
theorem dX9_law_45 : decode cX9_law 45 = .ok (.putfield 32, 3) := by decide +kernel
theorem dX9_law_48 : decode cX9_law 48 = .ok (.aload_n 0, 1) := by decide +kernel
theorem dX9_law_49 : decode cX9_law 49 = .ok (.getfield 32, 3) := by decide +kernel
theorem dX9_law_52 : decode cX9_law 52 = .ok (.iconst 1, 1) := by decide +kernel
theorem dX9_law_53 : decode cX9_law 53 = .ok (.isub, 1) := by decide +kernel
theorem dX9_law_54 : decode cX9_law 54 = .ok (.ireturn, 1) := by decide +kernel
theorem dX9_factOf_0 : decode cX9_factOf 0 = .ok (.iload_n 1, 1) := by decide +kernel
theorem dX9_factOf_1 : decode cX9_factOf 1 = .ok (.tableswitch 118 0 8 #[51, 58, 65, 71, 78, 85, 94, 102, 110], 51) := by decide +kernel
theorem dX9_factOf_52 : decode cX9_factOf 52 = .ok (.aload_n 0, 1) := by decide +kernel
theorem dX9_factOf_53 : decode cX9_factOf 53 = .ok (.iload_n 2, 1) := by decide +kernel
theorem dX9_factOf_54 : decode cX9_factOf 54 = .ok (.iconst 1, 1) := by decide +kernel
theorem dX9_factOf_55 : decode cX9_factOf 55 = .ok (.invokevirtual 148, 3) := by decide +kernel
theorem dX9_factOf_58 : decode cX9_factOf 58 = .ok (.ireturn, 1) := by decide +kernel
theorem dX9_factOf_59 : decode cX9_factOf 59 = .ok (.aload_n 0, 1) := by decide +kernel
theorem dX9_factOf_60 : decode cX9_factOf 60 = .ok (.iload_n 2, 1) := by decide +kernel
theorem dX9_factOf_61 : decode cX9_factOf 61 = .ok (.iconst 3, 1) := by decide +kernel
theorem dX9_factOf_62 : decode cX9_factOf 62 = .ok (.invokevirtual 148, 3) := by decide +kernel
theorem dX9_factOf_65 : decode cX9_factOf 65 = .ok (.ireturn, 1) := by decide +kernel
theorem dX9_factOf_66 : decode cX9_factOf 66 = .ok (.aload_n 0, 1) := by decide +kernel
theorem dX9_factOf_67 : decode cX9_factOf 67 = .ok (.iload_n 2, 1) := by decide +kernel
theorem dX9_factOf_68 : decode cX9_factOf 68 = .ok (.invokevirtual 232, 3) := by decide +kernel
theorem dX9_factOf_71 : decode cX9_factOf 71 = .ok (.ireturn, 1) := by decide +kernel
theorem dX9_factOf_72 : decode cX9_factOf 72 = .ok (.aload_n 0, 1) := by decide +kernel
theorem dX9_factOf_73 : decode cX9_factOf 73 = .ok (.iload_n 2, 1) := by decide +kernel
theorem dX9_factOf_74 : decode cX9_factOf 74 = .ok (.iconst 5, 1) := by decide +kernel
theorem dX9_factOf_75 : decode cX9_factOf 75 = .ok (.invokevirtual 148, 3) := by decide +kernel
theorem dX9_factOf_78 : decode cX9_factOf 78 = .ok (.ireturn, 1) := by decide +kernel
theorem dX9_factOf_79 : decode cX9_factOf 79 = .ok (.aload_n 0, 1) := by decide +kernel
theorem dX9_factOf_80 : decode cX9_factOf 80 = .ok (.iload_n 2, 1) := by decide +kernel
theorem dX9_factOf_81 : decode cX9_factOf 81 = .ok (.iconst 2, 1) := by decide +kernel
theorem dX9_factOf_82 : decode cX9_factOf 82 = .ok (.invokevirtual 148, 3) := by decide +kernel
theorem dX9_factOf_85 : decode cX9_factOf 85 = .ok (.ireturn, 1) := by decide +kernel
theorem dX9_factOf_86 : decode cX9_factOf 86 = .ok (.iconst 1, 1) := by decide +kernel
theorem dX9_factOf_87 : decode cX9_factOf 87 = .ok (.aload_n 0, 1) := by decide +kernel
theorem dX9_factOf_88 : decode cX9_factOf 88 = .ok (.iload_n 2, 1) := by decide +kernel
theorem dX9_factOf_89 : decode cX9_factOf 89 = .ok (.iconst 4, 1) := by decide +kernel
theorem dX9_factOf_90 : decode cX9_factOf 90 = .ok (.invokevirtual 148, 3) := by decide +kernel
theorem dX9_factOf_93 : decode cX9_factOf 93 = .ok (.isub, 1) := by decide +kernel
theorem dX9_factOf_94 : decode cX9_factOf 94 = .ok (.ireturn, 1) := by decide +kernel
theorem dX9_factOf_95 : decode cX9_factOf 95 = .ok (.aload_n 0, 1) := by decide +kernel
theorem dX9_factOf_96 : decode cX9_factOf 96 = .ok (.iload_n 2, 1) := by decide +kernel
theorem dX9_factOf_97 : decode cX9_factOf 97 = .ok (.bipush 6, 2) := by decide +kernel
theorem dX9_factOf_99 : decode cX9_factOf 99 = .ok (.invokevirtual 148, 3) := by decide +kernel
theorem dX9_factOf_102 : decode cX9_factOf 102 = .ok (.ireturn, 1) := by decide +kernel
theorem dX9_factOf_103 : decode cX9_factOf 103 = .ok (.aload_n 0, 1) := by decide +kernel
theorem dX9_factOf_104 : decode cX9_factOf 104 = .ok (.iload_n 2, 1) := by decide +kernel
theorem dX9_factOf_105 : decode cX9_factOf 105 = .ok (.bipush 7, 2) := by decide +kernel
theorem dX9_factOf_107 : decode cX9_factOf 107 = .ok (.invokevirtual 148, 3) := by decide +kernel
theorem dX9_factOf_110 : decode cX9_factOf 110 = .ok (.ireturn, 1) := by decide +kernel
theorem dX9_factOf_111 : decode cX9_factOf 111 = .ok (.aload_n 0, 1) := by decide +kernel
theorem dX9_factOf_112 : decode cX9_factOf 112 = .ok (.iload_n 2, 1) := by decide +kernel
theorem dX9_factOf_113 : decode cX9_factOf 113 = .ok (.bipush 8, 2) := by decide +kernel
theorem dX9_factOf_115 : decode cX9_factOf 115 = .ok (.invokevirtual 148, 3) := by decide +kernel
theorem dX9_factOf_118 : decode cX9_factOf 118 = .ok (.ireturn, 1) := by decide +kernel
theorem dX9_factOf_119 : decode cX9_factOf 119 = .ok (.iload_n 3, 1) := by decide +kernel
theorem dX9_factOf_120 : decode cX9_factOf 120 = .ok (.ireturn, 1) := by decide +kernel
theorem dX9_holds_0 : decode cX9_holds 0 = .ok (.iconst 0, 1) := by decide +kernel
theorem dX9_holds_1 : decode cX9_holds 1 = .ok (.istore 4, 2) := by decide +kernel
theorem dX9_holds_3 : decode cX9_holds 3 = .ok (.aload_n 0, 1) := by decide +kernel
theorem dX9_holds_4 : decode cX9_holds 4 = .ok (.getfield 53, 3) := by decide +kernel
theorem dX9_holds_7 : decode cX9_holds 7 = .ok (.iload_n 1, 1) := by decide +kernel
theorem dX9_holds_8 : decode cX9_holds 8 = .ok (.iaload, 1) := by decide +kernel
theorem dX9_holds_9 : decode cX9_holds 9 = .ok (.istore 5, 2) := by decide +kernel
theorem dX9_holds_11 : decode cX9_holds 11 = .ok (.iload 5, 2) := by decide +kernel
theorem dX9_holds_13 : decode cX9_holds 13 = .ok (.aload_n 0, 1) := by decide +kernel
theorem dX9_holds_14 : decode cX9_holds 14 = .ok (.getfield 56, 3) := by decide +kernel
theorem dX9_holds_17 : decode cX9_holds 17 = .ok (.iload_n 1, 1) := by decide +kernel
theorem dX9_holds_18 : decode cX9_holds 18 = .ok (.iaload, 1) := by decide +kernel
theorem dX9_holds_19 : decode cX9_holds 19 = .ok (.if_icmp .ge 237, 3) := by decide +kernel
theorem dX9_holds_22 : decode cX9_holds 22 = .ok (.aload_n 0, 1) := by decide +kernel
theorem dX9_holds_23 : decode cX9_holds 23 = .ok (.getfield 74, 3) := by decide +kernel
theorem dX9_holds_26 : decode cX9_holds 26 = .ok (.iload 5, 2) := by decide +kernel
theorem dX9_holds_28 : decode cX9_holds 28 = .ok (.iaload, 1) := by decide +kernel
theorem dX9_holds_29 : decode cX9_holds 29 = .ok (.istore 6, 2) := by decide +kernel
theorem dX9_holds_31 : decode cX9_holds 31 = .ok (.iload 6, 2) := by decide +kernel
theorem dX9_holds_33 : decode cX9_holds 33 = .ok (.bipush (-33), 2) := by decide +kernel
theorem dX9_holds_35 : decode cX9_holds 35 = .ok (.if_icmp .ne 32, 3) := by decide +kernel
theorem dX9_holds_38 : decode cX9_holds 38 = .ok (.aload_n 0, 1) := by decide +kernel
theorem dX9_holds_39 : decode cX9_holds 39 = .ok (.getfield 92, 3) := by decide +kernel
theorem dX9_holds_42 : decode cX9_holds 42 = .ok (.iload 4, 2) := by decide +kernel
theorem dX9_holds_44 : decode cX9_holds 44 = .ok (.iconst 1, 1) := by decide +kernel
theorem dX9_holds_45 : decode cX9_holds 45 = .ok (.isub, 1) := by decide +kernel
theorem dX9_holds_46 : decode cX9_holds 46 = .ok (.aload_n 0, 1) := by decide +kernel
theorem dX9_holds_47 : decode cX9_holds 47 = .ok (.getfield 92, 3) := by decide +kernel
theorem dX9_holds_50 : decode cX9_holds 50 = .ok (.iload 4, 2) := by decide +kernel
theorem dX9_holds_52 : decode cX9_holds 52 = .ok (.iconst 1, 1) := by decide +kernel
theorem dX9_holds_53 : decode cX9_holds 53 = .ok (.isub, 1) := by decide +kernel
theorem dX9_holds_54 : decode cX9_holds 54 = .ok (.baload, 1) := by decide +kernel
theorem dX9_holds_55 : decode cX9_holds 55 = .ok (.ifCond .ne 7, 3) := by decide +kernel
theorem dX9_holds_58 : decode cX9_holds 58 = .ok (.iconst 1, 1) := by decide +kernel
theorem dX9_holds_59 : decode cX9_holds 59 = .ok (.goto 4, 3) := by decide +kernel
theorem dX9_holds_62 : decode cX9_holds 62 = .ok (.iconst 0, 1) := by decide +kernel
theorem dX9_holds_63 : decode cX9_holds 63 = .ok (.bastore, 1) := by decide +kernel
theorem dX9_holds_64 : decode cX9_holds 64 = .ok (.goto 186, 3) := by decide +kernel
theorem dX9_holds_67 : decode cX9_holds 67 = .ok (.iload 6, 2) := by decide +kernel
theorem dX9_holds_69 : decode cX9_holds 69 = .ok (.ifCond .ge 82, 3) := by decide +kernel
theorem dX9_holds_72 : decode cX9_holds 72 = .ok (.iinc 4 (-1), 3) := by decide +kernel
theorem dX9_holds_75 : decode cX9_holds 75 = .ok (.aload_n 0, 1) := by decide +kernel
theorem dX9_holds_76 : decode cX9_holds 76 = .ok (.getfield 92, 3) := by decide +kernel
theorem dX9_holds_79 : decode cX9_holds 79 = .ok (.iload 4, 2) := by decide +kernel
theorem dX9_holds_81 : decode cX9_holds 81 = .ok (.iconst 1, 1) := by decide +kernel
theorem dX9_holds_82 : decode cX9_holds 82 = .ok (.isub, 1) := by decide +kernel
theorem dX9_holds_83 : decode cX9_holds 83 = .ok (.iload 6, 2) := by decide +kernel
theorem dX9_holds_85 : decode cX9_holds 85 = .ok (.bipush (-38), 2) := by decide +kernel
theorem dX9_holds_87 : decode cX9_holds 87 = .ok (.if_icmp .ne 33, 3) := by decide +kernel
theorem dX9_holds_90 : decode cX9_holds 90 = .ok (.aload_n 0, 1) := by decide +kernel
theorem dX9_holds_91 : decode cX9_holds 91 = .ok (.getfield 92, 3) := by decide +kernel
theorem dX9_holds_94 : decode cX9_holds 94 = .ok (.iload 4, 2) := by decide +kernel
theorem dX9_holds_96 : decode cX9_holds 96 = .ok (.iconst 1, 1) := by decide +kernel
theorem dX9_holds_97 : decode cX9_holds 97 = .ok (.isub, 1) := by decide +kernel
theorem dX9_holds_98 : decode cX9_holds 98 = .ok (.baload, 1) := by decide +kernel
theorem dX9_holds_99 : decode cX9_holds 99 = .ok (.ifCond .eq 17, 3) := by decide +kernel
theorem dX9_holds_102 : decode cX9_holds 102 = .ok (.aload_n 0, 1) := by decide +kernel
theorem dX9_holds_103 : decode cX9_holds 103 = .ok (.getfield 92, 3) := by decide +kernel
theorem dX9_holds_106 : decode cX9_holds 106 = .ok (.iload 4, 2) := by decide +kernel
theorem dX9_holds_108 : decode cX9_holds 108 = .ok (.baload, 1) := by decide +kernel
theorem dX9_holds_109 : decode cX9_holds 109 = .ok (.ifCond .eq 7, 3) := by decide +kernel
theorem dX9_holds_112 : decode cX9_holds 112 = .ok (.iconst 1, 1) := by decide +kernel
theorem dX9_holds_113 : decode cX9_holds 113 = .ok (.goto 34, 3) := by decide +kernel
theorem dX9_holds_116 : decode cX9_holds 116 = .ok (.iconst 0, 1) := by decide +kernel
theorem dX9_holds_117 : decode cX9_holds 117 = .ok (.goto 30, 3) := by decide +kernel
theorem dX9_holds_120 : decode cX9_holds 120 = .ok (.aload_n 0, 1) := by decide +kernel
theorem dX9_holds_121 : decode cX9_holds 121 = .ok (.getfield 92, 3) := by decide +kernel
theorem dX9_holds_124 : decode cX9_holds 124 = .ok (.iload 4, 2) := by decide +kernel
theorem dX9_holds_126 : decode cX9_holds 126 = .ok (.iconst 1, 1) := by decide +kernel
theorem dX9_holds_127 : decode cX9_holds 127 = .ok (.isub, 1) := by decide +kernel
theorem dX9_holds_128 : decode cX9_holds 128 = .ok (.baload, 1) := by decide +kernel
theorem dX9_holds_129 : decode cX9_holds 129 = .ok (.ifCond .ne 13, 3) := by decide +kernel
theorem dX9_holds_132 : decode cX9_holds 132 = .ok (.aload_n 0, 1) := by decide +kernel
theorem dX9_holds_133 : decode cX9_holds 133 = .ok (.getfield 92, 3) := by decide +kernel
theorem dX9_holds_136 : decode cX9_holds 136 = .ok (.iload 4, 2) := by decide +kernel
theorem dX9_holds_138 : decode cX9_holds 138 = .ok (.baload, 1) := by decide +kernel
theorem dX9_holds_139 : decode cX9_holds 139 = .ok (.ifCond .eq 7, 3) := by decide +kernel
theorem dX9_holds_142 : decode cX9_holds 142 = .ok (.iconst 1, 1) := by decide +kernel
theorem dX9_holds_143 : decode cX9_holds 143 = .ok (.goto 4, 3) := by decide +kernel
theorem dX9_holds_146 : decode cX9_holds 146 = .ok (.iconst 0, 1) := by decide +kernel
theorem dX9_holds_147 : decode cX9_holds 147 = .ok (.bastore, 1) := by decide +kernel
theorem dX9_holds_148 : decode cX9_holds 148 = .ok (.goto 102, 3) := by decide +kernel
theorem dX9_holds_151 : decode cX9_holds 151 = .ok (.aload_n 0, 1) := by decide +kernel
theorem dX9_holds_152 : decode cX9_holds 152 = .ok (.iload 6, 2) := by decide +kernel
theorem dX9_holds_154 : decode cX9_holds 154 = .ok (.sipush 10000, 3) := by decide +kernel
theorem dX9_holds_157 : decode cX9_holds 157 = .ok (.idiv, 1) := by decide +kernel
theorem dX9_holds_158 : decode cX9_holds 158 = .ok (.iload_n 2, 1) := by decide +kernel
theorem dX9_holds_159 : decode cX9_holds 159 = .ok (.iload_n 3, 1) := by decide +kernel
theorem dX9_holds_160 : decode cX9_holds 160 = .ok (.invokevirtual 235, 3) := by decide +kernel
theorem dX9_holds_163 : decode cX9_holds 163 = .ok (.istore 7, 2) := by decide +kernel
theorem dX9_holds_165 : decode cX9_holds 165 = .ok (.iload 6, 2) := by decide +kernel
theorem dX9_holds_167 : decode cX9_holds 167 = .ok (.bipush 100, 2) := by decide +kernel
theorem dX9_holds_169 : decode cX9_holds 169 = .ok (.idiv, 1) := by decide +kernel
theorem dX9_holds_170 : decode cX9_holds 170 = .ok (.bipush 100, 2) := by decide +kernel
theorem dX9_holds_172 : decode cX9_holds 172 = .ok (.irem, 1) := by decide +kernel
theorem dX9_holds_173 : decode cX9_holds 173 = .ok (.istore 8, 2) := by decide +kernel
theorem dX9_holds_175 : decode cX9_holds 175 = .ok (.aload_n 0, 1) := by decide +kernel
theorem dX9_holds_176 : decode cX9_holds 176 = .ok (.getfield 92, 3) := by decide +kernel
theorem dX9_holds_179 : decode cX9_holds 179 = .ok (.iload 4, 2) := by decide +kernel
theorem dX9_holds_181 : decode cX9_holds 181 = .ok (.iload 8, 2) := by decide +kernel
theorem dX9_holds_183 : decode cX9_holds 183 = .ok (.bipush 60, 2) := by decide +kernel
theorem dX9_holds_185 : decode cX9_holds 185 = .ok (.if_icmp .ne 21, 3) := by decide +kernel
theorem dX9_holds_188 : decode cX9_holds 188 = .ok (.iload 7, 2) := by decide +kernel
theorem dX9_holds_190 : decode cX9_holds 190 = .ok (.iload 6, 2) := by decide +kernel
theorem dX9_holds_192 : decode cX9_holds 192 = .ok (.bipush 100, 2) := by decide +kernel
theorem dX9_holds_194 : decode cX9_holds 194 = .ok (.irem, 1) := by decide +kernel
theorem dX9_holds_195 : decode cX9_holds 195 = .ok (.if_icmp .ge 7, 3) := by decide +kernel
theorem dX9_holds_198 : decode cX9_holds 198 = .ok (.iconst 1, 1) := by decide +kernel
theorem dX9_holds_199 : decode cX9_holds 199 = .ok (.goto 47, 3) := by decide +kernel
theorem dX9_holds_202 : decode cX9_holds 202 = .ok (.iconst 0, 1) := by decide +kernel
theorem dX9_holds_203 : decode cX9_holds 203 = .ok (.goto 43, 3) := by decide +kernel
theorem dX9_holds_206 : decode cX9_holds 206 = .ok (.iload 8, 2) := by decide +kernel
theorem dX9_holds_208 : decode cX9_holds 208 = .ok (.bipush 61, 2) := by decide +kernel
theorem dX9_holds_210 : decode cX9_holds 210 = .ok (.if_icmp .ne 21, 3) := by decide +kernel
theorem dX9_holds_213 : decode cX9_holds 213 = .ok (.iload 7, 2) := by decide +kernel
theorem dX9_holds_215 : decode cX9_holds 215 = .ok (.iload 6, 2) := by decide +kernel
theorem dX9_holds_217 : decode cX9_holds 217 = .ok (.bipush 100, 2) := by decide +kernel
theorem dX9_holds_219 : decode cX9_holds 219 = .ok (.irem, 1) := by decide +kernel
theorem dX9_holds_220 : decode cX9_holds 220 = .ok (.if_icmp .ne 7, 3) := by decide +kernel
theorem dX9_holds_223 : decode cX9_holds 223 = .ok (.iconst 1, 1) := by decide +kernel
theorem dX9_holds_224 : decode cX9_holds 224 = .ok (.goto 22, 3) := by decide +kernel
theorem dX9_holds_227 : decode cX9_holds 227 = .ok (.iconst 0, 1) := by decide +kernel
theorem dX9_holds_228 : decode cX9_holds 228 = .ok (.goto 18, 3) := by decide +kernel
theorem dX9_holds_231 : decode cX9_holds 231 = .ok (.iload 7, 2) := by decide +kernel
theorem dX9_holds_233 : decode cX9_holds 233 = .ok (.iload 6, 2) := by decide +kernel
theorem dX9_holds_235 : decode cX9_holds 235 = .ok (.bipush 100, 2) := by decide +kernel
theorem dX9_holds_237 : decode cX9_holds 237 = .ok (.irem, 1) := by decide +kernel
theorem dX9_holds_238 : decode cX9_holds 238 = .ok (.if_icmp .le 7, 3) := by decide +kernel
theorem dX9_holds_241 : decode cX9_holds 241 = .ok (.iconst 1, 1) := by decide +kernel
theorem dX9_holds_242 : decode cX9_holds 242 = .ok (.goto 4, 3) := by decide +kernel
theorem dX9_holds_245 : decode cX9_holds 245 = .ok (.iconst 0, 1) := by decide +kernel
theorem dX9_holds_246 : decode cX9_holds 246 = .ok (.bastore, 1) := by decide +kernel
theorem dX9_holds_247 : decode cX9_holds 247 = .ok (.iinc 4 1, 3) := by decide +kernel
theorem dX9_holds_250 : decode cX9_holds 250 = .ok (.iinc 5 1, 3) := by decide +kernel
theorem dX9_holds_253 : decode cX9_holds 253 = .ok (.goto (-242), 3) := by decide +kernel
theorem dX9_holds_256 : decode cX9_holds 256 = .ok (.aload_n 0, 1) := by decide +kernel
theorem dX9_holds_257 : decode cX9_holds 257 = .ok (.getfield 92, 3) := by decide +kernel
theorem dX9_holds_260 : decode cX9_holds 260 = .ok (.iconst 0, 1) := by decide +kernel
theorem dX9_holds_261 : decode cX9_holds 261 = .ok (.baload, 1) := by decide +kernel
theorem dX9_holds_262 : decode cX9_holds 262 = .ok (.ireturn, 1) := by decide +kernel
theorem dX9_some_0 : decode cX9_some 0 = .ok (.bipush 8, 2) := by decide +kernel
theorem dX9_some_2 : decode cX9_some 2 = .ok (.iload_n 1, 1) := by decide +kernel
theorem dX9_some_3 : decode cX9_some 3 = .ok (.imul, 1) := by decide +kernel
theorem dX9_some_4 : decode cX9_some 4 = .ok (.istore 5, 2) := by decide +kernel
theorem dX9_some_6 : decode cX9_some 6 = .ok (.iload 5, 2) := by decide +kernel
theorem dX9_some_8 : decode cX9_some 8 = .ok (.bipush 8, 2) := by decide +kernel
theorem dX9_some_10 : decode cX9_some 10 = .ok (.iload_n 1, 1) := by decide +kernel
theorem dX9_some_11 : decode cX9_some 11 = .ok (.imul, 1) := by decide +kernel
theorem dX9_some_12 : decode cX9_some 12 = .ok (.aload_n 0, 1) := by decide +kernel
theorem dX9_some_13 : decode cX9_some 13 = .ok (.getfield 44, 3) := by decide +kernel
theorem dX9_some_16 : decode cX9_some 16 = .ok (.iload_n 1, 1) := by decide +kernel
theorem dX9_some_17 : decode cX9_some 17 = .ok (.iaload, 1) := by decide +kernel
theorem dX9_some_18 : decode cX9_some 18 = .ok (.iadd, 1) := by decide +kernel
theorem dX9_some_19 : decode cX9_some 19 = .ok (.if_icmp .ge 34, 3) := by decide +kernel
theorem dX9_some_22 : decode cX9_some 22 = .ok (.aload_n 0, 1) := by decide +kernel
theorem dX9_some_23 : decode cX9_some 23 = .ok (.getfield 47, 3) := by decide +kernel
theorem dX9_some_26 : decode cX9_some 26 = .ok (.iload 5, 2) := by decide +kernel
theorem dX9_some_28 : decode cX9_some 28 = .ok (.iaload, 1) := by decide +kernel
theorem dX9_some_29 : decode cX9_some 29 = .ok (.iload_n 2, 1) := by decide +kernel
theorem dX9_some_30 : decode cX9_some 30 = .ok (.if_icmp .ne 17, 3) := by decide +kernel
theorem dX9_some_33 : decode cX9_some 33 = .ok (.aload_n 0, 1) := by decide +kernel
theorem dX9_some_34 : decode cX9_some 34 = .ok (.iload 5, 2) := by decide +kernel
theorem dX9_some_36 : decode cX9_some 36 = .ok (.iload_n 3, 1) := by decide +kernel
theorem dX9_some_37 : decode cX9_some 37 = .ok (.iload 4, 2) := by decide +kernel
theorem dX9_some_39 : decode cX9_some 39 = .ok (.invokevirtual 238, 3) := by decide +kernel
theorem dX9_some_42 : decode cX9_some 42 = .ok (.ifCond .eq 5, 3) := by decide +kernel
theorem dX9_some_45 : decode cX9_some 45 = .ok (.iconst 1, 1) := by decide +kernel
theorem dX9_some_46 : decode cX9_some 46 = .ok (.ireturn, 1) := by decide +kernel
theorem dX9_some_47 : decode cX9_some 47 = .ok (.iinc 5 1, 3) := by decide +kernel
theorem dX9_some_50 : decode cX9_some 50 = .ok (.goto (-44), 3) := by decide +kernel
theorem dX9_some_53 : decode cX9_some 53 = .ok (.iconst 0, 1) := by decide +kernel
theorem dX9_some_54 : decode cX9_some 54 = .ok (.ireturn, 1) := by decide +kernel
theorem dX9_knownSide_0 : decode cX9_knownSide 0 = .ok (.aload_n 0, 1) := by decide +kernel
theorem dX9_knownSide_1 : decode cX9_knownSide 1 = .ok (.getfield 16, 3) := by decide +kernel
theorem dX9_knownSide_4 : decode cX9_knownSide 4 = .ok (.iload_n 2, 1) := by decide +kernel
theorem dX9_knownSide_5 : decode cX9_knownSide 5 = .ok (.ifCond .ne 17, 3) := by decide +kernel
theorem dX9_knownSide_8 : decode cX9_knownSide 8 = .ok (.aload_n 0, 1) := by decide +kernel
theorem dX9_knownSide_9 : decode cX9_knownSide 9 = .ok (.getfield 23, 3) := by decide +kernel
theorem dX9_knownSide_12 : decode cX9_knownSide 12 = .ok (.aload_n 0, 1) := by decide +kernel
theorem dX9_knownSide_13 : decode cX9_knownSide 13 = .ok (.iload_n 1, 1) := by decide +kernel
theorem dX9_knownSide_14 : decode cX9_knownSide 14 = .ok (.iconst 0, 1) := by decide +kernel
theorem dX9_knownSide_15 : decode cX9_knownSide 15 = .ok (.invokevirtual 148, 3) := by decide +kernel
theorem dX9_knownSide_18 : decode cX9_knownSide 18 = .ok (.iaload, 1) := by decide +kernel
theorem dX9_knownSide_19 : decode cX9_knownSide 19 = .ok (.goto 14, 3) := by decide +kernel
theorem dX9_knownSide_22 : decode cX9_knownSide 22 = .ok (.aload_n 0, 1) := by decide +kernel
theorem dX9_knownSide_23 : decode cX9_knownSide 23 = .ok (.getfield 20, 3) := by decide +kernel
theorem dX9_knownSide_26 : decode cX9_knownSide 26 = .ok (.aload_n 0, 1) := by decide +kernel
theorem dX9_knownSide_27 : decode cX9_knownSide 27 = .ok (.iload_n 1, 1) := by decide +kernel
theorem dX9_knownSide_28 : decode cX9_knownSide 28 = .ok (.iconst 0, 1) := by decide +kernel
theorem dX9_knownSide_29 : decode cX9_knownSide 29 = .ok (.invokevirtual 148, 3) := by decide +kernel
theorem dX9_knownSide_32 : decode cX9_knownSide 32 = .ok (.iaload, 1) := by decide +kernel
theorem dX9_knownSide_33 : decode cX9_knownSide 33 = .ok (.iaload, 1) := by decide +kernel
theorem dX9_knownSide_34 : decode cX9_knownSide 34 = .ok (.ireturn, 1) := by decide +kernel
theorem dX9_isBarred_0 : decode cX9_isBarred 0 = .ok (.aload_n 0, 1) := by decide +kernel
theorem dX9_isBarred_1 : decode cX9_isBarred 1 = .ok (.iload_n 1, 1) := by decide +kernel
theorem dX9_isBarred_2 : decode cX9_isBarred 2 = .ok (.iconst 3, 1) := by decide +kernel
theorem dX9_isBarred_3 : decode cX9_isBarred 3 = .ok (.iload_n 2, 1) := by decide +kernel
theorem dX9_isBarred_4 : decode cX9_isBarred 4 = .ok (.aload_n 0, 1) := by decide +kernel
theorem dX9_isBarred_5 : decode cX9_isBarred 5 = .ok (.iload_n 2, 1) := by decide +kernel
theorem dX9_isBarred_6 : decode cX9_isBarred 6 = .ok (.iload_n 3, 1) := by decide +kernel
theorem dX9_isBarred_7 : decode cX9_isBarred 7 = .ok (.invokevirtual 241, 3) := by decide +kernel
theorem dX9_isBarred_10 : decode cX9_isBarred 10 = .ok (.invokevirtual 244, 3) := by decide +kernel
theorem dX9_isBarred_13 : decode cX9_isBarred 13 = .ok (.ireturn, 1) := by decide +kernel
theorem dX9_dueBy_0 : decode cX9_dueBy 0 = .ok (.aload_n 0, 1) := by decide +kernel
theorem dX9_dueBy_1 : decode cX9_dueBy 1 = .ok (.iload_n 2, 1) := by decide +kernel
theorem dX9_dueBy_2 : decode cX9_dueBy 2 = .ok (.invokevirtual 232, 3) := by decide +kernel
theorem dX9_dueBy_5 : decode cX9_dueBy 5 = .ok (.ifCond .eq 17, 3) := by decide +kernel
theorem dX9_dueBy_8 : decode cX9_dueBy 8 = .ok (.aload_n 0, 1) := by decide +kernel
theorem dX9_dueBy_9 : decode cX9_dueBy 9 = .ok (.iload_n 2, 1) := by decide +kernel
theorem dX9_dueBy_10 : decode cX9_dueBy 10 = .ok (.invokevirtual 232, 3) := by decide +kernel
theorem dX9_dueBy_13 : decode cX9_dueBy 13 = .ok (.aload_n 0, 1) := by decide +kernel
theorem dX9_dueBy_14 : decode cX9_dueBy 14 = .ok (.getfield 71, 3) := by decide +kernel
theorem dX9_dueBy_17 : decode cX9_dueBy 17 = .ok (.iload_n 1, 1) := by decide +kernel
theorem dX9_dueBy_18 : decode cX9_dueBy 18 = .ok (.iaload, 1) := by decide +kernel
theorem dX9_dueBy_19 : decode cX9_dueBy 19 = .ok (.if_icmp .ge 5, 3) := by decide +kernel
theorem dX9_dueBy_22 : decode cX9_dueBy 22 = .ok (.iconst (-1), 1) := by decide +kernel
theorem dX9_dueBy_23 : decode cX9_dueBy 23 = .ok (.ireturn, 1) := by decide +kernel
theorem dX9_dueBy_24 : decode cX9_dueBy 24 = .ok (.aload_n 0, 1) := by decide +kernel
theorem dX9_dueBy_25 : decode cX9_dueBy 25 = .ok (.iload_n 2, 1) := by decide +kernel
theorem dX9_dueBy_26 : decode cX9_dueBy 26 = .ok (.iconst 0, 1) := by decide +kernel
theorem dX9_dueBy_27 : decode cX9_dueBy 27 = .ok (.invokevirtual 241, 3) := by decide +kernel
theorem dX9_dueBy_30 : decode cX9_dueBy 30 = .ok (.istore_n 3, 1) := by decide +kernel
theorem dX9_dueBy_31 : decode cX9_dueBy 31 = .ok (.aload_n 0, 1) := by decide +kernel
theorem dX9_dueBy_32 : decode cX9_dueBy 32 = .ok (.iload_n 1, 1) := by decide +kernel
theorem dX9_dueBy_33 : decode cX9_dueBy 33 = .ok (.iconst 0, 1) := by decide +kernel
theorem dX9_dueBy_34 : decode cX9_dueBy 34 = .ok (.iload_n 2, 1) := by decide +kernel
theorem dX9_dueBy_35 : decode cX9_dueBy 35 = .ok (.iload_n 3, 1) := by decide +kernel
theorem dX9_dueBy_36 : decode cX9_dueBy 36 = .ok (.invokevirtual 244, 3) := by decide +kernel
theorem dX9_dueBy_39 : decode cX9_dueBy 39 = .ok (.ifCond .ne 14, 3) := by decide +kernel
theorem dX9_dueBy_42 : decode cX9_dueBy 42 = .ok (.aload_n 0, 1) := by decide +kernel
theorem dX9_dueBy_43 : decode cX9_dueBy 43 = .ok (.iload_n 1, 1) := by decide +kernel
theorem dX9_dueBy_44 : decode cX9_dueBy 44 = .ok (.iconst 1, 1) := by decide +kernel
theorem dX9_dueBy_45 : decode cX9_dueBy 45 = .ok (.iload_n 2, 1) := by decide +kernel
theorem dX9_dueBy_46 : decode cX9_dueBy 46 = .ok (.iload_n 3, 1) := by decide +kernel
theorem dX9_dueBy_47 : decode cX9_dueBy 47 = .ok (.invokevirtual 244, 3) := by decide +kernel
theorem dX9_dueBy_50 : decode cX9_dueBy 50 = .ok (.ifCond .eq 5, 3) := by decide +kernel
theorem dX9_dueBy_53 : decode cX9_dueBy 53 = .ok (.iconst (-1), 1) := by decide +kernel
theorem dX9_dueBy_54 : decode cX9_dueBy 54 = .ok (.ireturn, 1) := by decide +kernel
theorem dX9_dueBy_55 : decode cX9_dueBy 55 = .ok (.bipush 8, 2) := by decide +kernel
theorem dX9_dueBy_57 : decode cX9_dueBy 57 = .ok (.iload_n 1, 1) := by decide +kernel
theorem dX9_dueBy_58 : decode cX9_dueBy 58 = .ok (.imul, 1) := by decide +kernel
theorem dX9_dueBy_59 : decode cX9_dueBy 59 = .ok (.istore 4, 2) := by decide +kernel
theorem dX9_dueBy_61 : decode cX9_dueBy 61 = .ok (.iload 4, 2) := by decide +kernel
theorem dX9_dueBy_63 : decode cX9_dueBy 63 = .ok (.bipush 8, 2) := by decide +kernel
theorem dX9_dueBy_65 : decode cX9_dueBy 65 = .ok (.iload_n 1, 1) := by decide +kernel
theorem dX9_dueBy_66 : decode cX9_dueBy 66 = .ok (.imul, 1) := by decide +kernel
theorem dX9_dueBy_67 : decode cX9_dueBy 67 = .ok (.aload_n 0, 1) := by decide +kernel
theorem dX9_dueBy_68 : decode cX9_dueBy 68 = .ok (.getfield 44, 3) := by decide +kernel
theorem dX9_dueBy_71 : decode cX9_dueBy 71 = .ok (.iload_n 1, 1) := by decide +kernel
theorem dX9_dueBy_72 : decode cX9_dueBy 72 = .ok (.iaload, 1) := by decide +kernel
theorem dX9_dueBy_73 : decode cX9_dueBy 73 = .ok (.iadd, 1) := by decide +kernel
theorem dX9_dueBy_74 : decode cX9_dueBy 74 = .ok (.if_icmp .ge 55, 3) := by decide +kernel
theorem dX9_dueBy_77 : decode cX9_dueBy 77 = .ok (.aload_n 0, 1) := by decide +kernel
theorem dX9_dueBy_78 : decode cX9_dueBy 78 = .ok (.getfield 47, 3) := by decide +kernel
theorem dX9_dueBy_81 : decode cX9_dueBy 81 = .ok (.iload 4, 2) := by decide +kernel
theorem dX9_dueBy_83 : decode cX9_dueBy 83 = .ok (.iaload, 1) := by decide +kernel
theorem dX9_dueBy_84 : decode cX9_dueBy 84 = .ok (.iconst 2, 1) := by decide +kernel
theorem dX9_dueBy_85 : decode cX9_dueBy 85 = .ok (.if_icmp .ne 38, 3) := by decide +kernel
theorem dX9_dueBy_88 : decode cX9_dueBy 88 = .ok (.aload_n 0, 1) := by decide +kernel
theorem dX9_dueBy_89 : decode cX9_dueBy 89 = .ok (.iload 4, 2) := by decide +kernel
theorem dX9_dueBy_91 : decode cX9_dueBy 91 = .ok (.iload_n 2, 1) := by decide +kernel
theorem dX9_dueBy_92 : decode cX9_dueBy 92 = .ok (.aload_n 0, 1) := by decide +kernel
theorem dX9_dueBy_93 : decode cX9_dueBy 93 = .ok (.iload_n 2, 1) := by decide +kernel
theorem dX9_dueBy_94 : decode cX9_dueBy 94 = .ok (.aload_n 0, 1) := by decide +kernel
theorem dX9_dueBy_95 : decode cX9_dueBy 95 = .ok (.getfield 50, 3) := by decide +kernel
theorem dX9_dueBy_98 : decode cX9_dueBy 98 = .ok (.iload 4, 2) := by decide +kernel
theorem dX9_dueBy_100 : decode cX9_dueBy 100 = .ok (.iaload, 1) := by decide +kernel
theorem dX9_dueBy_101 : decode cX9_dueBy 101 = .ok (.bipush 6, 2) := by decide +kernel
theorem dX9_dueBy_103 : decode cX9_dueBy 103 = .ok (.if_icmp .ne 7, 3) := by decide +kernel
theorem dX9_dueBy_106 : decode cX9_dueBy 106 = .ok (.iconst 1, 1) := by decide +kernel
theorem dX9_dueBy_107 : decode cX9_dueBy 107 = .ok (.goto 4, 3) := by decide +kernel
theorem dX9_dueBy_110 : decode cX9_dueBy 110 = .ok (.iconst 0, 1) := by decide +kernel
theorem dX9_dueBy_111 : decode cX9_dueBy 111 = .ok (.invokevirtual 241, 3) := by decide +kernel
theorem dX9_dueBy_114 : decode cX9_dueBy 114 = .ok (.invokevirtual 238, 3) := by decide +kernel
theorem dX9_dueBy_117 : decode cX9_dueBy 117 = .ok (.ifCond .eq 6, 3) := by decide +kernel
theorem dX9_dueBy_120 : decode cX9_dueBy 120 = .ok (.iload 4, 2) := by decide +kernel
theorem dX9_dueBy_122 : decode cX9_dueBy 122 = .ok (.ireturn, 1) := by decide +kernel
theorem dX9_dueBy_123 : decode cX9_dueBy 123 = .ok (.iinc 4 1, 3) := by decide +kernel
theorem dX9_dueBy_126 : decode cX9_dueBy 126 = .ok (.goto (-65), 3) := by decide +kernel
theorem dX9_dueBy_129 : decode cX9_dueBy 129 = .ok (.iconst (-1), 1) := by decide +kernel
theorem dX9_dueBy_130 : decode cX9_dueBy 130 = .ok (.ireturn, 1) := by decide +kernel
theorem dX9_whoOf_0 : decode cX9_whoOf 0 = .ok (.iload_n 3, 1) := by decide +kernel
theorem dX9_whoOf_1 : decode cX9_whoOf 1 = .ok (.bipush 6, 2) := by decide +kernel
theorem dX9_whoOf_3 : decode cX9_whoOf 3 = .ok (.if_icmp .ne 7, 3) := by decide +kernel
theorem dX9_whoOf_6 : decode cX9_whoOf 6 = .ok (.iconst 1, 1) := by decide +kernel
theorem dX9_whoOf_7 : decode cX9_whoOf 7 = .ok (.goto 4, 3) := by decide +kernel
theorem dX9_whoOf_10 : decode cX9_whoOf 10 = .ok (.iconst 0, 1) := by decide +kernel
theorem dX9_whoOf_11 : decode cX9_whoOf 11 = .ok (.istore 4, 2) := by decide +kernel
theorem dX9_whoOf_13 : decode cX9_whoOf 13 = .ok (.aload_n 0, 1) := by decide +kernel
theorem dX9_whoOf_14 : decode cX9_whoOf 14 = .ok (.iload_n 1, 1) := by decide +kernel
theorem dX9_whoOf_15 : decode cX9_whoOf 15 = .ok (.iload_n 2, 1) := by decide +kernel
theorem dX9_whoOf_16 : decode cX9_whoOf 16 = .ok (.iload 4, 2) := by decide +kernel
theorem dX9_whoOf_18 : decode cX9_whoOf 18 = .ok (.invokevirtual 248, 3) := by decide +kernel
theorem dX9_whoOf_21 : decode cX9_whoOf 21 = .ok (.ifCond .ne 6, 3) := by decide +kernel
theorem dX9_whoOf_24 : decode cX9_whoOf 24 = .ok (.iload 4, 2) := by decide +kernel
theorem dX9_whoOf_26 : decode cX9_whoOf 26 = .ok (.ireturn, 1) := by decide +kernel
theorem dX9_whoOf_27 : decode cX9_whoOf 27 = .ok (.aload_n 0, 1) := by decide +kernel
theorem dX9_whoOf_28 : decode cX9_whoOf 28 = .ok (.iload_n 1, 1) := by decide +kernel
theorem dX9_whoOf_29 : decode cX9_whoOf 29 = .ok (.iload_n 2, 1) := by decide +kernel
theorem dX9_whoOf_30 : decode cX9_whoOf 30 = .ok (.iconst 1, 1) := by decide +kernel
theorem dX9_whoOf_31 : decode cX9_whoOf 31 = .ok (.iload 4, 2) := by decide +kernel
theorem dX9_whoOf_33 : decode cX9_whoOf 33 = .ok (.isub, 1) := by decide +kernel
theorem dX9_whoOf_34 : decode cX9_whoOf 34 = .ok (.invokevirtual 248, 3) := by decide +kernel
theorem dX9_whoOf_37 : decode cX9_whoOf 37 = .ok (.ifCond .eq 7, 3) := by decide +kernel
theorem dX9_whoOf_40 : decode cX9_whoOf 40 = .ok (.iconst 2, 1) := by decide +kernel
theorem dX9_whoOf_41 : decode cX9_whoOf 41 = .ok (.goto 7, 3) := by decide +kernel
theorem dX9_whoOf_44 : decode cX9_whoOf 44 = .ok (.iconst 1, 1) := by decide +kernel
theorem dX9_whoOf_45 : decode cX9_whoOf 45 = .ok (.iload 4, 2) := by decide +kernel
theorem dX9_whoOf_47 : decode cX9_whoOf 47 = .ok (.isub, 1) := by decide +kernel
theorem dX9_whoOf_48 : decode cX9_whoOf 48 = .ok (.ireturn, 1) := by decide +kernel
theorem dX9_onto_0 : decode cX9_onto 0 = .ok (.iconst 0, 1) := by decide +kernel
theorem dX9_onto_1 : decode cX9_onto 1 = .ok (.istore_n 3, 1) := by decide +kernel
theorem dX9_onto_2 : decode cX9_onto 2 = .ok (.iload_n 3, 1) := by decide +kernel
theorem dX9_onto_3 : decode cX9_onto 3 = .ok (.aload_n 0, 1) := by decide +kernel
theorem dX9_onto_4 : decode cX9_onto 4 = .ok (.getfield 13, 3) := by decide +kernel
theorem dX9_onto_7 : decode cX9_onto 7 = .ok (.if_icmp .ge 66, 3) := by decide +kernel
theorem dX9_onto_10 : decode cX9_onto 10 = .ok (.aload_n 0, 1) := by decide +kernel
theorem dX9_onto_11 : decode cX9_onto 11 = .ok (.iload_n 3, 1) := by decide +kernel
theorem dX9_onto_12 : decode cX9_onto 12 = .ok (.iconst 0, 1) := by decide +kernel
theorem dX9_onto_13 : decode cX9_onto 13 = .ok (.invokevirtual 148, 3) := by decide +kernel
theorem dX9_onto_16 : decode cX9_onto 16 = .ok (.iload_n 2, 1) := by decide +kernel
theorem dX9_onto_17 : decode cX9_onto 17 = .ok (.if_icmp .ne 12, 3) := by decide +kernel
theorem dX9_onto_20 : decode cX9_onto 20 = .ok (.aload_n 0, 1) := by decide +kernel
theorem dX9_onto_21 : decode cX9_onto 21 = .ok (.iload_n 1, 1) := by decide +kernel
theorem dX9_onto_22 : decode cX9_onto 22 = .ok (.iload_n 3, 1) := by decide +kernel
theorem dX9_onto_23 : decode cX9_onto 23 = .ok (.invokevirtual 251, 3) := by decide +kernel
theorem dX9_onto_26 : decode cX9_onto 26 = .ok (.goto 4, 3) := by decide +kernel
theorem dX9_onto_29 : decode cX9_onto 29 = .ok (.iconst (-1), 1) := by decide +kernel
theorem dX9_onto_30 : decode cX9_onto 30 = .ok (.istore 4, 2) := by decide +kernel
theorem dX9_onto_32 : decode cX9_onto 32 = .ok (.iload 4, 2) := by decide +kernel
theorem dX9_onto_34 : decode cX9_onto 34 = .ok (.ifCond .lt 33, 3) := by decide +kernel
theorem dX9_onto_37 : decode cX9_onto 37 = .ok (.aload_n 0, 1) := by decide +kernel
theorem dX9_onto_38 : decode cX9_onto 38 = .ok (.getfield 50, 3) := by decide +kernel
theorem dX9_onto_41 : decode cX9_onto 41 = .ok (.iload 4, 2) := by decide +kernel
theorem dX9_onto_43 : decode cX9_onto 43 = .ok (.iaload, 1) := by decide +kernel
theorem dX9_onto_44 : decode cX9_onto 44 = .ok (.bipush 6, 2) := by decide +kernel
theorem dX9_onto_46 : decode cX9_onto 46 = .ok (.if_icmp .eq 21, 3) := by decide +kernel
theorem dX9_onto_49 : decode cX9_onto 49 = .ok (.aload_n 0, 1) := by decide +kernel
theorem dX9_onto_50 : decode cX9_onto 50 = .ok (.iload_n 1, 1) := by decide +kernel
theorem dX9_onto_51 : decode cX9_onto 51 = .ok (.iload_n 3, 1) := by decide +kernel
theorem dX9_onto_52 : decode cX9_onto 52 = .ok (.aload_n 0, 1) := by decide +kernel
theorem dX9_onto_53 : decode cX9_onto 53 = .ok (.getfield 50, 3) := by decide +kernel
theorem dX9_onto_56 : decode cX9_onto 56 = .ok (.iload 4, 2) := by decide +kernel
theorem dX9_onto_58 : decode cX9_onto 58 = .ok (.iaload, 1) := by decide +kernel
theorem dX9_onto_59 : decode cX9_onto 59 = .ok (.invokevirtual 254, 3) := by decide +kernel
theorem dX9_onto_62 : decode cX9_onto 62 = .ok (.ifCond .ne 5, 3) := by decide +kernel
theorem dX9_onto_65 : decode cX9_onto 65 = .ok (.iload_n 3, 1) := by decide +kernel
theorem dX9_onto_66 : decode cX9_onto 66 = .ok (.ireturn, 1) := by decide +kernel
theorem dX9_onto_67 : decode cX9_onto 67 = .ok (.iinc 3 1, 3) := by decide +kernel
theorem dX9_onto_70 : decode cX9_onto 70 = .ok (.goto (-68), 3) := by decide +kernel
theorem dX9_onto_73 : decode cX9_onto 73 = .ok (.iconst (-1), 1) := by decide +kernel
theorem dX9_onto_74 : decode cX9_onto 74 = .ok (.ireturn, 1) := by decide +kernel
theorem dX9_comesTo_0 : decode cX9_comesTo 0 = .ok (.aload_n 0, 1) := by decide +kernel
theorem dX9_comesTo_1 : decode cX9_comesTo 1 = .ok (.iload_n 2, 1) := by decide +kernel
theorem dX9_comesTo_2 : decode cX9_comesTo 2 = .ok (.invokevirtual 232, 3) := by decide +kernel
theorem dX9_comesTo_5 : decode cX9_comesTo 5 = .ok (.ifCond .ne 5, 3) := by decide +kernel
theorem dX9_comesTo_8 : decode cX9_comesTo 8 = .ok (.iconst 0, 1) := by decide +kernel
theorem dX9_comesTo_9 : decode cX9_comesTo 9 = .ok (.ireturn, 1) := by decide +kernel
theorem dX9_comesTo_10 : decode cX9_comesTo 10 = .ok (.aload_n 0, 1) := by decide +kernel
theorem dX9_comesTo_11 : decode cX9_comesTo 11 = .ok (.iload_n 2, 1) := by decide +kernel
theorem dX9_comesTo_12 : decode cX9_comesTo 12 = .ok (.iconst 0, 1) := by decide +kernel
theorem dX9_comesTo_13 : decode cX9_comesTo 13 = .ok (.invokevirtual 241, 3) := by decide +kernel
theorem dX9_comesTo_16 : decode cX9_comesTo 16 = .ok (.istore_n 3, 1) := by decide +kernel
theorem dX9_comesTo_17 : decode cX9_comesTo 17 = .ok (.aload_n 0, 1) := by decide +kernel
theorem dX9_comesTo_18 : decode cX9_comesTo 18 = .ok (.iload_n 1, 1) := by decide +kernel
theorem dX9_comesTo_19 : decode cX9_comesTo 19 = .ok (.iconst 0, 1) := by decide +kernel
theorem dX9_comesTo_20 : decode cX9_comesTo 20 = .ok (.iload_n 2, 1) := by decide +kernel
theorem dX9_comesTo_21 : decode cX9_comesTo 21 = .ok (.iload_n 3, 1) := by decide +kernel
theorem dX9_comesTo_22 : decode cX9_comesTo 22 = .ok (.invokevirtual 244, 3) := by decide +kernel
theorem dX9_comesTo_25 : decode cX9_comesTo 25 = .ok (.ifCond .eq 5, 3) := by decide +kernel
theorem dX9_comesTo_28 : decode cX9_comesTo 28 = .ok (.iconst 1, 1) := by decide +kernel
theorem dX9_comesTo_29 : decode cX9_comesTo 29 = .ok (.ireturn, 1) := by decide +kernel
theorem dX9_comesTo_30 : decode cX9_comesTo 30 = .ok (.aload_n 0, 1) := by decide +kernel
theorem dX9_comesTo_31 : decode cX9_comesTo 31 = .ok (.iload_n 1, 1) := by decide +kernel
theorem dX9_comesTo_32 : decode cX9_comesTo 32 = .ok (.iconst 1, 1) := by decide +kernel
theorem dX9_comesTo_33 : decode cX9_comesTo 33 = .ok (.iload_n 2, 1) := by decide +kernel
theorem dX9_comesTo_34 : decode cX9_comesTo 34 = .ok (.iload_n 3, 1) := by decide +kernel
theorem dX9_comesTo_35 : decode cX9_comesTo 35 = .ok (.invokevirtual 244, 3) := by decide +kernel
theorem dX9_comesTo_38 : decode cX9_comesTo 38 = .ok (.ifCond .eq 5, 3) := by decide +kernel
theorem dX9_comesTo_41 : decode cX9_comesTo 41 = .ok (.iconst 2, 1) := by decide +kernel
theorem dX9_comesTo_42 : decode cX9_comesTo 42 = .ok (.ireturn, 1) := by decide +kernel
theorem dX9_comesTo_43 : decode cX9_comesTo 43 = .ok (.aload_n 0, 1) := by decide +kernel
theorem dX9_comesTo_44 : decode cX9_comesTo 44 = .ok (.iload_n 1, 1) := by decide +kernel
theorem dX9_comesTo_45 : decode cX9_comesTo 45 = .ok (.iload_n 2, 1) := by decide +kernel
theorem dX9_comesTo_46 : decode cX9_comesTo 46 = .ok (.invokevirtual 251, 3) := by decide +kernel
theorem dX9_comesTo_49 : decode cX9_comesTo 49 = .ok (.ifCond .lt 5, 3) := by decide +kernel
theorem dX9_comesTo_52 : decode cX9_comesTo 52 = .ok (.iconst 3, 1) := by decide +kernel
theorem dX9_comesTo_53 : decode cX9_comesTo 53 = .ok (.ireturn, 1) := by decide +kernel
theorem dX9_comesTo_54 : decode cX9_comesTo 54 = .ok (.aload_n 0, 1) := by decide +kernel
theorem dX9_comesTo_55 : decode cX9_comesTo 55 = .ok (.iload_n 1, 1) := by decide +kernel
theorem dX9_comesTo_56 : decode cX9_comesTo 56 = .ok (.iconst 5, 1) := by decide +kernel
theorem dX9_comesTo_57 : decode cX9_comesTo 57 = .ok (.iload_n 2, 1) := by decide +kernel
theorem dX9_comesTo_58 : decode cX9_comesTo 58 = .ok (.iload_n 3, 1) := by decide +kernel
theorem dX9_comesTo_59 : decode cX9_comesTo 59 = .ok (.invokevirtual 244, 3) := by decide +kernel
theorem dX9_comesTo_62 : decode cX9_comesTo 62 = .ok (.ifCond .eq 21, 3) := by decide +kernel
theorem dX9_comesTo_65 : decode cX9_comesTo 65 = .ok (.aload_n 0, 1) := by decide +kernel
theorem dX9_comesTo_66 : decode cX9_comesTo 66 = .ok (.iload_n 1, 1) := by decide +kernel
theorem dX9_comesTo_67 : decode cX9_comesTo 67 = .ok (.aload_n 0, 1) := by decide +kernel
theorem dX9_comesTo_68 : decode cX9_comesTo 68 = .ok (.iload_n 2, 1) := by decide +kernel
theorem dX9_comesTo_69 : decode cX9_comesTo 69 = .ok (.iconst 0, 1) := by decide +kernel
theorem dX9_comesTo_70 : decode cX9_comesTo 70 = .ok (.invokevirtual 148, 3) := by decide +kernel
theorem dX9_comesTo_73 : decode cX9_comesTo 73 = .ok (.invokevirtual 257, 3) := by decide +kernel
theorem dX9_comesTo_76 : decode cX9_comesTo 76 = .ok (.ifCond .lt 7, 3) := by decide +kernel
theorem dX9_comesTo_79 : decode cX9_comesTo 79 = .ok (.iconst 4, 1) := by decide +kernel
theorem dX9_comesTo_80 : decode cX9_comesTo 80 = .ok (.goto 4, 3) := by decide +kernel
theorem dX9_comesTo_83 : decode cX9_comesTo 83 = .ok (.iconst 5, 1) := by decide +kernel
theorem dX9_comesTo_84 : decode cX9_comesTo 84 = .ok (.ireturn, 1) := by decide +kernel
theorem dX9_lawFor_0 : decode cX9_lawFor 0 = .ok (.aload_n 0, 1) := by decide +kernel
theorem dX9_lawFor_1 : decode cX9_lawFor 1 = .ok (.getfield 26, 3) := by decide +kernel
theorem dX9_lawFor_4 : decode cX9_lawFor 4 = .ok (.aload_n 0, 1) := by decide +kernel
theorem dX9_lawFor_5 : decode cX9_lawFor 5 = .ok (.iload_n 1, 1) := by decide +kernel
theorem dX9_lawFor_6 : decode cX9_lawFor 6 = .ok (.iconst 0, 1) := by decide +kernel
theorem dX9_lawFor_7 : decode cX9_lawFor 7 = .ok (.invokevirtual 148, 3) := by decide +kernel
theorem dX9_lawFor_10 : decode cX9_lawFor 10 = .ok (.iaload, 1) := by decide +kernel
theorem dX9_lawFor_11 : decode cX9_lawFor 11 = .ok (.ireturn, 1) := by decide +kernel
theorem dX9_comes_0 : decode cX9_comes 0 = .ok (.aload_n 0, 1) := by decide +kernel
theorem dX9_comes_1 : decode cX9_comes 1 = .ok (.iload_n 1, 1) := by decide +kernel
theorem dX9_comes_2 : decode cX9_comes 2 = .ok (.invokevirtual 163, 3) := by decide +kernel
theorem dX9_comes_5 : decode cX9_comes 5 = .ok (.ifCond .eq 16, 3) := by decide +kernel
theorem dX9_comes_8 : decode cX9_comes 8 = .ok (.aload_n 0, 1) := by decide +kernel
theorem dX9_comes_9 : decode cX9_comes 9 = .ok (.aload_n 0, 1) := by decide +kernel
theorem dX9_comes_10 : decode cX9_comes 10 = .ok (.iload_n 1, 1) := by decide +kernel
theorem dX9_comes_11 : decode cX9_comes 11 = .ok (.invokevirtual 260, 3) := by decide +kernel
theorem dX9_comes_14 : decode cX9_comes 14 = .ok (.iload_n 1, 1) := by decide +kernel
theorem dX9_comes_15 : decode cX9_comes 15 = .ok (.invokevirtual 263, 3) := by decide +kernel
theorem dX9_comes_18 : decode cX9_comes 18 = .ok (.goto 4, 3) := by decide +kernel
theorem dX9_comes_21 : decode cX9_comes 21 = .ok (.iconst (-1), 1) := by decide +kernel
theorem dX9_comes_22 : decode cX9_comes 22 = .ok (.ireturn, 1) := by decide +kernel
theorem dX9_oathBy_0 : decode cX9_oathBy 0 = .ok (.iload_n 3, 1) := by decide +kernel
theorem dX9_oathBy_1 : decode cX9_oathBy 1 = .ok (.iconst 3, 1) := by decide +kernel
theorem dX9_oathBy_2 : decode cX9_oathBy 2 = .ok (.if_icmp .ne 12, 3) := by decide +kernel
theorem dX9_oathBy_5 : decode cX9_oathBy 5 = .ok (.aload_n 0, 1) := by decide +kernel
theorem dX9_oathBy_6 : decode cX9_oathBy 6 = .ok (.iload_n 1, 1) := by decide +kernel
theorem dX9_oathBy_7 : decode cX9_oathBy 7 = .ok (.iload_n 2, 1) := by decide +kernel
theorem dX9_oathBy_8 : decode cX9_oathBy 8 = .ok (.invokevirtual 251, 3) := by decide +kernel
theorem dX9_oathBy_11 : decode cX9_oathBy 11 = .ok (.goto 19, 3) := by decide +kernel
theorem dX9_oathBy_14 : decode cX9_oathBy 14 = .ok (.aload_n 0, 1) := by decide +kernel
theorem dX9_oathBy_15 : decode cX9_oathBy 15 = .ok (.iload_n 1, 1) := by decide +kernel
theorem dX9_oathBy_16 : decode cX9_oathBy 16 = .ok (.aload_n 0, 1) := by decide +kernel
theorem dX9_oathBy_17 : decode cX9_oathBy 17 = .ok (.iload_n 1, 1) := by decide +kernel
theorem dX9_oathBy_18 : decode cX9_oathBy 18 = .ok (.aload_n 0, 1) := by decide +kernel
theorem dX9_oathBy_19 : decode cX9_oathBy 19 = .ok (.iload_n 2, 1) := by decide +kernel
theorem dX9_oathBy_20 : decode cX9_oathBy 20 = .ok (.iconst 0, 1) := by decide +kernel
theorem dX9_oathBy_21 : decode cX9_oathBy 21 = .ok (.invokevirtual 148, 3) := by decide +kernel
theorem dX9_oathBy_24 : decode cX9_oathBy 24 = .ok (.invokevirtual 257, 3) := by decide +kernel
theorem dX9_oathBy_27 : decode cX9_oathBy 27 = .ok (.invokevirtual 251, 3) := by decide +kernel
theorem dX9_oathBy_30 : decode cX9_oathBy 30 = .ok (.ireturn, 1) := by decide +kernel
theorem dX9_due_0 : decode cX9_due 0 = .ok (.aload_n 0, 1) := by decide +kernel
theorem dX9_due_1 : decode cX9_due 1 = .ok (.iload_n 1, 1) := by decide +kernel
theorem dX9_due_2 : decode cX9_due 2 = .ok (.invokevirtual 163, 3) := by decide +kernel
theorem dX9_due_5 : decode cX9_due 5 = .ok (.ifCond .eq 13, 3) := by decide +kernel
theorem dX9_due_8 : decode cX9_due 8 = .ok (.aload_n 0, 1) := by decide +kernel
theorem dX9_due_9 : decode cX9_due 9 = .ok (.iload_n 2, 1) := by decide +kernel
theorem dX9_due_10 : decode cX9_due 10 = .ok (.iconst 0, 1) := by decide +kernel
theorem dX9_due_11 : decode cX9_due 11 = .ok (.iconst 2, 1) := by decide +kernel
theorem dX9_due_12 : decode cX9_due 12 = .ok (.invokevirtual 144, 3) := by decide +kernel
theorem dX9_due_15 : decode cX9_due 15 = .ok (.ifCond .ne 5, 3) := by decide +kernel
theorem dX9_due_18 : decode cX9_due 18 = .ok (.iconst (-1), 1) := by decide +kernel
theorem dX9_due_19 : decode cX9_due 19 = .ok (.ireturn, 1) := by decide +kernel
theorem dX9_due_20 : decode cX9_due 20 = .ok (.aload_n 0, 1) := by decide +kernel
theorem dX9_due_21 : decode cX9_due 21 = .ok (.iload_n 1, 1) := by decide +kernel
theorem dX9_due_22 : decode cX9_due 22 = .ok (.invokevirtual 260, 3) := by decide +kernel
theorem dX9_due_25 : decode cX9_due 25 = .ok (.istore_n 3, 1) := by decide +kernel
theorem dX9_due_26 : decode cX9_due 26 = .ok (.aload_n 0, 1) := by decide +kernel
theorem dX9_due_27 : decode cX9_due 27 = .ok (.iload_n 3, 1) := by decide +kernel
theorem dX9_due_28 : decode cX9_due 28 = .ok (.iload_n 1, 1) := by decide +kernel
theorem dX9_due_29 : decode cX9_due 29 = .ok (.invokevirtual 263, 3) := by decide +kernel
theorem dX9_due_32 : decode cX9_due 32 = .ok (.istore 4, 2) := by decide +kernel
theorem dX9_due_34 : decode cX9_due 34 = .ok (.iload 4, 2) := by decide +kernel
theorem dX9_due_36 : decode cX9_due 36 = .ok (.iconst 3, 1) := by decide +kernel
theorem dX9_due_37 : decode cX9_due 37 = .ok (.if_icmp .eq 12, 3) := by decide +kernel
theorem dX9_due_40 : decode cX9_due 40 = .ok (.iload 4, 2) := by decide +kernel
theorem dX9_due_42 : decode cX9_due 42 = .ok (.iconst 4, 1) := by decide +kernel
theorem dX9_due_43 : decode cX9_due 43 = .ok (.if_icmp .eq 6, 3) := by decide +kernel
theorem dX9_due_46 : decode cX9_due 46 = .ok (.bipush (-5), 2) := by decide +kernel
theorem dX9_due_48 : decode cX9_due 48 = .ok (.ireturn, 1) := by decide +kernel
theorem dX9_due_49 : decode cX9_due 49 = .ok (.aload_n 0, 1) := by decide +kernel
theorem dX9_due_50 : decode cX9_due 50 = .ok (.iload_n 3, 1) := by decide +kernel
theorem dX9_due_51 : decode cX9_due 51 = .ok (.iload_n 1, 1) := by decide +kernel
theorem dX9_due_52 : decode cX9_due 52 = .ok (.iload 4, 2) := by decide +kernel
theorem dX9_due_54 : decode cX9_due 54 = .ok (.invokevirtual 266, 3) := by decide +kernel
theorem dX9_due_57 : decode cX9_due 57 = .ok (.istore 5, 2) := by decide +kernel
theorem dX9_due_59 : decode cX9_due 59 = .ok (.iload_n 2, 1) := by decide +kernel
theorem dX9_due_60 : decode cX9_due 60 = .ok (.ifCond .ne 13, 3) := by decide +kernel
theorem dX9_due_63 : decode cX9_due 63 = .ok (.aload_n 0, 1) := by decide +kernel
theorem dX9_due_64 : decode cX9_due 64 = .ok (.getfield 50, 3) := by decide +kernel
theorem dX9_due_67 : decode cX9_due 67 = .ok (.iload 5, 2) := by decide +kernel
theorem dX9_due_69 : decode cX9_due 69 = .ok (.iaload, 1) := by decide +kernel
theorem dX9_due_70 : decode cX9_due 70 = .ok (.goto 31, 3) := by decide +kernel
theorem dX9_due_73 : decode cX9_due 73 = .ok (.iload_n 2, 1) := by decide +kernel
theorem dX9_due_74 : decode cX9_due 74 = .ok (.iconst 1, 1) := by decide +kernel
theorem dX9_due_75 : decode cX9_due 75 = .ok (.if_icmp .ne 13, 3) := by decide +kernel
theorem dX9_due_78 : decode cX9_due 78 = .ok (.iload 5, 2) := by decide +kernel
theorem dX9_due_80 : decode cX9_due 80 = .ok (.bipush 8, 2) := by decide +kernel
theorem dX9_due_82 : decode cX9_due 82 = .ok (.iload_n 3, 1) := by decide +kernel
theorem dX9_due_83 : decode cX9_due 83 = .ok (.imul, 1) := by decide +kernel
theorem dX9_due_84 : decode cX9_due 84 = .ok (.isub, 1) := by decide +kernel
theorem dX9_due_85 : decode cX9_due 85 = .ok (.goto 16, 3) := by decide +kernel
theorem dX9_due_88 : decode cX9_due 88 = .ok (.aload_n 0, 1) := by decide +kernel
theorem dX9_due_89 : decode cX9_due 89 = .ok (.iload_n 3, 1) := by decide +kernel
theorem dX9_due_90 : decode cX9_due 90 = .ok (.iload_n 1, 1) := by decide +kernel
theorem dX9_due_91 : decode cX9_due 91 = .ok (.aload_n 0, 1) := by decide +kernel
theorem dX9_due_92 : decode cX9_due 92 = .ok (.getfield 50, 3) := by decide +kernel
theorem dX9_due_95 : decode cX9_due 95 = .ok (.iload 5, 2) := by decide +kernel
theorem dX9_due_97 : decode cX9_due 97 = .ok (.iaload, 1) := by decide +kernel
theorem dX9_due_98 : decode cX9_due 98 = .ok (.invokevirtual 254, 3) := by decide +kernel
theorem dX9_due_101 : decode cX9_due 101 = .ok (.ireturn, 1) := by decide +kernel
theorem dX9_lineOf_0 : decode cX9_lineOf 0 = .ok (.aload_n 0, 1) := by decide +kernel
theorem dX9_lineOf_1 : decode cX9_lineOf 1 = .ok (.getfield 62, 3) := by decide +kernel
theorem dX9_lineOf_4 : decode cX9_lineOf 4 = .ok (.iload_n 1, 1) := by decide +kernel
theorem dX9_lineOf_5 : decode cX9_lineOf 5 = .ok (.iaload, 1) := by decide +kernel
theorem dX9_lineOf_6 : decode cX9_lineOf 6 = .ok (.i2l, 1) := by decide +kernel
theorem dX9_lineOf_7 : decode cX9_lineOf 7 = .ok (.aload_n 0, 1) := by decide +kernel
theorem dX9_lineOf_8 : decode cX9_lineOf 8 = .ok (.getfield 68, 3) := by decide +kernel
theorem dX9_lineOf_11 : decode cX9_lineOf 11 = .ok (.iload_n 1, 1) := by decide +kernel
theorem dX9_lineOf_12 : decode cX9_lineOf 12 = .ok (.iaload, 1) := by decide +kernel
theorem dX9_lineOf_13 : decode cX9_lineOf 13 = .ok (.i2l, 1) := by decide +kernel
theorem dX9_lineOf_14 : decode cX9_lineOf 14 = .ok (.lmul, 1) := by decide +kernel
theorem dX9_lineOf_15 : decode cX9_lineOf 15 = .ok (.lreturn, 1) := by decide +kernel
theorem dX9_paidOf_0 : decode cX9_paidOf 0 = .ok (.aload_n 0, 1) := by decide +kernel
theorem dX9_paidOf_1 : decode cX9_paidOf 1 = .ok (.iload_n 1, 1) := by decide +kernel
theorem dX9_paidOf_2 : decode cX9_paidOf 2 = .ok (.iload_n 2, 1) := by decide +kernel
theorem dX9_paidOf_3 : decode cX9_paidOf 3 = .ok (.invokevirtual 263, 3) := by decide +kernel
theorem dX9_paidOf_6 : decode cX9_paidOf 6 = .ok (.istore 4, 2) := by decide +kernel
theorem dX9_paidOf_8 : decode cX9_paidOf 8 = .ok (.aload_n 0, 1) := by decide +kernel
theorem dX9_paidOf_9 : decode cX9_paidOf 9 = .ok (.iload_n 1, 1) := by decide +kernel
theorem dX9_paidOf_10 : decode cX9_paidOf 10 = .ok (.invokevirtual 269, 3) := by decide +kernel
theorem dX9_paidOf_13 : decode cX9_paidOf 13 = .ok (.lstore 5, 2) := by decide +kernel
theorem dX9_paidOf_15 : decode cX9_paidOf 15 = .ok (.aload_n 0, 1) := by decide +kernel
theorem dX9_paidOf_16 : decode cX9_paidOf 16 = .ok (.iload_n 2, 1) := by decide +kernel
theorem dX9_paidOf_17 : decode cX9_paidOf 17 = .ok (.invokevirtual 232, 3) := by decide +kernel
theorem dX9_paidOf_20 : decode cX9_paidOf 20 = .ok (.i2l, 1) := by decide +kernel
theorem dX9_paidOf_21 : decode cX9_paidOf 21 = .ok (.lstore 7, 2) := by decide +kernel
theorem dX9_paidOf_23 : decode cX9_paidOf 23 = .ok (.aload_n 0, 1) := by decide +kernel
theorem dX9_paidOf_24 : decode cX9_paidOf 24 = .ok (.iload_n 2, 1) := by decide +kernel
theorem dX9_paidOf_25 : decode cX9_paidOf 25 = .ok (.iconst 3, 1) := by decide +kernel
theorem dX9_paidOf_26 : decode cX9_paidOf 26 = .ok (.invokevirtual 148, 3) := by decide +kernel
theorem dX9_paidOf_29 : decode cX9_paidOf 29 = .ok (.i2l, 1) := by decide +kernel
theorem dX9_paidOf_30 : decode cX9_paidOf 30 = .ok (.lload 5, 2) := by decide +kernel
theorem dX9_paidOf_32 : decode cX9_paidOf 32 = .ok (.lmul, 1) := by decide +kernel
theorem dX9_paidOf_33 : decode cX9_paidOf 33 = .ok (.lstore 9, 2) := by decide +kernel
theorem dX9_paidOf_35 : decode cX9_paidOf 35 = .ok (.aload_n 0, 1) := by decide +kernel
theorem dX9_paidOf_36 : decode cX9_paidOf 36 = .ok (.iconst 0, 1) := by decide +kernel
theorem dX9_paidOf_37 : decode cX9_paidOf 37 = .ok (.putfield 96, 3) := by decide +kernel
theorem dX9_paidOf_40 : decode cX9_paidOf 40 = .ok (.iload 4, 2) := by decide +kernel
theorem dX9_paidOf_42 : decode cX9_paidOf 42 = .ok (.iconst 2, 1) := by decide +kernel
theorem dX9_paidOf_43 : decode cX9_paidOf 43 = .ok (.if_icmp .ne 12, 3) := by decide +kernel
theorem dX9_paidOf_46 : decode cX9_paidOf 46 = .ok (.lload 9, 2) := by decide +kernel
theorem dX9_paidOf_48 : decode cX9_paidOf 48 = .ok (.lload 7, 2) := by decide +kernel
theorem dX9_paidOf_50 : decode cX9_paidOf 50 = .ok (.lload 5, 2) := by decide +kernel
theorem dX9_paidOf_52 : decode cX9_paidOf 52 = .ok (.lmul, 1) := by decide +kernel
theorem dX9_paidOf_53 : decode cX9_paidOf 53 = .ok (.ladd, 1) := by decide +kernel
theorem dX9_paidOf_54 : decode cX9_paidOf 54 = .ok (.lreturn, 1) := by decide +kernel
theorem dX9_paidOf_55 : decode cX9_paidOf 55 = .ok (.iload 4, 2) := by decide +kernel
theorem dX9_paidOf_57 : decode cX9_paidOf 57 = .ok (.iconst 3, 1) := by decide +kernel
theorem dX9_paidOf_58 : decode cX9_paidOf 58 = .ok (.if_icmp .eq 12, 3) := by decide +kernel
theorem dX9_paidOf_61 : decode cX9_paidOf 61 = .ok (.iload 4, 2) := by decide +kernel
theorem dX9_paidOf_63 : decode cX9_paidOf 63 = .ok (.iconst 4, 1) := by decide +kernel
theorem dX9_paidOf_64 : decode cX9_paidOf 64 = .ok (.if_icmp .eq 6, 3) := by decide +kernel
theorem dX9_paidOf_67 : decode cX9_paidOf 67 = .ok (.lload 9, 2) := by decide +kernel
theorem dX9_paidOf_69 : decode cX9_paidOf 69 = .ok (.lreturn, 1) := by decide +kernel
theorem dX9_paidOf_70 : decode cX9_paidOf 70 = .ok (.aload_n 0, 1) := by decide +kernel
theorem dX9_paidOf_71 : decode cX9_paidOf 71 = .ok (.getfield 50, 3) := by decide +kernel
theorem dX9_paidOf_74 : decode cX9_paidOf 74 = .ok (.aload_n 0, 1) := by decide +kernel
theorem dX9_paidOf_75 : decode cX9_paidOf 75 = .ok (.iload_n 1, 1) := by decide +kernel
theorem dX9_paidOf_76 : decode cX9_paidOf 76 = .ok (.iload_n 2, 1) := by decide +kernel
theorem dX9_paidOf_77 : decode cX9_paidOf 77 = .ok (.iload 4, 2) := by decide +kernel
theorem dX9_paidOf_79 : decode cX9_paidOf 79 = .ok (.invokevirtual 266, 3) := by decide +kernel
theorem dX9_paidOf_82 : decode cX9_paidOf 82 = .ok (.iaload, 1) := by decide +kernel
theorem dX9_paidOf_83 : decode cX9_paidOf 83 = .ok (.istore 11, 2) := by decide +kernel
theorem dX9_paidOf_85 : decode cX9_paidOf 85 = .ok (.aload_n 0, 1) := by decide +kernel
theorem dX9_paidOf_86 : decode cX9_paidOf 86 = .ok (.iload_n 1, 1) := by decide +kernel
theorem dX9_paidOf_87 : decode cX9_paidOf 87 = .ok (.iload_n 2, 1) := by decide +kernel
theorem dX9_paidOf_88 : decode cX9_paidOf 88 = .ok (.iload 11, 2) := by decide +kernel
theorem dX9_paidOf_90 : decode cX9_paidOf 90 = .ok (.invokevirtual 254, 3) := by decide +kernel
theorem dX9_paidOf_93 : decode cX9_paidOf 93 = .ok (.istore 12, 2) := by decide +kernel
theorem dX9_paidOf_95 : decode cX9_paidOf 95 = .ok (.iload 12, 2) := by decide +kernel
theorem dX9_paidOf_97 : decode cX9_paidOf 97 = .ok (.iconst 2, 1) := by decide +kernel
theorem dX9_paidOf_98 : decode cX9_paidOf 98 = .ok (.if_icmp .ne 25, 3) := by decide +kernel
theorem dX9_paidOf_101 : decode cX9_paidOf 101 = .ok (.lload 9, 2) := by decide +kernel
theorem dX9_paidOf_103 : decode cX9_paidOf 103 = .ok (.lload 7, 2) := by decide +kernel
theorem dX9_paidOf_105 : decode cX9_paidOf 105 = .ok (.aload_n 0, 1) := by decide +kernel
theorem dX9_paidOf_106 : decode cX9_paidOf 106 = .ok (.getfield 65, 3) := by decide +kernel
theorem dX9_paidOf_109 : decode cX9_paidOf 109 = .ok (.iload_n 1, 1) := by decide +kernel
theorem dX9_paidOf_110 : decode cX9_paidOf 110 = .ok (.iaload, 1) := by decide +kernel
theorem dX9_paidOf_111 : decode cX9_paidOf 111 = .ok (.i2l, 1) := by decide +kernel
theorem dX9_paidOf_112 : decode cX9_paidOf 112 = .ok (.lmul, 1) := by decide +kernel
theorem dX9_paidOf_113 : decode cX9_paidOf 113 = .ok (.aload_n 0, 1) := by decide +kernel
theorem dX9_paidOf_114 : decode cX9_paidOf 114 = .ok (.getfield 62, 3) := by decide +kernel
theorem dX9_paidOf_117 : decode cX9_paidOf 117 = .ok (.iload_n 1, 1) := by decide +kernel
theorem dX9_paidOf_118 : decode cX9_paidOf 118 = .ok (.iaload, 1) := by decide +kernel
theorem dX9_paidOf_119 : decode cX9_paidOf 119 = .ok (.i2l, 1) := by decide +kernel
theorem dX9_paidOf_120 : decode cX9_paidOf 120 = .ok (.lmul, 1) := by decide +kernel
theorem dX9_paidOf_121 : decode cX9_paidOf 121 = .ok (.ladd, 1) := by decide +kernel
theorem dX9_paidOf_122 : decode cX9_paidOf 122 = .ok (.lreturn, 1) := by decide +kernel
theorem dX9_paidOf_123 : decode cX9_paidOf 123 = .ok (.aload_n 0, 1) := by decide +kernel
theorem dX9_paidOf_124 : decode cX9_paidOf 124 = .ok (.iload_n 2, 1) := by decide +kernel
theorem dX9_paidOf_125 : decode cX9_paidOf 125 = .ok (.bipush 9, 2) := by decide +kernel
theorem dX9_paidOf_127 : decode cX9_paidOf 127 = .ok (.invokevirtual 148, 3) := by decide +kernel
theorem dX9_paidOf_130 : decode cX9_paidOf 130 = .ok (.aload_n 0, 1) := by decide +kernel
theorem dX9_paidOf_131 : decode cX9_paidOf 131 = .ok (.iload_n 2, 1) := by decide +kernel
theorem dX9_paidOf_132 : decode cX9_paidOf 132 = .ok (.iconst 1, 1) := by decide +kernel
theorem dX9_paidOf_133 : decode cX9_paidOf 133 = .ok (.invokevirtual 148, 3) := by decide +kernel
theorem dX9_paidOf_136 : decode cX9_paidOf 136 = .ok (.if_icmp .lt 7, 3) := by decide +kernel
theorem dX9_paidOf_139 : decode cX9_paidOf 139 = .ok (.iconst 1, 1) := by decide +kernel
theorem dX9_paidOf_140 : decode cX9_paidOf 140 = .ok (.goto 4, 3) := by decide +kernel
theorem dX9_paidOf_143 : decode cX9_paidOf 143 = .ok (.iconst 0, 1) := by decide +kernel
theorem dX9_paidOf_144 : decode cX9_paidOf 144 = .ok (.istore 13, 2) := by decide +kernel
theorem dX9_paidOf_146 : decode cX9_paidOf 146 = .ok (.iload 12, 2) := by decide +kernel
theorem dX9_paidOf_148 : decode cX9_paidOf 148 = .ok (.iconst 1, 1) := by decide +kernel
theorem dX9_paidOf_149 : decode cX9_paidOf 149 = .ok (.if_icmp .ne 8, 3) := by decide +kernel
theorem dX9_paidOf_152 : decode cX9_paidOf 152 = .ok (.iload 13, 2) := by decide +kernel
theorem dX9_paidOf_154 : decode cX9_paidOf 154 = .ok (.goto 30, 3) := by decide +kernel
theorem dX9_paidOf_157 : decode cX9_paidOf 157 = .ok (.iload 11, 2) := by decide +kernel
theorem dX9_paidOf_159 : decode cX9_paidOf 159 = .ok (.iconst 4, 1) := by decide +kernel
theorem dX9_paidOf_160 : decode cX9_paidOf 160 = .ok (.if_icmp .eq 19, 3) := by decide +kernel
theorem dX9_paidOf_163 : decode cX9_paidOf 163 = .ok (.aload_n 0, 1) := by decide +kernel
theorem dX9_paidOf_164 : decode cX9_paidOf 164 = .ok (.iload_n 2, 1) := by decide +kernel
theorem dX9_paidOf_165 : decode cX9_paidOf 165 = .ok (.bipush 9, 2) := by decide +kernel
theorem dX9_paidOf_167 : decode cX9_paidOf 167 = .ok (.invokevirtual 148, 3) := by decide +kernel
theorem dX9_paidOf_170 : decode cX9_paidOf 170 = .ok (.aload_n 0, 1) := by decide +kernel
theorem dX9_paidOf_171 : decode cX9_paidOf 171 = .ok (.iload_n 2, 1) := by decide +kernel
theorem dX9_paidOf_172 : decode cX9_paidOf 172 = .ok (.iconst 3, 1) := by decide +kernel
theorem dX9_paidOf_173 : decode cX9_paidOf 173 = .ok (.invokevirtual 148, 3) := by decide +kernel
theorem dX9_paidOf_176 : decode cX9_paidOf 176 = .ok (.if_icmp .gt 7, 3) := by decide +kernel
theorem dX9_paidOf_179 : decode cX9_paidOf 179 = .ok (.iconst 1, 1) := by decide +kernel
theorem dX9_paidOf_180 : decode cX9_paidOf 180 = .ok (.goto 4, 3) := by decide +kernel
theorem dX9_paidOf_183 : decode cX9_paidOf 183 = .ok (.iconst 0, 1) := by decide +kernel
theorem dX9_paidOf_184 : decode cX9_paidOf 184 = .ok (.istore 14, 2) := by decide +kernel
theorem dX9_paidOf_186 : decode cX9_paidOf 186 = .ok (.aload_n 0, 1) := by decide +kernel
theorem dX9_paidOf_187 : decode cX9_paidOf 187 = .ok (.iload_n 3, 1) := by decide +kernel
theorem dX9_paidOf_188 : decode cX9_paidOf 188 = .ok (.iconst 2, 1) := by decide +kernel
theorem dX9_paidOf_189 : decode cX9_paidOf 189 = .ok (.if_icmp .ne 8, 3) := by decide +kernel
theorem dX9_paidOf_192 : decode cX9_paidOf 192 = .ok (.iload 14, 2) := by decide +kernel
theorem dX9_paidOf_194 : decode cX9_paidOf 194 = .ok (.goto 13, 3) := by decide +kernel
theorem dX9_paidOf_197 : decode cX9_paidOf 197 = .ok (.iload_n 3, 1) := by decide +kernel
theorem dX9_paidOf_198 : decode cX9_paidOf 198 = .ok (.iconst 1, 1) := by decide +kernel
theorem dX9_paidOf_199 : decode cX9_paidOf 199 = .ok (.if_icmp .ne 7, 3) := by decide +kernel
theorem dX9_paidOf_202 : decode cX9_paidOf 202 = .ok (.iconst 1, 1) := by decide +kernel
theorem dX9_paidOf_203 : decode cX9_paidOf 203 = .ok (.goto 4, 3) := by decide +kernel
theorem dX9_paidOf_206 : decode cX9_paidOf 206 = .ok (.iconst 0, 1) := by decide +kernel
theorem dX9_paidOf_207 : decode cX9_paidOf 207 = .ok (.putfield 96, 3) := by decide +kernel
theorem dX9_paidOf_210 : decode cX9_paidOf 210 = .ok (.iload 12, 2) := by decide +kernel
theorem dX9_paidOf_212 : decode cX9_paidOf 212 = .ok (.iconst 1, 1) := by decide +kernel
theorem dX9_paidOf_213 : decode cX9_paidOf 213 = .ok (.if_icmp .ne 23, 3) := by decide +kernel
theorem dX9_paidOf_216 : decode cX9_paidOf 216 = .ok (.lload 9, 2) := by decide +kernel
theorem dX9_paidOf_218 : decode cX9_paidOf 218 = .ok (.aload_n 0, 1) := by decide +kernel
theorem dX9_paidOf_219 : decode cX9_paidOf 219 = .ok (.getfield 96, 3) := by decide +kernel
theorem dX9_paidOf_222 : decode cX9_paidOf 222 = .ok (.ifCond .eq 11, 3) := by decide +kernel
theorem dX9_paidOf_225 : decode cX9_paidOf 225 = .ok (.lload 7, 2) := by decide +kernel
theorem dX9_paidOf_227 : decode cX9_paidOf 227 = .ok (.lload 5, 2) := by decide +kernel
theorem dX9_paidOf_229 : decode cX9_paidOf 229 = .ok (.lmul, 1) := by decide +kernel
theorem dX9_paidOf_230 : decode cX9_paidOf 230 = .ok (.goto 4, 3) := by decide +kernel
theorem dX9_paidOf_233 : decode cX9_paidOf 233 = .ok (.lconst 0, 1) := by decide +kernel
theorem dX9_paidOf_234 : decode cX9_paidOf 234 = .ok (.ladd, 1) := by decide +kernel
theorem dX9_paidOf_235 : decode cX9_paidOf 235 = .ok (.lreturn, 1) := by decide +kernel
theorem dX9_paidOf_236 : decode cX9_paidOf 236 = .ok (.aload_n 0, 1) := by decide +kernel
theorem dX9_paidOf_237 : decode cX9_paidOf 237 = .ok (.getfield 96, 3) := by decide +kernel
theorem dX9_paidOf_240 : decode cX9_paidOf 240 = .ok (.ifCond .eq 6, 3) := by decide +kernel
theorem dX9_paidOf_243 : decode cX9_paidOf 243 = .ok (.lload 9, 2) := by decide +kernel
theorem dX9_paidOf_245 : decode cX9_paidOf 245 = .ok (.lreturn, 1) := by decide +kernel
theorem dX9_paidOf_246 : decode cX9_paidOf 246 = .ok (.aload_n 0, 1) := by decide +kernel
theorem dX9_paidOf_247 : decode cX9_paidOf 247 = .ok (.iload_n 1, 1) := by decide +kernel
theorem dX9_paidOf_248 : decode cX9_paidOf 248 = .ok (.iconst 4, 1) := by decide +kernel
theorem dX9_paidOf_249 : decode cX9_paidOf 249 = .ok (.iload_n 2, 1) := by decide +kernel
theorem dX9_paidOf_250 : decode cX9_paidOf 250 = .ok (.aload_n 0, 1) := by decide +kernel
theorem dX9_paidOf_251 : decode cX9_paidOf 251 = .ok (.iload_n 2, 1) := by decide +kernel
theorem dX9_paidOf_252 : decode cX9_paidOf 252 = .ok (.iconst 1, 1) := by decide +kernel
theorem dX9_paidOf_253 : decode cX9_paidOf 253 = .ok (.invokevirtual 241, 3) := by decide +kernel
theorem dX9_paidOf_256 : decode cX9_paidOf 256 = .ok (.invokevirtual 244, 3) := by decide +kernel
theorem dX9_paidOf_259 : decode cX9_paidOf 259 = .ok (.ifCond .eq 36, 3) := by decide +kernel
theorem dX9_paidOf_262 : decode cX9_paidOf 262 = .ok (.aload_n 0, 1) := by decide +kernel
theorem dX9_paidOf_263 : decode cX9_paidOf 263 = .ok (.iload_n 1, 1) := by decide +kernel
theorem dX9_paidOf_264 : decode cX9_paidOf 264 = .ok (.iload_n 2, 1) := by decide +kernel
theorem dX9_paidOf_265 : decode cX9_paidOf 265 = .ok (.iconst 1, 1) := by decide +kernel
theorem dX9_paidOf_266 : decode cX9_paidOf 266 = .ok (.invokevirtual 248, 3) := by decide +kernel
theorem dX9_paidOf_269 : decode cX9_paidOf 269 = .ok (.ifCond .ne 26, 3) := by decide +kernel
theorem dX9_paidOf_272 : decode cX9_paidOf 272 = .ok (.lload 9, 2) := by decide +kernel
theorem dX9_paidOf_274 : decode cX9_paidOf 274 = .ok (.iload_n 3, 1) := by decide +kernel
theorem dX9_paidOf_275 : decode cX9_paidOf 275 = .ok (.iconst 2, 1) := by decide +kernel
theorem dX9_paidOf_276 : decode cX9_paidOf 276 = .ok (.if_icmp .ne 12, 3) := by decide +kernel
theorem dX9_paidOf_279 : decode cX9_paidOf 279 = .ok (.iload 13, 2) := by decide +kernel
theorem dX9_paidOf_281 : decode cX9_paidOf 281 = .ok (.ifCond .ne 7, 3) := by decide +kernel
theorem dX9_paidOf_284 : decode cX9_paidOf 284 = .ok (.lconst 0, 1) := by decide +kernel
theorem dX9_paidOf_285 : decode cX9_paidOf 285 = .ok (.goto 8, 3) := by decide +kernel
theorem dX9_paidOf_288 : decode cX9_paidOf 288 = .ok (.lload 7, 2) := by decide +kernel
theorem dX9_paidOf_290 : decode cX9_paidOf 290 = .ok (.lload 5, 2) := by decide +kernel
theorem dX9_paidOf_292 : decode cX9_paidOf 292 = .ok (.lmul, 1) := by decide +kernel
theorem dX9_paidOf_293 : decode cX9_paidOf 293 = .ok (.ladd, 1) := by decide +kernel
theorem dX9_paidOf_294 : decode cX9_paidOf 294 = .ok (.lreturn, 1) := by decide +kernel
theorem dX9_paidOf_295 : decode cX9_paidOf 295 = .ok (.lload 9, 2) := by decide +kernel
theorem dX9_paidOf_297 : decode cX9_paidOf 297 = .ok (.lload 7, 2) := by decide +kernel
theorem dX9_paidOf_299 : decode cX9_paidOf 299 = .ok (.aload_n 0, 1) := by decide +kernel
theorem dX9_paidOf_300 : decode cX9_paidOf 300 = .ok (.getfield 59, 3) := by decide +kernel
theorem dX9_paidOf_303 : decode cX9_paidOf 303 = .ok (.iload_n 1, 1) := by decide +kernel
theorem dX9_paidOf_304 : decode cX9_paidOf 304 = .ok (.iaload, 1) := by decide +kernel
theorem dX9_paidOf_305 : decode cX9_paidOf 305 = .ok (.i2l, 1) := by decide +kernel
theorem dX9_paidOf_306 : decode cX9_paidOf 306 = .ok (.lmul, 1) := by decide +kernel
theorem dX9_paidOf_307 : decode cX9_paidOf 307 = .ok (.aload_n 0, 1) := by decide +kernel
theorem dX9_paidOf_308 : decode cX9_paidOf 308 = .ok (.getfield 68, 3) := by decide +kernel
theorem dX9_paidOf_311 : decode cX9_paidOf 311 = .ok (.iload_n 1, 1) := by decide +kernel
theorem dX9_paidOf_312 : decode cX9_paidOf 312 = .ok (.iaload, 1) := by decide +kernel
theorem dX9_paidOf_313 : decode cX9_paidOf 313 = .ok (.i2l, 1) := by decide +kernel
theorem dX9_paidOf_314 : decode cX9_paidOf 314 = .ok (.lmul, 1) := by decide +kernel
theorem dX9_paidOf_315 : decode cX9_paidOf 315 = .ok (.ladd, 1) := by decide +kernel
theorem dX9_paidOf_316 : decode cX9_paidOf 316 = .ok (.lreturn, 1) := by decide +kernel
theorem dX9_divisor_0 : decode cX9_divisor 0 = .ok (.lload_n 1, 1) := by decide +kernel
theorem dX9_divisor_1 : decode cX9_divisor 1 = .ok (.lconst 0, 1) := by decide +kernel
theorem dX9_divisor_2 : decode cX9_divisor 2 = .ok (.lcmp, 1) := by decide +kernel
theorem dX9_divisor_3 : decode cX9_divisor 3 = .ok (.ifCond .ge 8, 3) := by decide +kernel
theorem dX9_divisor_6 : decode cX9_divisor 6 = .ok (.lload_n 1, 1) := by decide +kernel
theorem dX9_divisor_7 : decode cX9_divisor 7 = .ok (.lneg, 1) := by decide +kernel
theorem dX9_divisor_8 : decode cX9_divisor 8 = .ok (.goto 4, 3) := by decide +kernel
theorem dX9_divisor_11 : decode cX9_divisor 11 = .ok (.lload_n 1, 1) := by decide +kernel
theorem dX9_divisor_12 : decode cX9_divisor 12 = .ok (.lstore 5, 2) := by decide +kernel
theorem dX9_divisor_14 : decode cX9_divisor 14 = .ok (.lload_n 3, 1) := by decide +kernel
theorem dX9_divisor_15 : decode cX9_divisor 15 = .ok (.lstore 7, 2) := by decide +kernel
theorem dX9_divisor_17 : decode cX9_divisor 17 = .ok (.lload 7, 2) := by decide +kernel
theorem dX9_divisor_19 : decode cX9_divisor 19 = .ok (.lconst 0, 1) := by decide +kernel
theorem dX9_divisor_20 : decode cX9_divisor 20 = .ok (.lcmp, 1) := by decide +kernel
theorem dX9_divisor_21 : decode cX9_divisor 21 = .ok (.ifCond .eq 21, 3) := by decide +kernel
theorem dX9_divisor_24 : decode cX9_divisor 24 = .ok (.lload 5, 2) := by decide +kernel
theorem dX9_divisor_26 : decode cX9_divisor 26 = .ok (.lload 7, 2) := by decide +kernel
theorem dX9_divisor_28 : decode cX9_divisor 28 = .ok (.lrem, 1) := by decide +kernel
theorem dX9_divisor_29 : decode cX9_divisor 29 = .ok (.lstore 9, 2) := by decide +kernel
theorem dX9_divisor_31 : decode cX9_divisor 31 = .ok (.lload 7, 2) := by decide +kernel
theorem dX9_divisor_33 : decode cX9_divisor 33 = .ok (.lstore 5, 2) := by decide +kernel
theorem dX9_divisor_35 : decode cX9_divisor 35 = .ok (.lload 9, 2) := by decide +kernel
theorem dX9_divisor_37 : decode cX9_divisor 37 = .ok (.lstore 7, 2) := by decide +kernel
theorem dX9_divisor_39 : decode cX9_divisor 39 = .ok (.goto (-22), 3) := by decide +kernel
theorem dX9_divisor_42 : decode cX9_divisor 42 = .ok (.lload 5, 2) := by decide +kernel
theorem dX9_divisor_44 : decode cX9_divisor 44 = .ok (.lreturn, 1) := by decide +kernel
theorem dX9_lowest_0 : decode cX9_lowest 0 = .ok (.aload_n 0, 1) := by decide +kernel
theorem dX9_lowest_1 : decode cX9_lowest 1 = .ok (.lload_n 1, 1) := by decide +kernel
theorem dX9_lowest_2 : decode cX9_lowest 2 = .ok (.lload_n 3, 1) := by decide +kernel
theorem dX9_lowest_3 : decode cX9_lowest 3 = .ok (.invokevirtual 273, 3) := by decide +kernel
theorem dX9_lowest_6 : decode cX9_lowest 6 = .ok (.lstore 6, 2) := by decide +kernel
theorem dX9_lowest_8 : decode cX9_lowest 8 = .ok (.iload 5, 2) := by decide +kernel
theorem dX9_lowest_10 : decode cX9_lowest 10 = .ok (.ifCond .ne 10, 3) := by decide +kernel
theorem dX9_lowest_13 : decode cX9_lowest 13 = .ok (.lload_n 1, 1) := by decide +kernel
theorem dX9_lowest_14 : decode cX9_lowest 14 = .ok (.lload 6, 2) := by decide +kernel
theorem dX9_lowest_16 : decode cX9_lowest 16 = .ok (.ldiv, 1) := by decide +kernel
theorem dX9_lowest_17 : decode cX9_lowest 17 = .ok (.goto 7, 3) := by decide +kernel
theorem dX9_lowest_20 : decode cX9_lowest 20 = .ok (.lload_n 3, 1) := by decide +kernel
theorem dX9_lowest_21 : decode cX9_lowest 21 = .ok (.lload 6, 2) := by decide +kernel
theorem dX9_lowest_23 : decode cX9_lowest 23 = .ok (.ldiv, 1) := by decide +kernel
theorem dX9_lowest_24 : decode cX9_lowest 24 = .ok (.lreturn, 1) := by decide +kernel
theorem dX9_paid_0 : decode cX9_paid 0 = .ok (.aload_n 0, 1) := by decide +kernel
theorem dX9_paid_1 : decode cX9_paid 1 = .ok (.iload_n 1, 1) := by decide +kernel
theorem dX9_paid_2 : decode cX9_paid 2 = .ok (.invokevirtual 163, 3) := by decide +kernel
theorem dX9_paid_5 : decode cX9_paid 5 = .ok (.ifCond .eq 13, 3) := by decide +kernel
theorem dX9_paid_8 : decode cX9_paid 8 = .ok (.aload_n 0, 1) := by decide +kernel
theorem dX9_paid_9 : decode cX9_paid 9 = .ok (.iload_n 3, 1) := by decide +kernel
theorem dX9_paid_10 : decode cX9_paid 10 = .ok (.iconst 0, 1) := by decide +kernel
theorem dX9_paid_11 : decode cX9_paid 11 = .ok (.iconst 1, 1) := by decide +kernel
theorem dX9_paid_12 : decode cX9_paid 12 = .ok (.invokevirtual 144, 3) := by decide +kernel
theorem dX9_paid_15 : decode cX9_paid 15 = .ok (.ifCond .ne 7, 3) := by decide +kernel
theorem dX9_paid_18 : decode cX9_paid 18 = .ok (.ldc2_w 277, 3) := by decide +kernel
theorem dX9_paid_21 : decode cX9_paid 21 = .ok (.lreturn, 1) := by decide +kernel
theorem dX9_paid_22 : decode cX9_paid 22 = .ok (.aload_n 0, 1) := by decide +kernel
theorem dX9_paid_23 : decode cX9_paid 23 = .ok (.aload_n 0, 1) := by decide +kernel
theorem dX9_paid_24 : decode cX9_paid 24 = .ok (.aload_n 0, 1) := by decide +kernel
theorem dX9_paid_25 : decode cX9_paid 25 = .ok (.iload_n 1, 1) := by decide +kernel
theorem dX9_paid_26 : decode cX9_paid 26 = .ok (.invokevirtual 260, 3) := by decide +kernel
theorem dX9_paid_29 : decode cX9_paid 29 = .ok (.iload_n 1, 1) := by decide +kernel
theorem dX9_paid_30 : decode cX9_paid 30 = .ok (.iload_n 2, 1) := by decide +kernel
theorem dX9_paid_31 : decode cX9_paid 31 = .ok (.ifCond .eq 7, 3) := by decide +kernel
theorem dX9_paid_34 : decode cX9_paid 34 = .ok (.iconst 1, 1) := by decide +kernel
theorem dX9_paid_35 : decode cX9_paid 35 = .ok (.goto 4, 3) := by decide +kernel
theorem dX9_paid_38 : decode cX9_paid 38 = .ok (.iconst 0, 1) := by decide +kernel
theorem dX9_paid_39 : decode cX9_paid 39 = .ok (.invokevirtual 279, 3) := by decide +kernel
theorem dX9_paid_42 : decode cX9_paid 42 = .ok (.aload_n 0, 1) := by decide +kernel
theorem dX9_paid_43 : decode cX9_paid 43 = .ok (.aload_n 0, 1) := by decide +kernel
theorem dX9_paid_44 : decode cX9_paid 44 = .ok (.iload_n 1, 1) := by decide +kernel
theorem dX9_paid_45 : decode cX9_paid 45 = .ok (.invokevirtual 260, 3) := by decide +kernel
theorem dX9_paid_48 : decode cX9_paid 48 = .ok (.invokevirtual 269, 3) := by decide +kernel
theorem dX9_paid_51 : decode cX9_paid 51 = .ok (.iload_n 3, 1) := by decide +kernel
theorem dX9_paid_52 : decode cX9_paid 52 = .ok (.invokevirtual 283, 3) := by decide +kernel
theorem dX9_paid_55 : decode cX9_paid 55 = .ok (.lreturn, 1) := by decide +kernel
theorem dX9_all_0 : decode cX9_all 0 = .ok (.aload_n 0, 1) := by decide +kernel
theorem dX9_all_1 : decode cX9_all 1 = .ok (.iload_n 1, 1) := by decide +kernel
theorem dX9_all_2 : decode cX9_all 2 = .ok (.invokevirtual 156, 3) := by decide +kernel
theorem dX9_all_5 : decode cX9_all 5 = .ok (.ifCond .eq 31, 3) := by decide +kernel
theorem dX9_all_8 : decode cX9_all 8 = .ok (.aload_n 0, 1) := by decide +kernel
theorem dX9_all_9 : decode cX9_all 9 = .ok (.iload_n 2, 1) := by decide +kernel
theorem dX9_all_10 : decode cX9_all 10 = .ok (.iconst 0, 1) := by decide +kernel
theorem dX9_all_11 : decode cX9_all 11 = .ok (.iconst 1, 1) := by decide +kernel
theorem dX9_all_12 : decode cX9_all 12 = .ok (.aload_n 0, 1) := by decide +kernel
theorem dX9_all_13 : decode cX9_all 13 = .ok (.iload_n 1, 1) := by decide +kernel
theorem dX9_all_14 : decode cX9_all 14 = .ok (.invokevirtual 159, 3) := by decide +kernel
theorem dX9_all_17 : decode cX9_all 17 = .ok (.ishl, 1) := by decide +kernel
theorem dX9_all_18 : decode cX9_all 18 = .ok (.iconst 1, 1) := by decide +kernel
theorem dX9_all_19 : decode cX9_all 19 = .ok (.isub, 1) := by decide +kernel
theorem dX9_all_20 : decode cX9_all 20 = .ok (.invokevirtual 144, 3) := by decide +kernel
theorem dX9_all_23 : decode cX9_all 23 = .ok (.ifCond .eq 13, 3) := by decide +kernel
theorem dX9_all_26 : decode cX9_all 26 = .ok (.aload_n 0, 1) := by decide +kernel
theorem dX9_all_27 : decode cX9_all 27 = .ok (.iload_n 3, 1) := by decide +kernel
theorem dX9_all_28 : decode cX9_all 28 = .ok (.iconst 0, 1) := by decide +kernel
theorem dX9_all_29 : decode cX9_all 29 = .ok (.iconst 1, 1) := by decide +kernel
theorem dX9_all_30 : decode cX9_all 30 = .ok (.invokevirtual 144, 3) := by decide +kernel
theorem dX9_all_33 : decode cX9_all 33 = .ok (.ifCond .ne 7, 3) := by decide +kernel
theorem dX9_all_36 : decode cX9_all 36 = .ok (.ldc2_w 277, 3) := by decide +kernel
theorem dX9_all_39 : decode cX9_all 39 = .ok (.lreturn, 1) := by decide +kernel
theorem dX9_all_40 : decode cX9_all 40 = .ok (.lconst 0, 1) := by decide +kernel
theorem dX9_all_41 : decode cX9_all 41 = .ok (.lstore 4, 2) := by decide +kernel
theorem dX9_all_43 : decode cX9_all 43 = .ok (.iconst 0, 1) := by decide +kernel
theorem dX9_all_44 : decode cX9_all 44 = .ok (.istore 6, 2) := by decide +kernel
theorem dX9_all_46 : decode cX9_all 46 = .ok (.iconst 0, 1) := by decide +kernel
theorem dX9_all_47 : decode cX9_all 47 = .ok (.istore 7, 2) := by decide +kernel
theorem dX9_all_49 : decode cX9_all 49 = .ok (.iload 7, 2) := by decide +kernel
theorem dX9_all_51 : decode cX9_all 51 = .ok (.aload_n 0, 1) := by decide +kernel
theorem dX9_all_52 : decode cX9_all 52 = .ok (.getfield 13, 3) := by decide +kernel
theorem dX9_all_55 : decode cX9_all 55 = .ok (.if_icmp .ge 49, 3) := by decide +kernel
theorem dX9_all_58 : decode cX9_all 58 = .ok (.aload_n 0, 1) := by decide +kernel
theorem dX9_all_59 : decode cX9_all 59 = .ok (.iload 7, 2) := by decide +kernel
theorem dX9_all_61 : decode cX9_all 61 = .ok (.iconst 0, 1) := by decide +kernel
theorem dX9_all_62 : decode cX9_all 62 = .ok (.invokevirtual 148, 3) := by decide +kernel
theorem dX9_all_65 : decode cX9_all 65 = .ok (.iload_n 1, 1) := by decide +kernel
theorem dX9_all_66 : decode cX9_all 66 = .ok (.if_icmp .eq 6, 3) := by decide +kernel
theorem dX9_all_69 : decode cX9_all 69 = .ok (.goto 29, 3) := by decide +kernel
theorem dX9_all_72 : decode cX9_all 72 = .ok (.lload 4, 2) := by decide +kernel
theorem dX9_all_74 : decode cX9_all 74 = .ok (.aload_n 0, 1) := by decide +kernel
theorem dX9_all_75 : decode cX9_all 75 = .ok (.aload_n 0, 1) := by decide +kernel
theorem dX9_all_76 : decode cX9_all 76 = .ok (.getfield 26, 3) := by decide +kernel
theorem dX9_all_79 : decode cX9_all 79 = .ok (.iload_n 1, 1) := by decide +kernel
theorem dX9_all_80 : decode cX9_all 80 = .ok (.iaload, 1) := by decide +kernel
theorem dX9_all_81 : decode cX9_all 81 = .ok (.iload 7, 2) := by decide +kernel
theorem dX9_all_83 : decode cX9_all 83 = .ok (.iload_n 2, 1) := by decide +kernel
theorem dX9_all_84 : decode cX9_all 84 = .ok (.iload 6, 2) := by decide +kernel
theorem dX9_all_86 : decode cX9_all 86 = .ok (.ishr, 1) := by decide +kernel
theorem dX9_all_87 : decode cX9_all 87 = .ok (.iconst 1, 1) := by decide +kernel
theorem dX9_all_88 : decode cX9_all 88 = .ok (.iand, 1) := by decide +kernel
theorem dX9_all_89 : decode cX9_all 89 = .ok (.invokevirtual 279, 3) := by decide +kernel
theorem dX9_all_92 : decode cX9_all 92 = .ok (.ladd, 1) := by decide +kernel
theorem dX9_all_93 : decode cX9_all 93 = .ok (.lstore 4, 2) := by decide +kernel
theorem dX9_all_95 : decode cX9_all 95 = .ok (.iinc 6 1, 3) := by decide +kernel
theorem dX9_all_98 : decode cX9_all 98 = .ok (.iinc 7 1, 3) := by decide +kernel
theorem dX9_all_101 : decode cX9_all 101 = .ok (.goto (-52), 3) := by decide +kernel
theorem dX9_all_104 : decode cX9_all 104 = .ok (.aload_n 0, 1) := by decide +kernel
theorem dX9_all_105 : decode cX9_all 105 = .ok (.lload 4, 2) := by decide +kernel
theorem dX9_all_107 : decode cX9_all 107 = .ok (.aload_n 0, 1) := by decide +kernel
theorem dX9_all_108 : decode cX9_all 108 = .ok (.aload_n 0, 1) := by decide +kernel
theorem dX9_all_109 : decode cX9_all 109 = .ok (.getfield 26, 3) := by decide +kernel
theorem dX9_all_112 : decode cX9_all 112 = .ok (.iload_n 1, 1) := by decide +kernel
theorem dX9_all_113 : decode cX9_all 113 = .ok (.iaload, 1) := by decide +kernel
theorem dX9_all_114 : decode cX9_all 114 = .ok (.invokevirtual 269, 3) := by decide +kernel
theorem dX9_all_117 : decode cX9_all 117 = .ok (.iload_n 3, 1) := by decide +kernel
theorem dX9_all_118 : decode cX9_all 118 = .ok (.invokevirtual 283, 3) := by decide +kernel
theorem dX9_all_121 : decode cX9_all 121 = .ok (.lreturn, 1) := by decide +kernel
theorem dX9_trulyPaid_0 : decode cX9_trulyPaid 0 = .ok (.lconst 0, 1) := by decide +kernel
theorem dX9_trulyPaid_1 : decode cX9_trulyPaid 1 = .ok (.lstore_n 3, 1) := by decide +kernel
theorem dX9_trulyPaid_2 : decode cX9_trulyPaid 2 = .ok (.iconst 0, 1) := by decide +kernel
theorem dX9_trulyPaid_3 : decode cX9_trulyPaid 3 = .ok (.istore 5, 2) := by decide +kernel
theorem dX9_trulyPaid_5 : decode cX9_trulyPaid 5 = .ok (.iload 5, 2) := by decide +kernel
theorem dX9_trulyPaid_7 : decode cX9_trulyPaid 7 = .ok (.aload_n 0, 1) := by decide +kernel
theorem dX9_trulyPaid_8 : decode cX9_trulyPaid 8 = .ok (.getfield 13, 3) := by decide +kernel
theorem dX9_trulyPaid_11 : decode cX9_trulyPaid 11 = .ok (.if_icmp .ge 35, 3) := by decide +kernel
theorem dX9_trulyPaid_14 : decode cX9_trulyPaid 14 = .ok (.lload_n 3, 1) := by decide +kernel
theorem dX9_trulyPaid_15 : decode cX9_trulyPaid 15 = .ok (.aload_n 0, 1) := by decide +kernel
theorem dX9_trulyPaid_16 : decode cX9_trulyPaid 16 = .ok (.iload 5, 2) := by decide +kernel
theorem dX9_trulyPaid_18 : decode cX9_trulyPaid 18 = .ok (.iconst 0, 1) := by decide +kernel
theorem dX9_trulyPaid_19 : decode cX9_trulyPaid 19 = .ok (.invokevirtual 148, 3) := by decide +kernel
theorem dX9_trulyPaid_22 : decode cX9_trulyPaid 22 = .ok (.iload_n 2, 1) := by decide +kernel
theorem dX9_trulyPaid_23 : decode cX9_trulyPaid 23 = .ok (.if_icmp .ne 14, 3) := by decide +kernel
theorem dX9_trulyPaid_26 : decode cX9_trulyPaid 26 = .ok (.aload_n 0, 1) := by decide +kernel
theorem dX9_trulyPaid_27 : decode cX9_trulyPaid 27 = .ok (.iload_n 1, 1) := by decide +kernel
theorem dX9_trulyPaid_28 : decode cX9_trulyPaid 28 = .ok (.iload 5, 2) := by decide +kernel
theorem dX9_trulyPaid_30 : decode cX9_trulyPaid 30 = .ok (.iconst 2, 1) := by decide +kernel
theorem dX9_trulyPaid_31 : decode cX9_trulyPaid 31 = .ok (.invokevirtual 279, 3) := by decide +kernel
theorem dX9_trulyPaid_34 : decode cX9_trulyPaid 34 = .ok (.goto 4, 3) := by decide +kernel
theorem dX9_trulyPaid_37 : decode cX9_trulyPaid 37 = .ok (.lconst 0, 1) := by decide +kernel
theorem dX9_trulyPaid_38 : decode cX9_trulyPaid 38 = .ok (.ladd, 1) := by decide +kernel
theorem dX9_trulyPaid_39 : decode cX9_trulyPaid 39 = .ok (.lstore_n 3, 1) := by decide +kernel
theorem dX9_trulyPaid_40 : decode cX9_trulyPaid 40 = .ok (.iinc 5 1, 3) := by decide +kernel
theorem dX9_trulyPaid_43 : decode cX9_trulyPaid 43 = .ok (.goto (-38), 3) := by decide +kernel
theorem dX9_trulyPaid_46 : decode cX9_trulyPaid 46 = .ok (.lload_n 3, 1) := by decide +kernel
theorem dX9_trulyPaid_47 : decode cX9_trulyPaid 47 = .ok (.lreturn, 1) := by decide +kernel
theorem dX9_ends_0 : decode cX9_ends 0 = .ok (.aload_n 0, 1) := by decide +kernel
theorem dX9_ends_1 : decode cX9_ends 1 = .ok (.iload_n 1, 1) := by decide +kernel
theorem dX9_ends_2 : decode cX9_ends 2 = .ok (.invokevirtual 156, 3) := by decide +kernel
theorem dX9_ends_5 : decode cX9_ends 5 = .ok (.ifCond .eq 23, 3) := by decide +kernel
theorem dX9_ends_8 : decode cX9_ends 8 = .ok (.aload_n 0, 1) := by decide +kernel
theorem dX9_ends_9 : decode cX9_ends 9 = .ok (.iload_n 2, 1) := by decide +kernel
theorem dX9_ends_10 : decode cX9_ends 10 = .ok (.iconst 0, 1) := by decide +kernel
theorem dX9_ends_11 : decode cX9_ends 11 = .ok (.iconst 2, 1) := by decide +kernel
theorem dX9_ends_12 : decode cX9_ends 12 = .ok (.invokevirtual 144, 3) := by decide +kernel
theorem dX9_ends_15 : decode cX9_ends 15 = .ok (.ifCond .eq 13, 3) := by decide +kernel
theorem dX9_ends_18 : decode cX9_ends 18 = .ok (.aload_n 0, 1) := by decide +kernel
theorem dX9_ends_19 : decode cX9_ends 19 = .ok (.iload_n 3, 1) := by decide +kernel
theorem dX9_ends_20 : decode cX9_ends 20 = .ok (.iconst 0, 1) := by decide +kernel
theorem dX9_ends_21 : decode cX9_ends 21 = .ok (.iconst 1, 1) := by decide +kernel
theorem dX9_ends_22 : decode cX9_ends 22 = .ok (.invokevirtual 144, 3) := by decide +kernel
theorem dX9_ends_25 : decode cX9_ends 25 = .ok (.ifCond .ne 7, 3) := by decide +kernel
theorem dX9_ends_28 : decode cX9_ends 28 = .ok (.ldc2_w 277, 3) := by decide +kernel
theorem dX9_ends_31 : decode cX9_ends 31 = .ok (.lreturn, 1) := by decide +kernel
theorem dX9_ends_32 : decode cX9_ends 32 = .ok (.aload_n 0, 1) := by decide +kernel
theorem dX9_ends_33 : decode cX9_ends 33 = .ok (.getfield 26, 3) := by decide +kernel
theorem dX9_ends_36 : decode cX9_ends 36 = .ok (.iload_n 1, 1) := by decide +kernel
theorem dX9_ends_37 : decode cX9_ends 37 = .ok (.iaload, 1) := by decide +kernel
theorem dX9_ends_38 : decode cX9_ends 38 = .ok (.istore 4, 2) := by decide +kernel
theorem dX9_ends_40 : decode cX9_ends 40 = .ok (.lconst 0, 1) := by decide +kernel
theorem dX9_ends_41 : decode cX9_ends 41 = .ok (.lstore 5, 2) := by decide +kernel
theorem dX9_ends_43 : decode cX9_ends 43 = .ok (.iconst 0, 1) := by decide +kernel
theorem dX9_ends_44 : decode cX9_ends 44 = .ok (.istore 7, 2) := by decide +kernel
theorem dX9_ends_46 : decode cX9_ends 46 = .ok (.iload 7, 2) := by decide +kernel
theorem dX9_ends_48 : decode cX9_ends 48 = .ok (.aload_n 0, 1) := by decide +kernel
theorem dX9_ends_49 : decode cX9_ends 49 = .ok (.getfield 13, 3) := by decide +kernel
theorem dX9_ends_52 : decode cX9_ends 52 = .ok (.if_icmp .ge 87, 3) := by decide +kernel
theorem dX9_ends_55 : decode cX9_ends 55 = .ok (.iload_n 2, 1) := by decide +kernel
theorem dX9_ends_56 : decode cX9_ends 56 = .ok (.iconst 2, 1) := by decide +kernel
theorem dX9_ends_57 : decode cX9_ends 57 = .ok (.if_icmp .ge 82, 3) := by decide +kernel
theorem dX9_ends_60 : decode cX9_ends 60 = .ok (.aload_n 0, 1) := by decide +kernel
theorem dX9_ends_61 : decode cX9_ends 61 = .ok (.iload 7, 2) := by decide +kernel
theorem dX9_ends_63 : decode cX9_ends 63 = .ok (.iconst 0, 1) := by decide +kernel
theorem dX9_ends_64 : decode cX9_ends 64 = .ok (.invokevirtual 148, 3) := by decide +kernel
theorem dX9_ends_67 : decode cX9_ends 67 = .ok (.iload_n 1, 1) := by decide +kernel
theorem dX9_ends_68 : decode cX9_ends 68 = .ok (.if_icmp .eq 6, 3) := by decide +kernel
theorem dX9_ends_71 : decode cX9_ends 71 = .ok (.goto 62, 3) := by decide +kernel
theorem dX9_ends_74 : decode cX9_ends 74 = .ok (.aload_n 0, 1) := by decide +kernel
theorem dX9_ends_75 : decode cX9_ends 75 = .ok (.iload 4, 2) := by decide +kernel
theorem dX9_ends_77 : decode cX9_ends 77 = .ok (.iload 7, 2) := by decide +kernel
theorem dX9_ends_79 : decode cX9_ends 79 = .ok (.iconst 0, 1) := by decide +kernel
theorem dX9_ends_80 : decode cX9_ends 80 = .ok (.invokevirtual 279, 3) := by decide +kernel
theorem dX9_ends_83 : decode cX9_ends 83 = .ok (.lstore 8, 2) := by decide +kernel
theorem dX9_ends_85 : decode cX9_ends 85 = .ok (.aload_n 0, 1) := by decide +kernel
theorem dX9_ends_86 : decode cX9_ends 86 = .ok (.iload 4, 2) := by decide +kernel
theorem dX9_ends_88 : decode cX9_ends 88 = .ok (.iload 7, 2) := by decide +kernel
theorem dX9_ends_90 : decode cX9_ends 90 = .ok (.iconst 1, 1) := by decide +kernel
theorem dX9_ends_91 : decode cX9_ends 91 = .ok (.invokevirtual 279, 3) := by decide +kernel
theorem dX9_ends_94 : decode cX9_ends 94 = .ok (.lstore 10, 2) := by decide +kernel
theorem dX9_ends_96 : decode cX9_ends 96 = .ok (.lload 5, 2) := by decide +kernel
theorem dX9_ends_98 : decode cX9_ends 98 = .ok (.lload 8, 2) := by decide +kernel
theorem dX9_ends_100 : decode cX9_ends 100 = .ok (.lload 10, 2) := by decide +kernel
theorem dX9_ends_102 : decode cX9_ends 102 = .ok (.lcmp, 1) := by decide +kernel
theorem dX9_ends_103 : decode cX9_ends 103 = .ok (.ifCond .ge 7, 3) := by decide +kernel
theorem dX9_ends_106 : decode cX9_ends 106 = .ok (.iconst 1, 1) := by decide +kernel
theorem dX9_ends_107 : decode cX9_ends 107 = .ok (.goto 4, 3) := by decide +kernel
theorem dX9_ends_110 : decode cX9_ends 110 = .ok (.iconst 0, 1) := by decide +kernel
theorem dX9_ends_111 : decode cX9_ends 111 = .ok (.iload_n 2, 1) := by decide +kernel
theorem dX9_ends_112 : decode cX9_ends 112 = .ok (.ifCond .ne 7, 3) := by decide +kernel
theorem dX9_ends_115 : decode cX9_ends 115 = .ok (.iconst 1, 1) := by decide +kernel
theorem dX9_ends_116 : decode cX9_ends 116 = .ok (.goto 4, 3) := by decide +kernel
theorem dX9_ends_119 : decode cX9_ends 119 = .ok (.iconst 0, 1) := by decide +kernel
theorem dX9_ends_120 : decode cX9_ends 120 = .ok (.if_icmp .ne 8, 3) := by decide +kernel
theorem dX9_ends_123 : decode cX9_ends 123 = .ok (.lload 8, 2) := by decide +kernel
theorem dX9_ends_125 : decode cX9_ends 125 = .ok (.goto 5, 3) := by decide +kernel
theorem dX9_ends_128 : decode cX9_ends 128 = .ok (.lload 10, 2) := by decide +kernel
theorem dX9_ends_130 : decode cX9_ends 130 = .ok (.ladd, 1) := by decide +kernel
theorem dX9_ends_131 : decode cX9_ends 131 = .ok (.lstore 5, 2) := by decide +kernel
theorem dX9_ends_133 : decode cX9_ends 133 = .ok (.iinc 7 1, 3) := by decide +kernel
theorem dX9_ends_136 : decode cX9_ends 136 = .ok (.goto (-90), 3) := by decide +kernel
theorem dX9_ends_139 : decode cX9_ends 139 = .ok (.aload_n 0, 1) := by decide +kernel
theorem dX9_ends_140 : decode cX9_ends 140 = .ok (.iload_n 2, 1) := by decide +kernel
theorem dX9_ends_141 : decode cX9_ends 141 = .ok (.iconst 2, 1) := by decide +kernel
theorem dX9_ends_142 : decode cX9_ends 142 = .ok (.if_icmp .ne 13, 3) := by decide +kernel
theorem dX9_ends_145 : decode cX9_ends 145 = .ok (.aload_n 0, 1) := by decide +kernel
theorem dX9_ends_146 : decode cX9_ends 146 = .ok (.iload 4, 2) := by decide +kernel
theorem dX9_ends_148 : decode cX9_ends 148 = .ok (.iload_n 1, 1) := by decide +kernel
theorem dX9_ends_149 : decode cX9_ends 149 = .ok (.invokevirtual 287, 3) := by decide +kernel
theorem dX9_ends_152 : decode cX9_ends 152 = .ok (.goto 5, 3) := by decide +kernel
theorem dX9_ends_155 : decode cX9_ends 155 = .ok (.lload 5, 2) := by decide +kernel
theorem dX9_ends_157 : decode cX9_ends 157 = .ok (.aload_n 0, 1) := by decide +kernel
theorem dX9_ends_158 : decode cX9_ends 158 = .ok (.iload 4, 2) := by decide +kernel
theorem dX9_ends_160 : decode cX9_ends 160 = .ok (.invokevirtual 269, 3) := by decide +kernel
theorem dX9_ends_163 : decode cX9_ends 163 = .ok (.iload_n 3, 1) := by decide +kernel
theorem dX9_ends_164 : decode cX9_ends 164 = .ok (.invokevirtual 283, 3) := by decide +kernel
theorem dX9_ends_167 : decode cX9_ends 167 = .ok (.lreturn, 1) := by decide +kernel
theorem dX9_truly_0 : decode cX9_truly 0 = .ok (.aload_n 0, 1) := by decide +kernel
theorem dX9_truly_1 : decode cX9_truly 1 = .ok (.iload_n 1, 1) := by decide +kernel
theorem dX9_truly_2 : decode cX9_truly 2 = .ok (.invokevirtual 156, 3) := by decide +kernel
theorem dX9_truly_5 : decode cX9_truly 5 = .ok (.ifCond .ne 5, 3) := by decide +kernel
theorem dX9_truly_8 : decode cX9_truly 8 = .ok (.iconst (-1), 1) := by decide +kernel
theorem dX9_truly_9 : decode cX9_truly 9 = .ok (.ireturn, 1) := by decide +kernel
theorem dX9_truly_10 : decode cX9_truly 10 = .ok (.iconst 0, 1) := by decide +kernel
theorem dX9_truly_11 : decode cX9_truly 11 = .ok (.istore_n 2, 1) := by decide +kernel
theorem dX9_truly_12 : decode cX9_truly 12 = .ok (.iconst 0, 1) := by decide +kernel
theorem dX9_truly_13 : decode cX9_truly 13 = .ok (.istore_n 3, 1) := by decide +kernel
theorem dX9_truly_14 : decode cX9_truly 14 = .ok (.iconst 0, 1) := by decide +kernel
theorem dX9_truly_15 : decode cX9_truly 15 = .ok (.istore 4, 2) := by decide +kernel
theorem dX9_truly_17 : decode cX9_truly 17 = .ok (.iload 4, 2) := by decide +kernel
theorem dX9_truly_19 : decode cX9_truly 19 = .ok (.aload_n 0, 1) := by decide +kernel
theorem dX9_truly_20 : decode cX9_truly 20 = .ok (.getfield 13, 3) := by decide +kernel
theorem dX9_truly_23 : decode cX9_truly 23 = .ok (.if_icmp .ge 65, 3) := by decide +kernel
theorem dX9_truly_26 : decode cX9_truly 26 = .ok (.aload_n 0, 1) := by decide +kernel
theorem dX9_truly_27 : decode cX9_truly 27 = .ok (.iload 4, 2) := by decide +kernel
theorem dX9_truly_29 : decode cX9_truly 29 = .ok (.iconst 0, 1) := by decide +kernel
theorem dX9_truly_30 : decode cX9_truly 30 = .ok (.invokevirtual 148, 3) := by decide +kernel
theorem dX9_truly_33 : decode cX9_truly 33 = .ok (.iload_n 1, 1) := by decide +kernel
theorem dX9_truly_34 : decode cX9_truly 34 = .ok (.if_icmp .eq 6, 3) := by decide +kernel
theorem dX9_truly_37 : decode cX9_truly 37 = .ok (.goto 45, 3) := by decide +kernel
theorem dX9_truly_40 : decode cX9_truly 40 = .ok (.aload_n 0, 1) := by decide +kernel
theorem dX9_truly_41 : decode cX9_truly 41 = .ok (.aload_n 0, 1) := by decide +kernel
theorem dX9_truly_42 : decode cX9_truly 42 = .ok (.getfield 26, 3) := by decide +kernel
theorem dX9_truly_45 : decode cX9_truly 45 = .ok (.iload_n 1, 1) := by decide +kernel
theorem dX9_truly_46 : decode cX9_truly 46 = .ok (.iaload, 1) := by decide +kernel
theorem dX9_truly_47 : decode cX9_truly 47 = .ok (.iload 4, 2) := by decide +kernel
theorem dX9_truly_49 : decode cX9_truly 49 = .ok (.iconst 2, 1) := by decide +kernel
theorem dX9_truly_50 : decode cX9_truly 50 = .ok (.invokevirtual 279, 3) := by decide +kernel
theorem dX9_truly_53 : decode cX9_truly 53 = .ok (.lstore 5, 2) := by decide +kernel
theorem dX9_truly_55 : decode cX9_truly 55 = .ok (.iload_n 2, 1) := by decide +kernel
theorem dX9_truly_56 : decode cX9_truly 56 = .ok (.aload_n 0, 1) := by decide +kernel
theorem dX9_truly_57 : decode cX9_truly 57 = .ok (.getfield 96, 3) := by decide +kernel
theorem dX9_truly_60 : decode cX9_truly 60 = .ok (.ifCond .eq 16, 3) := by decide +kernel
theorem dX9_truly_63 : decode cX9_truly 63 = .ok (.lload 5, 2) := by decide +kernel
theorem dX9_truly_65 : decode cX9_truly 65 = .ok (.lconst 0, 1) := by decide +kernel
theorem dX9_truly_66 : decode cX9_truly 66 = .ok (.lcmp, 1) := by decide +kernel
theorem dX9_truly_67 : decode cX9_truly 67 = .ok (.ifCond .lt 9, 3) := by decide +kernel
theorem dX9_truly_70 : decode cX9_truly 70 = .ok (.iconst 1, 1) := by decide +kernel
theorem dX9_truly_71 : decode cX9_truly 71 = .ok (.iload_n 3, 1) := by decide +kernel
theorem dX9_truly_72 : decode cX9_truly 72 = .ok (.ishl, 1) := by decide +kernel
theorem dX9_truly_73 : decode cX9_truly 73 = .ok (.goto 4, 3) := by decide +kernel
theorem dX9_truly_76 : decode cX9_truly 76 = .ok (.iconst 0, 1) := by decide +kernel
theorem dX9_truly_77 : decode cX9_truly 77 = .ok (.ior, 1) := by decide +kernel
theorem dX9_truly_78 : decode cX9_truly 78 = .ok (.istore_n 2, 1) := by decide +kernel
theorem dX9_truly_79 : decode cX9_truly 79 = .ok (.iinc 3 1, 3) := by decide +kernel
theorem dX9_truly_82 : decode cX9_truly 82 = .ok (.iinc 4 1, 3) := by decide +kernel
theorem dX9_truly_85 : decode cX9_truly 85 = .ok (.goto (-68), 3) := by decide +kernel
theorem dX9_truly_88 : decode cX9_truly 88 = .ok (.iload_n 2, 1) := by decide +kernel
theorem dX9_truly_89 : decode cX9_truly 89 = .ok (.ireturn, 1) := by decide +kernel
theorem dX9_rolled_0 : decode cX9_rolled 0 = .ok (.aload_n 0, 1) := by decide +kernel
theorem dX9_rolled_1 : decode cX9_rolled 1 = .ok (.iload_n 1, 1) := by decide +kernel
theorem dX9_rolled_2 : decode cX9_rolled 2 = .ok (.invokevirtual 156, 3) := by decide +kernel
theorem dX9_rolled_5 : decode cX9_rolled 5 = .ok (.ifCond .eq 13, 3) := by decide +kernel
theorem dX9_rolled_8 : decode cX9_rolled 8 = .ok (.aload_n 0, 1) := by decide +kernel
theorem dX9_rolled_9 : decode cX9_rolled 9 = .ok (.iload_n 2, 1) := by decide +kernel
theorem dX9_rolled_10 : decode cX9_rolled 10 = .ok (.iconst 0, 1) := by decide +kernel
theorem dX9_rolled_11 : decode cX9_rolled 11 = .ok (.iconst 1, 1) := by decide +kernel
theorem dX9_rolled_12 : decode cX9_rolled 12 = .ok (.invokevirtual 144, 3) := by decide +kernel
theorem dX9_rolled_15 : decode cX9_rolled 15 = .ok (.ifCond .ne 5, 3) := by decide +kernel
theorem dX9_rolled_18 : decode cX9_rolled 18 = .ok (.iconst (-1), 1) := by decide +kernel
theorem dX9_rolled_19 : decode cX9_rolled 19 = .ok (.ireturn, 1) := by decide +kernel
theorem dX9_rolled_20 : decode cX9_rolled 20 = .ok (.iconst 0, 1) := by decide +kernel
theorem dX9_rolled_21 : decode cX9_rolled 21 = .ok (.istore_n 3, 1) := by decide +kernel
theorem dX9_rolled_22 : decode cX9_rolled 22 = .ok (.iconst 0, 1) := by decide +kernel
theorem dX9_rolled_23 : decode cX9_rolled 23 = .ok (.istore 4, 2) := by decide +kernel
theorem dX9_rolled_25 : decode cX9_rolled 25 = .ok (.iload 4, 2) := by decide +kernel
theorem dX9_rolled_27 : decode cX9_rolled 27 = .ok (.aload_n 0, 1) := by decide +kernel
theorem dX9_rolled_28 : decode cX9_rolled 28 = .ok (.getfield 13, 3) := by decide +kernel
theorem dX9_rolled_31 : decode cX9_rolled 31 = .ok (.if_icmp .ge 44, 3) := by decide +kernel
theorem dX9_rolled_34 : decode cX9_rolled 34 = .ok (.iload_n 3, 1) := by decide +kernel
theorem dX9_rolled_35 : decode cX9_rolled 35 = .ok (.aload_n 0, 1) := by decide +kernel
theorem dX9_rolled_36 : decode cX9_rolled 36 = .ok (.iload 4, 2) := by decide +kernel
theorem dX9_rolled_38 : decode cX9_rolled 38 = .ok (.iconst 0, 1) := by decide +kernel
theorem dX9_rolled_39 : decode cX9_rolled 39 = .ok (.invokevirtual 148, 3) := by decide +kernel
theorem dX9_rolled_42 : decode cX9_rolled 42 = .ok (.iload_n 1, 1) := by decide +kernel
theorem dX9_rolled_43 : decode cX9_rolled 43 = .ok (.if_icmp .ne 23, 3) := by decide +kernel
theorem dX9_rolled_46 : decode cX9_rolled 46 = .ok (.aload_n 0, 1) := by decide +kernel
theorem dX9_rolled_47 : decode cX9_rolled 47 = .ok (.aload_n 0, 1) := by decide +kernel
theorem dX9_rolled_48 : decode cX9_rolled 48 = .ok (.getfield 26, 3) := by decide +kernel
theorem dX9_rolled_51 : decode cX9_rolled 51 = .ok (.iload_n 1, 1) := by decide +kernel
theorem dX9_rolled_52 : decode cX9_rolled 52 = .ok (.iaload, 1) := by decide +kernel
theorem dX9_rolled_53 : decode cX9_rolled 53 = .ok (.iload 4, 2) := by decide +kernel
theorem dX9_rolled_55 : decode cX9_rolled 55 = .ok (.invokevirtual 263, 3) := by decide +kernel
theorem dX9_rolled_58 : decode cX9_rolled 58 = .ok (.iconst 4, 1) := by decide +kernel
theorem dX9_rolled_59 : decode cX9_rolled 59 = .ok (.if_icmp .ne 7, 3) := by decide +kernel
theorem dX9_rolled_62 : decode cX9_rolled 62 = .ok (.iconst 1, 1) := by decide +kernel
theorem dX9_rolled_63 : decode cX9_rolled 63 = .ok (.goto 4, 3) := by decide +kernel
theorem dX9_rolled_66 : decode cX9_rolled 66 = .ok (.iconst 0, 1) := by decide +kernel
theorem dX9_rolled_67 : decode cX9_rolled 67 = .ok (.iadd, 1) := by decide +kernel
theorem dX9_rolled_68 : decode cX9_rolled 68 = .ok (.istore_n 3, 1) := by decide +kernel
theorem dX9_rolled_69 : decode cX9_rolled 69 = .ok (.iinc 4 1, 3) := by decide +kernel
theorem dX9_rolled_72 : decode cX9_rolled 72 = .ok (.goto (-47), 3) := by decide +kernel
theorem dX9_rolled_75 : decode cX9_rolled 75 = .ok (.iload_n 2, 1) := by decide +kernel
theorem dX9_rolled_76 : decode cX9_rolled 76 = .ok (.iconst 1, 1) := by decide +kernel
theorem dX9_rolled_77 : decode cX9_rolled 77 = .ok (.if_icmp .ne 7, 3) := by decide +kernel
theorem dX9_rolled_80 : decode cX9_rolled 80 = .ok (.iload_n 3, 1) := by decide +kernel
theorem dX9_rolled_81 : decode cX9_rolled 81 = .ok (.goto 23, 3) := by decide +kernel
theorem dX9_rolled_84 : decode cX9_rolled 84 = .ok (.iload_n 3, 1) := by decide +kernel
theorem dX9_rolled_85 : decode cX9_rolled 85 = .ok (.ifCond .ne 8, 3) := by decide +kernel
theorem dX9_rolled_88 : decode cX9_rolled 88 = .ok (.bipush (-5), 2) := by decide +kernel
theorem dX9_rolled_90 : decode cX9_rolled 90 = .ok (.goto 14, 3) := by decide +kernel
theorem dX9_rolled_93 : decode cX9_rolled 93 = .ok (.aload_n 0, 1) := by decide +kernel
theorem dX9_rolled_94 : decode cX9_rolled 94 = .ok (.aload_n 0, 1) := by decide +kernel
theorem dX9_rolled_95 : decode cX9_rolled 95 = .ok (.getfield 26, 3) := by decide +kernel
theorem dX9_rolled_98 : decode cX9_rolled 98 = .ok (.iload_n 1, 1) := by decide +kernel
theorem dX9_rolled_99 : decode cX9_rolled 99 = .ok (.iaload, 1) := by decide +kernel
theorem dX9_rolled_100 : decode cX9_rolled 100 = .ok (.iload_n 1, 1) := by decide +kernel
theorem dX9_rolled_101 : decode cX9_rolled 101 = .ok (.invokevirtual 257, 3) := by decide +kernel
theorem dX9_rolled_104 : decode cX9_rolled 104 = .ok (.ireturn, 1) := by decide +kernel
theorem dX9_keepAnswers_0 : decode cX9_keepAnswers 0 = .ok (.iconst 0, 1) := by decide +kernel
theorem dX9_keepAnswers_1 : decode cX9_keepAnswers 1 = .ok (.istore_n 1, 1) := by decide +kernel
theorem dX9_keepAnswers_2 : decode cX9_keepAnswers 2 = .ok (.iload_n 1, 1) := by decide +kernel
theorem dX9_keepAnswers_3 : decode cX9_keepAnswers 3 = .ok (.aload_n 0, 1) := by decide +kernel
theorem dX9_keepAnswers_4 : decode cX9_keepAnswers 4 = .ok (.getfield 13, 3) := by decide +kernel
theorem dX9_keepAnswers_7 : decode cX9_keepAnswers 7 = .ok (.if_icmp .ge 33, 3) := by decide +kernel
theorem dX9_keepAnswers_10 : decode cX9_keepAnswers 10 = .ok (.aload_n 0, 1) := by decide +kernel
theorem dX9_keepAnswers_11 : decode cX9_keepAnswers 11 = .ok (.getfield 100, 3) := by decide +kernel
theorem dX9_keepAnswers_14 : decode cX9_keepAnswers 14 = .ok (.iload_n 1, 1) := by decide +kernel
theorem dX9_keepAnswers_15 : decode cX9_keepAnswers 15 = .ok (.aload_n 0, 1) := by decide +kernel
theorem dX9_keepAnswers_16 : decode cX9_keepAnswers 16 = .ok (.iload_n 1, 1) := by decide +kernel
theorem dX9_keepAnswers_17 : decode cX9_keepAnswers 17 = .ok (.iconst 3, 1) := by decide +kernel
theorem dX9_keepAnswers_18 : decode cX9_keepAnswers 18 = .ok (.invokevirtual 148, 3) := by decide +kernel
theorem dX9_keepAnswers_21 : decode cX9_keepAnswers 21 = .ok (.iastore, 1) := by decide +kernel
theorem dX9_keepAnswers_22 : decode cX9_keepAnswers 22 = .ok (.aload_n 0, 1) := by decide +kernel
theorem dX9_keepAnswers_23 : decode cX9_keepAnswers 23 = .ok (.getfield 103, 3) := by decide +kernel
theorem dX9_keepAnswers_26 : decode cX9_keepAnswers 26 = .ok (.iload_n 1, 1) := by decide +kernel
theorem dX9_keepAnswers_27 : decode cX9_keepAnswers 27 = .ok (.aload_n 0, 1) := by decide +kernel
theorem dX9_keepAnswers_28 : decode cX9_keepAnswers 28 = .ok (.iload_n 1, 1) := by decide +kernel
theorem dX9_keepAnswers_29 : decode cX9_keepAnswers 29 = .ok (.iconst 4, 1) := by decide +kernel
theorem dX9_keepAnswers_30 : decode cX9_keepAnswers 30 = .ok (.invokevirtual 148, 3) := by decide +kernel
theorem dX9_keepAnswers_33 : decode cX9_keepAnswers 33 = .ok (.iastore, 1) := by decide +kernel
theorem dX9_keepAnswers_34 : decode cX9_keepAnswers 34 = .ok (.iinc 1 1, 3) := by decide +kernel
theorem dX9_keepAnswers_37 : decode cX9_keepAnswers 37 = .ok (.goto (-35), 3) := by decide +kernel
theorem dX9_keepAnswers_40 : decode cX9_keepAnswers 40 = .ok (.return_, 1) := by decide +kernel
theorem dX9_putBack_0 : decode cX9_putBack 0 = .ok (.iconst 0, 1) := by decide +kernel
theorem dX9_putBack_1 : decode cX9_putBack 1 = .ok (.istore_n 1, 1) := by decide +kernel
theorem dX9_putBack_2 : decode cX9_putBack 2 = .ok (.iload_n 1, 1) := by decide +kernel
theorem dX9_putBack_3 : decode cX9_putBack 3 = .ok (.aload_n 0, 1) := by decide +kernel
theorem dX9_putBack_4 : decode cX9_putBack 4 = .ok (.getfield 13, 3) := by decide +kernel
theorem dX9_putBack_7 : decode cX9_putBack 7 = .ok (.if_icmp .ge 43, 3) := by decide +kernel
theorem dX9_putBack_10 : decode cX9_putBack 10 = .ok (.aload_n 0, 1) := by decide +kernel
theorem dX9_putBack_11 : decode cX9_putBack 11 = .ok (.getfield 29, 3) := by decide +kernel
theorem dX9_putBack_14 : decode cX9_putBack 14 = .ok (.bipush 10, 2) := by decide +kernel
theorem dX9_putBack_16 : decode cX9_putBack 16 = .ok (.iload_n 1, 1) := by decide +kernel
theorem dX9_putBack_17 : decode cX9_putBack 17 = .ok (.imul, 1) := by decide +kernel
theorem dX9_putBack_18 : decode cX9_putBack 18 = .ok (.iconst 3, 1) := by decide +kernel
theorem dX9_putBack_19 : decode cX9_putBack 19 = .ok (.iadd, 1) := by decide +kernel
theorem dX9_putBack_20 : decode cX9_putBack 20 = .ok (.aload_n 0, 1) := by decide +kernel
theorem dX9_putBack_21 : decode cX9_putBack 21 = .ok (.getfield 100, 3) := by decide +kernel
theorem dX9_putBack_24 : decode cX9_putBack 24 = .ok (.iload_n 1, 1) := by decide +kernel
theorem dX9_putBack_25 : decode cX9_putBack 25 = .ok (.iaload, 1) := by decide +kernel
theorem dX9_putBack_26 : decode cX9_putBack 26 = .ok (.iastore, 1) := by decide +kernel
theorem dX9_putBack_27 : decode cX9_putBack 27 = .ok (.aload_n 0, 1) := by decide +kernel
theorem dX9_putBack_28 : decode cX9_putBack 28 = .ok (.getfield 29, 3) := by decide +kernel
theorem dX9_putBack_31 : decode cX9_putBack 31 = .ok (.bipush 10, 2) := by decide +kernel
theorem dX9_putBack_33 : decode cX9_putBack 33 = .ok (.iload_n 1, 1) := by decide +kernel
theorem dX9_putBack_34 : decode cX9_putBack 34 = .ok (.imul, 1) := by decide +kernel
theorem dX9_putBack_35 : decode cX9_putBack 35 = .ok (.iconst 4, 1) := by decide +kernel
theorem dX9_putBack_36 : decode cX9_putBack 36 = .ok (.iadd, 1) := by decide +kernel
theorem dX9_putBack_37 : decode cX9_putBack 37 = .ok (.aload_n 0, 1) := by decide +kernel
theorem dX9_putBack_38 : decode cX9_putBack 38 = .ok (.getfield 103, 3) := by decide +kernel
theorem dX9_putBack_41 : decode cX9_putBack 41 = .ok (.iload_n 1, 1) := by decide +kernel
theorem dX9_putBack_42 : decode cX9_putBack 42 = .ok (.iaload, 1) := by decide +kernel
theorem dX9_putBack_43 : decode cX9_putBack 43 = .ok (.iastore, 1) := by decide +kernel
theorem dX9_putBack_44 : decode cX9_putBack 44 = .ok (.iinc 1 1, 3) := by decide +kernel
theorem dX9_putBack_47 : decode cX9_putBack 47 = .ok (.goto (-45), 3) := by decide +kernel
theorem dX9_putBack_50 : decode cX9_putBack 50 = .ok (.return_, 1) := by decide +kernel
theorem dX9_answerSo_0 : decode cX9_answerSo 0 = .ok (.aload_n 0, 1) := by decide +kernel
theorem dX9_answerSo_1 : decode cX9_answerSo 1 = .ok (.iload_n 1, 1) := by decide +kernel
theorem dX9_answerSo_2 : decode cX9_answerSo 2 = .ok (.iconst 1, 1) := by decide +kernel
theorem dX9_answerSo_3 : decode cX9_answerSo 3 = .ok (.invokevirtual 148, 3) := by decide +kernel
theorem dX9_answerSo_6 : decode cX9_answerSo 6 = .ok (.istore_n 3, 1) := by decide +kernel
theorem dX9_answerSo_7 : decode cX9_answerSo 7 = .ok (.aload_n 0, 1) := by decide +kernel
theorem dX9_answerSo_8 : decode cX9_answerSo 8 = .ok (.iload_n 1, 1) := by decide +kernel
theorem dX9_answerSo_9 : decode cX9_answerSo 9 = .ok (.bipush 9, 2) := by decide +kernel
theorem dX9_answerSo_11 : decode cX9_answerSo 11 = .ok (.invokevirtual 148, 3) := by decide +kernel
theorem dX9_answerSo_14 : decode cX9_answerSo 14 = .ok (.iload_n 3, 1) := by decide +kernel
theorem dX9_answerSo_15 : decode cX9_answerSo 15 = .ok (.if_icmp .ge 13, 3) := by decide +kernel
theorem dX9_answerSo_18 : decode cX9_answerSo 18 = .ok (.aload_n 0, 1) := by decide +kernel
theorem dX9_answerSo_19 : decode cX9_answerSo 19 = .ok (.iload_n 1, 1) := by decide +kernel
theorem dX9_answerSo_20 : decode cX9_answerSo 20 = .ok (.bipush 9, 2) := by decide +kernel
theorem dX9_answerSo_22 : decode cX9_answerSo 22 = .ok (.invokevirtual 148, 3) := by decide +kernel
theorem dX9_answerSo_25 : decode cX9_answerSo 25 = .ok (.goto 4, 3) := by decide +kernel
theorem dX9_answerSo_28 : decode cX9_answerSo 28 = .ok (.iload_n 3, 1) := by decide +kernel
theorem dX9_answerSo_29 : decode cX9_answerSo 29 = .ok (.istore 4, 2) := by decide +kernel
theorem dX9_answerSo_31 : decode cX9_answerSo 31 = .ok (.aload_n 0, 1) := by decide +kernel
theorem dX9_answerSo_32 : decode cX9_answerSo 32 = .ok (.getfield 29, 3) := by decide +kernel
theorem dX9_answerSo_35 : decode cX9_answerSo 35 = .ok (.bipush 10, 2) := by decide +kernel
theorem dX9_answerSo_37 : decode cX9_answerSo 37 = .ok (.iload_n 1, 1) := by decide +kernel
theorem dX9_answerSo_38 : decode cX9_answerSo 38 = .ok (.imul, 1) := by decide +kernel
theorem dX9_answerSo_39 : decode cX9_answerSo 39 = .ok (.iconst 3, 1) := by decide +kernel
theorem dX9_answerSo_40 : decode cX9_answerSo 40 = .ok (.iadd, 1) := by decide +kernel
theorem dX9_answerSo_41 : decode cX9_answerSo 41 = .ok (.iload_n 2, 1) := by decide +kernel
theorem dX9_answerSo_42 : decode cX9_answerSo 42 = .ok (.iconst 1, 1) := by decide +kernel
theorem dX9_answerSo_43 : decode cX9_answerSo 43 = .ok (.if_icmp .ne 7, 3) := by decide +kernel
theorem dX9_answerSo_46 : decode cX9_answerSo 46 = .ok (.iload_n 3, 1) := by decide +kernel
theorem dX9_answerSo_47 : decode cX9_answerSo 47 = .ok (.goto 25, 3) := by decide +kernel
theorem dX9_answerSo_50 : decode cX9_answerSo 50 = .ok (.iload_n 2, 1) := by decide +kernel
theorem dX9_answerSo_51 : decode cX9_answerSo 51 = .ok (.iconst 2, 1) := by decide +kernel
theorem dX9_answerSo_52 : decode cX9_answerSo 52 = .ok (.if_icmp .ne 8, 3) := by decide +kernel
theorem dX9_answerSo_55 : decode cX9_answerSo 55 = .ok (.iload 4, 2) := by decide +kernel
theorem dX9_answerSo_57 : decode cX9_answerSo 57 = .ok (.goto 15, 3) := by decide +kernel
theorem dX9_answerSo_60 : decode cX9_answerSo 60 = .ok (.iload_n 2, 1) := by decide +kernel
theorem dX9_answerSo_61 : decode cX9_answerSo 61 = .ok (.iconst 3, 1) := by decide +kernel
theorem dX9_answerSo_62 : decode cX9_answerSo 62 = .ok (.if_icmp .ne 9, 3) := by decide +kernel
theorem dX9_answerSo_65 : decode cX9_answerSo 65 = .ok (.iload_n 3, 1) := by decide +kernel
theorem dX9_answerSo_66 : decode cX9_answerSo 66 = .ok (.iconst 2, 1) := by decide +kernel
theorem dX9_answerSo_67 : decode cX9_answerSo 67 = .ok (.idiv, 1) := by decide +kernel
theorem dX9_answerSo_68 : decode cX9_answerSo 68 = .ok (.goto 4, 3) := by decide +kernel
theorem dX9_answerSo_71 : decode cX9_answerSo 71 = .ok (.iconst 0, 1) := by decide +kernel
theorem dX9_answerSo_72 : decode cX9_answerSo 72 = .ok (.iastore, 1) := by decide +kernel
theorem dX9_answerSo_73 : decode cX9_answerSo 73 = .ok (.aload_n 0, 1) := by decide +kernel
theorem dX9_answerSo_74 : decode cX9_answerSo 74 = .ok (.getfield 29, 3) := by decide +kernel
theorem dX9_answerSo_77 : decode cX9_answerSo 77 = .ok (.bipush 10, 2) := by decide +kernel
theorem dX9_answerSo_79 : decode cX9_answerSo 79 = .ok (.iload_n 1, 1) := by decide +kernel
theorem dX9_answerSo_80 : decode cX9_answerSo 80 = .ok (.imul, 1) := by decide +kernel
theorem dX9_answerSo_81 : decode cX9_answerSo 81 = .ok (.iconst 4, 1) := by decide +kernel
theorem dX9_answerSo_82 : decode cX9_answerSo 82 = .ok (.iadd, 1) := by decide +kernel
theorem dX9_answerSo_83 : decode cX9_answerSo 83 = .ok (.iload_n 2, 1) := by decide +kernel
theorem dX9_answerSo_84 : decode cX9_answerSo 84 = .ok (.iconst 4, 1) := by decide +kernel
theorem dX9_answerSo_85 : decode cX9_answerSo 85 = .ok (.if_icmp .ne 7, 3) := by decide +kernel
theorem dX9_answerSo_88 : decode cX9_answerSo 88 = .ok (.iconst 0, 1) := by decide +kernel
theorem dX9_answerSo_89 : decode cX9_answerSo 89 = .ok (.goto 4, 3) := by decide +kernel
theorem dX9_answerSo_92 : decode cX9_answerSo 92 = .ok (.iconst 1, 1) := by decide +kernel
theorem dX9_answerSo_93 : decode cX9_answerSo 93 = .ok (.iastore, 1) := by decide +kernel
theorem dX9_answerSo_94 : decode cX9_answerSo 94 = .ok (.return_, 1) := by decide +kernel
theorem dX9_layOut_0 : decode cX9_layOut 0 = .ok (.iload_n 2, 1) := by decide +kernel
theorem dX9_layOut_1 : decode cX9_layOut 1 = .ok (.istore_n 3, 1) := by decide +kernel
theorem dX9_layOut_2 : decode cX9_layOut 2 = .ok (.aload_n 0, 1) := by decide +kernel
theorem dX9_layOut_3 : decode cX9_layOut 3 = .ok (.iload_n 1, 1) := by decide +kernel
theorem dX9_layOut_4 : decode cX9_layOut 4 = .ok (.invokevirtual 159, 3) := by decide +kernel
theorem dX9_layOut_7 : decode cX9_layOut 7 = .ok (.iconst 1, 1) := by decide +kernel
theorem dX9_layOut_8 : decode cX9_layOut 8 = .ok (.isub, 1) := by decide +kernel
theorem dX9_layOut_9 : decode cX9_layOut 9 = .ok (.istore 4, 2) := by decide +kernel
theorem dX9_layOut_11 : decode cX9_layOut 11 = .ok (.iload 4, 2) := by decide +kernel
theorem dX9_layOut_13 : decode cX9_layOut 13 = .ok (.ifCond .lt 27, 3) := by decide +kernel
theorem dX9_layOut_16 : decode cX9_layOut 16 = .ok (.aload_n 0, 1) := by decide +kernel
theorem dX9_layOut_17 : decode cX9_layOut 17 = .ok (.aload_n 0, 1) := by decide +kernel
theorem dX9_layOut_18 : decode cX9_layOut 18 = .ok (.iload_n 1, 1) := by decide +kernel
theorem dX9_layOut_19 : decode cX9_layOut 19 = .ok (.iload 4, 2) := by decide +kernel
theorem dX9_layOut_21 : decode cX9_layOut 21 = .ok (.invokevirtual 291, 3) := by decide +kernel
theorem dX9_layOut_24 : decode cX9_layOut 24 = .ok (.iload_n 3, 1) := by decide +kernel
theorem dX9_layOut_25 : decode cX9_layOut 25 = .ok (.iconst 5, 1) := by decide +kernel
theorem dX9_layOut_26 : decode cX9_layOut 26 = .ok (.irem, 1) := by decide +kernel
theorem dX9_layOut_27 : decode cX9_layOut 27 = .ok (.invokevirtual 294, 3) := by decide +kernel
theorem dX9_layOut_30 : decode cX9_layOut 30 = .ok (.iload_n 3, 1) := by decide +kernel
theorem dX9_layOut_31 : decode cX9_layOut 31 = .ok (.iconst 5, 1) := by decide +kernel
theorem dX9_layOut_32 : decode cX9_layOut 32 = .ok (.idiv, 1) := by decide +kernel
theorem dX9_layOut_33 : decode cX9_layOut 33 = .ok (.istore_n 3, 1) := by decide +kernel
theorem dX9_layOut_34 : decode cX9_layOut 34 = .ok (.iinc 4 (-1), 3) := by decide +kernel
theorem dX9_layOut_37 : decode cX9_layOut 37 = .ok (.goto (-26), 3) := by decide +kernel
theorem dX9_layOut_40 : decode cX9_layOut 40 = .ok (.return_, 1) := by decide +kernel
theorem dX9_oathsOf_0 : decode cX9_oathsOf 0 = .ok (.aload_n 0, 1) := by decide +kernel
theorem dX9_oathsOf_1 : decode cX9_oathsOf 1 = .ok (.getfield 26, 3) := by decide +kernel
theorem dX9_oathsOf_4 : decode cX9_oathsOf 4 = .ok (.iload_n 1, 1) := by decide +kernel
theorem dX9_oathsOf_5 : decode cX9_oathsOf 5 = .ok (.iaload, 1) := by decide +kernel
theorem dX9_oathsOf_6 : decode cX9_oathsOf 6 = .ok (.istore_n 2, 1) := by decide +kernel
theorem dX9_oathsOf_7 : decode cX9_oathsOf 7 = .ok (.iconst 0, 1) := by decide +kernel
theorem dX9_oathsOf_8 : decode cX9_oathsOf 8 = .ok (.istore_n 3, 1) := by decide +kernel
theorem dX9_oathsOf_9 : decode cX9_oathsOf 9 = .ok (.iconst 0, 1) := by decide +kernel
theorem dX9_oathsOf_10 : decode cX9_oathsOf 10 = .ok (.istore 4, 2) := by decide +kernel
theorem dX9_oathsOf_12 : decode cX9_oathsOf 12 = .ok (.iload 4, 2) := by decide +kernel
theorem dX9_oathsOf_14 : decode cX9_oathsOf 14 = .ok (.aload_n 0, 1) := by decide +kernel
theorem dX9_oathsOf_15 : decode cX9_oathsOf 15 = .ok (.getfield 13, 3) := by decide +kernel
theorem dX9_oathsOf_18 : decode cX9_oathsOf 18 = .ok (.if_icmp .ge 76, 3) := by decide +kernel
theorem dX9_oathsOf_21 : decode cX9_oathsOf 21 = .ok (.aload_n 0, 1) := by decide +kernel
theorem dX9_oathsOf_22 : decode cX9_oathsOf 22 = .ok (.iload 4, 2) := by decide +kernel
theorem dX9_oathsOf_24 : decode cX9_oathsOf 24 = .ok (.iconst 0, 1) := by decide +kernel
theorem dX9_oathsOf_25 : decode cX9_oathsOf 25 = .ok (.invokevirtual 148, 3) := by decide +kernel
theorem dX9_oathsOf_28 : decode cX9_oathsOf 28 = .ok (.iload_n 1, 1) := by decide +kernel
theorem dX9_oathsOf_29 : decode cX9_oathsOf 29 = .ok (.if_icmp .eq 6, 3) := by decide +kernel
theorem dX9_oathsOf_32 : decode cX9_oathsOf 32 = .ok (.goto 56, 3) := by decide +kernel
theorem dX9_oathsOf_35 : decode cX9_oathsOf 35 = .ok (.aload_n 0, 1) := by decide +kernel
theorem dX9_oathsOf_36 : decode cX9_oathsOf 36 = .ok (.iload_n 2, 1) := by decide +kernel
theorem dX9_oathsOf_37 : decode cX9_oathsOf 37 = .ok (.iload 4, 2) := by decide +kernel
theorem dX9_oathsOf_39 : decode cX9_oathsOf 39 = .ok (.invokevirtual 263, 3) := by decide +kernel
theorem dX9_oathsOf_42 : decode cX9_oathsOf 42 = .ok (.istore 5, 2) := by decide +kernel
theorem dX9_oathsOf_44 : decode cX9_oathsOf 44 = .ok (.iload_n 3, 1) := by decide +kernel
theorem dX9_oathsOf_45 : decode cX9_oathsOf 45 = .ok (.iload 5, 2) := by decide +kernel
theorem dX9_oathsOf_47 : decode cX9_oathsOf 47 = .ok (.iconst 3, 1) := by decide +kernel
theorem dX9_oathsOf_48 : decode cX9_oathsOf 48 = .ok (.if_icmp .eq 9, 3) := by decide +kernel
theorem dX9_oathsOf_51 : decode cX9_oathsOf 51 = .ok (.iload 5, 2) := by decide +kernel
theorem dX9_oathsOf_53 : decode cX9_oathsOf 53 = .ok (.iconst 4, 1) := by decide +kernel
theorem dX9_oathsOf_54 : decode cX9_oathsOf 54 = .ok (.if_icmp .ne 31, 3) := by decide +kernel
theorem dX9_oathsOf_57 : decode cX9_oathsOf 57 = .ok (.aload_n 0, 1) := by decide +kernel
theorem dX9_oathsOf_58 : decode cX9_oathsOf 58 = .ok (.iload_n 2, 1) := by decide +kernel
theorem dX9_oathsOf_59 : decode cX9_oathsOf 59 = .ok (.iload 4, 2) := by decide +kernel
theorem dX9_oathsOf_61 : decode cX9_oathsOf 61 = .ok (.aload_n 0, 1) := by decide +kernel
theorem dX9_oathsOf_62 : decode cX9_oathsOf 62 = .ok (.getfield 50, 3) := by decide +kernel
theorem dX9_oathsOf_65 : decode cX9_oathsOf 65 = .ok (.aload_n 0, 1) := by decide +kernel
theorem dX9_oathsOf_66 : decode cX9_oathsOf 66 = .ok (.iload_n 2, 1) := by decide +kernel
theorem dX9_oathsOf_67 : decode cX9_oathsOf 67 = .ok (.iload 4, 2) := by decide +kernel
theorem dX9_oathsOf_69 : decode cX9_oathsOf 69 = .ok (.iload 5, 2) := by decide +kernel
theorem dX9_oathsOf_71 : decode cX9_oathsOf 71 = .ok (.invokevirtual 266, 3) := by decide +kernel
theorem dX9_oathsOf_74 : decode cX9_oathsOf 74 = .ok (.iaload, 1) := by decide +kernel
theorem dX9_oathsOf_75 : decode cX9_oathsOf 75 = .ok (.invokevirtual 254, 3) := by decide +kernel
theorem dX9_oathsOf_78 : decode cX9_oathsOf 78 = .ok (.ifCond .ne 7, 3) := by decide +kernel
theorem dX9_oathsOf_81 : decode cX9_oathsOf 81 = .ok (.iconst 1, 1) := by decide +kernel
theorem dX9_oathsOf_82 : decode cX9_oathsOf 82 = .ok (.goto 4, 3) := by decide +kernel
theorem dX9_oathsOf_85 : decode cX9_oathsOf 85 = .ok (.iconst 0, 1) := by decide +kernel
theorem dX9_oathsOf_86 : decode cX9_oathsOf 86 = .ok (.iadd, 1) := by decide +kernel
theorem dX9_oathsOf_87 : decode cX9_oathsOf 87 = .ok (.istore_n 3, 1) := by decide +kernel
theorem dX9_oathsOf_88 : decode cX9_oathsOf 88 = .ok (.iinc 4 1, 3) := by decide +kernel
theorem dX9_oathsOf_91 : decode cX9_oathsOf 91 = .ok (.goto (-79), 3) := by decide +kernel
theorem dX9_oathsOf_94 : decode cX9_oathsOf 94 = .ok (.iload_n 3, 1) := by decide +kernel
theorem dX9_oathsOf_95 : decode cX9_oathsOf 95 = .ok (.ireturn, 1) := by decide +kernel
theorem dX9_rowsOf_0 : decode cX9_rowsOf 0 = .ok (.iconst 1, 1) := by decide +kernel
theorem dX9_rowsOf_1 : decode cX9_rowsOf 1 = .ok (.istore_n 2, 1) := by decide +kernel
theorem dX9_rowsOf_2 : decode cX9_rowsOf 2 = .ok (.aload_n 0, 1) := by decide +kernel
theorem dX9_rowsOf_3 : decode cX9_rowsOf 3 = .ok (.iload_n 1, 1) := by decide +kernel
theorem dX9_rowsOf_4 : decode cX9_rowsOf 4 = .ok (.invokevirtual 159, 3) := by decide +kernel
theorem dX9_rowsOf_7 : decode cX9_rowsOf 7 = .ok (.istore_n 3, 1) := by decide +kernel
theorem dX9_rowsOf_8 : decode cX9_rowsOf 8 = .ok (.iload_n 3, 1) := by decide +kernel
theorem dX9_rowsOf_9 : decode cX9_rowsOf 9 = .ok (.ifCond .le 13, 3) := by decide +kernel
theorem dX9_rowsOf_12 : decode cX9_rowsOf 12 = .ok (.iload_n 2, 1) := by decide +kernel
theorem dX9_rowsOf_13 : decode cX9_rowsOf 13 = .ok (.iconst 5, 1) := by decide +kernel
theorem dX9_rowsOf_14 : decode cX9_rowsOf 14 = .ok (.imul, 1) := by decide +kernel
theorem dX9_rowsOf_15 : decode cX9_rowsOf 15 = .ok (.istore_n 2, 1) := by decide +kernel
theorem dX9_rowsOf_16 : decode cX9_rowsOf 16 = .ok (.iinc 3 (-1), 3) := by decide +kernel
theorem dX9_rowsOf_19 : decode cX9_rowsOf 19 = .ok (.goto (-11), 3) := by decide +kernel
theorem dX9_rowsOf_22 : decode cX9_rowsOf 22 = .ok (.iload_n 2, 1) := by decide +kernel
theorem dX9_rowsOf_23 : decode cX9_rowsOf 23 = .ok (.ireturn, 1) := by decide +kernel
theorem dX9_findBest_0 : decode cX9_findBest 0 = .ok (.aload_n 0, 1) := by decide +kernel
theorem dX9_findBest_1 : decode cX9_findBest 1 = .ok (.invokevirtual 298, 3) := by decide +kernel
theorem dX9_findBest_4 : decode cX9_findBest 4 = .ok (.aload_n 0, 1) := by decide +kernel
theorem dX9_findBest_5 : decode cX9_findBest 5 = .ok (.iconst (-1), 1) := by decide +kernel
theorem dX9_findBest_6 : decode cX9_findBest 6 = .ok (.putfield 106, 3) := by decide +kernel
theorem dX9_findBest_9 : decode cX9_findBest 9 = .ok (.iconst 0, 1) := by decide +kernel
theorem dX9_findBest_10 : decode cX9_findBest 10 = .ok (.istore_n 2, 1) := by decide +kernel
theorem dX9_findBest_11 : decode cX9_findBest 11 = .ok (.iload_n 2, 1) := by decide +kernel
theorem dX9_findBest_12 : decode cX9_findBest 12 = .ok (.aload_n 0, 1) := by decide +kernel
theorem dX9_findBest_13 : decode cX9_findBest 13 = .ok (.iload_n 1, 1) := by decide +kernel
theorem dX9_findBest_14 : decode cX9_findBest 14 = .ok (.invokevirtual 301, 3) := by decide +kernel
theorem dX9_findBest_17 : decode cX9_findBest 17 = .ok (.if_icmp .ge 97, 3) := by decide +kernel
theorem dX9_findBest_20 : decode cX9_findBest 20 = .ok (.aload_n 0, 1) := by decide +kernel
theorem dX9_findBest_21 : decode cX9_findBest 21 = .ok (.iload_n 1, 1) := by decide +kernel
theorem dX9_findBest_22 : decode cX9_findBest 22 = .ok (.iload_n 2, 1) := by decide +kernel
theorem dX9_findBest_23 : decode cX9_findBest 23 = .ok (.invokevirtual 304, 3) := by decide +kernel
theorem dX9_findBest_26 : decode cX9_findBest 26 = .ok (.aload_n 0, 1) := by decide +kernel
theorem dX9_findBest_27 : decode cX9_findBest 27 = .ok (.aload_n 0, 1) := by decide +kernel
theorem dX9_findBest_28 : decode cX9_findBest 28 = .ok (.getfield 26, 3) := by decide +kernel
theorem dX9_findBest_31 : decode cX9_findBest 31 = .ok (.iload_n 1, 1) := by decide +kernel
theorem dX9_findBest_32 : decode cX9_findBest 32 = .ok (.iaload, 1) := by decide +kernel
theorem dX9_findBest_33 : decode cX9_findBest 33 = .ok (.iload_n 1, 1) := by decide +kernel
theorem dX9_findBest_34 : decode cX9_findBest 34 = .ok (.invokevirtual 287, 3) := by decide +kernel
theorem dX9_findBest_37 : decode cX9_findBest 37 = .ok (.lstore_n 3, 1) := by decide +kernel
theorem dX9_findBest_38 : decode cX9_findBest 38 = .ok (.aload_n 0, 1) := by decide +kernel
theorem dX9_findBest_39 : decode cX9_findBest 39 = .ok (.getfield 106, 3) := by decide +kernel
theorem dX9_findBest_42 : decode cX9_findBest 42 = .ok (.ifCond .lt 15, 3) := by decide +kernel
theorem dX9_findBest_45 : decode cX9_findBest 45 = .ok (.lload_n 3, 1) := by decide +kernel
theorem dX9_findBest_46 : decode cX9_findBest 46 = .ok (.aload_n 0, 1) := by decide +kernel
theorem dX9_findBest_47 : decode cX9_findBest 47 = .ok (.getfield 112, 3) := by decide +kernel
theorem dX9_findBest_50 : decode cX9_findBest 50 = .ok (.lcmp, 1) := by decide +kernel
theorem dX9_findBest_51 : decode cX9_findBest 51 = .ok (.ifCond .le 6, 3) := by decide +kernel
theorem dX9_findBest_54 : decode cX9_findBest 54 = .ok (.goto 54, 3) := by decide +kernel
theorem dX9_findBest_57 : decode cX9_findBest 57 = .ok (.aload_n 0, 1) := by decide +kernel
theorem dX9_findBest_58 : decode cX9_findBest 58 = .ok (.iload_n 1, 1) := by decide +kernel
theorem dX9_findBest_59 : decode cX9_findBest 59 = .ok (.invokevirtual 307, 3) := by decide +kernel
theorem dX9_findBest_62 : decode cX9_findBest 62 = .ok (.istore 5, 2) := by decide +kernel
theorem dX9_findBest_64 : decode cX9_findBest 64 = .ok (.aload_n 0, 1) := by decide +kernel
theorem dX9_findBest_65 : decode cX9_findBest 65 = .ok (.getfield 106, 3) := by decide +kernel
theorem dX9_findBest_68 : decode cX9_findBest 68 = .ok (.ifCond .lt 24, 3) := by decide +kernel
theorem dX9_findBest_71 : decode cX9_findBest 71 = .ok (.lload_n 3, 1) := by decide +kernel
theorem dX9_findBest_72 : decode cX9_findBest 72 = .ok (.aload_n 0, 1) := by decide +kernel
theorem dX9_findBest_73 : decode cX9_findBest 73 = .ok (.getfield 112, 3) := by decide +kernel
theorem dX9_findBest_76 : decode cX9_findBest 76 = .ok (.lcmp, 1) := by decide +kernel
theorem dX9_findBest_77 : decode cX9_findBest 77 = .ok (.ifCond .ne 15, 3) := by decide +kernel
theorem dX9_findBest_80 : decode cX9_findBest 80 = .ok (.iload 5, 2) := by decide +kernel
theorem dX9_findBest_82 : decode cX9_findBest 82 = .ok (.aload_n 0, 1) := by decide +kernel
theorem dX9_findBest_83 : decode cX9_findBest 83 = .ok (.getfield 109, 3) := by decide +kernel
theorem dX9_findBest_86 : decode cX9_findBest 86 = .ok (.if_icmp .lt 6, 3) := by decide +kernel
theorem dX9_findBest_89 : decode cX9_findBest 89 = .ok (.goto 19, 3) := by decide +kernel
theorem dX9_findBest_92 : decode cX9_findBest 92 = .ok (.aload_n 0, 1) := by decide +kernel
theorem dX9_findBest_93 : decode cX9_findBest 93 = .ok (.iload_n 2, 1) := by decide +kernel
theorem dX9_findBest_94 : decode cX9_findBest 94 = .ok (.putfield 106, 3) := by decide +kernel
theorem dX9_findBest_97 : decode cX9_findBest 97 = .ok (.aload_n 0, 1) := by decide +kernel
theorem dX9_findBest_98 : decode cX9_findBest 98 = .ok (.lload_n 3, 1) := by decide +kernel
theorem dX9_findBest_99 : decode cX9_findBest 99 = .ok (.putfield 112, 3) := by decide +kernel
theorem dX9_findBest_102 : decode cX9_findBest 102 = .ok (.aload_n 0, 1) := by decide +kernel
theorem dX9_findBest_103 : decode cX9_findBest 103 = .ok (.iload 5, 2) := by decide +kernel
theorem dX9_findBest_105 : decode cX9_findBest 105 = .ok (.putfield 109, 3) := by decide +kernel
theorem dX9_findBest_108 : decode cX9_findBest 108 = .ok (.iinc 2 1, 3) := by decide +kernel
theorem dX9_findBest_111 : decode cX9_findBest 111 = .ok (.goto (-100), 3) := by decide +kernel
theorem dX9_findBest_114 : decode cX9_findBest 114 = .ok (.aload_n 0, 1) := by decide +kernel
theorem dX9_findBest_115 : decode cX9_findBest 115 = .ok (.invokevirtual 310, 3) := by decide +kernel
theorem dX9_findBest_118 : decode cX9_findBest 118 = .ok (.return_, 1) := by decide +kernel
theorem dX9_best_0 : decode cX9_best 0 = .ok (.aload_n 0, 1) := by decide +kernel
theorem dX9_best_1 : decode cX9_best 1 = .ok (.iload_n 1, 1) := by decide +kernel
theorem dX9_best_2 : decode cX9_best 2 = .ok (.invokevirtual 156, 3) := by decide +kernel
theorem dX9_best_5 : decode cX9_best 5 = .ok (.ifCond .ne 5, 3) := by decide +kernel
theorem dX9_best_8 : decode cX9_best 8 = .ok (.iconst (-1), 1) := by decide +kernel
theorem dX9_best_9 : decode cX9_best 9 = .ok (.ireturn, 1) := by decide +kernel
theorem dX9_best_10 : decode cX9_best 10 = .ok (.aload_n 0, 1) := by decide +kernel
theorem dX9_best_11 : decode cX9_best 11 = .ok (.iload_n 1, 1) := by decide +kernel
theorem dX9_best_12 : decode cX9_best 12 = .ok (.invokevirtual 159, 3) := by decide +kernel
theorem dX9_best_15 : decode cX9_best 15 = .ok (.iconst 4, 1) := by decide +kernel
theorem dX9_best_16 : decode cX9_best 16 = .ok (.if_icmp .le 6, 3) := by decide +kernel
theorem dX9_best_19 : decode cX9_best 19 = .ok (.bipush (-9), 2) := by decide +kernel
theorem dX9_best_21 : decode cX9_best 21 = .ok (.ireturn, 1) := by decide +kernel
theorem dX9_best_22 : decode cX9_best 22 = .ok (.aload_n 0, 1) := by decide +kernel
theorem dX9_best_23 : decode cX9_best 23 = .ok (.iload_n 2, 1) := by decide +kernel
theorem dX9_best_24 : decode cX9_best 24 = .ok (.iconst (-1), 1) := by decide +kernel
theorem dX9_best_25 : decode cX9_best 25 = .ok (.aload_n 0, 1) := by decide +kernel
theorem dX9_best_26 : decode cX9_best 26 = .ok (.iload_n 1, 1) := by decide +kernel
theorem dX9_best_27 : decode cX9_best 27 = .ok (.invokevirtual 159, 3) := by decide +kernel
theorem dX9_best_30 : decode cX9_best 30 = .ok (.iconst 1, 1) := by decide +kernel
theorem dX9_best_31 : decode cX9_best 31 = .ok (.isub, 1) := by decide +kernel
theorem dX9_best_32 : decode cX9_best 32 = .ok (.invokevirtual 144, 3) := by decide +kernel
theorem dX9_best_35 : decode cX9_best 35 = .ok (.ifCond .ne 5, 3) := by decide +kernel
theorem dX9_best_38 : decode cX9_best 38 = .ok (.iconst (-1), 1) := by decide +kernel
theorem dX9_best_39 : decode cX9_best 39 = .ok (.ireturn, 1) := by decide +kernel
theorem dX9_best_40 : decode cX9_best 40 = .ok (.aload_n 0, 1) := by decide +kernel
theorem dX9_best_41 : decode cX9_best 41 = .ok (.iload_n 1, 1) := by decide +kernel
theorem dX9_best_42 : decode cX9_best 42 = .ok (.invokevirtual 313, 3) := by decide +kernel
theorem dX9_best_45 : decode cX9_best 45 = .ok (.iload_n 2, 1) := by decide +kernel
theorem dX9_best_46 : decode cX9_best 46 = .ok (.iconst (-1), 1) := by decide +kernel
theorem dX9_best_47 : decode cX9_best 47 = .ok (.if_icmp .ne 8, 3) := by decide +kernel
theorem dX9_best_50 : decode cX9_best 50 = .ok (.aload_n 0, 1) := by decide +kernel
theorem dX9_best_51 : decode cX9_best 51 = .ok (.getfield 109, 3) := by decide +kernel
theorem dX9_best_54 : decode cX9_best 54 = .ok (.ireturn, 1) := by decide +kernel
theorem dX9_best_55 : decode cX9_best 55 = .ok (.aload_n 0, 1) := by decide +kernel
theorem dX9_best_56 : decode cX9_best 56 = .ok (.getfield 106, 3) := by decide +kernel
theorem dX9_best_59 : decode cX9_best 59 = .ok (.istore_n 3, 1) := by decide +kernel
theorem dX9_best_60 : decode cX9_best 60 = .ok (.aload_n 0, 1) := by decide +kernel
theorem dX9_best_61 : decode cX9_best 61 = .ok (.iload_n 1, 1) := by decide +kernel
theorem dX9_best_62 : decode cX9_best 62 = .ok (.invokevirtual 159, 3) := by decide +kernel
theorem dX9_best_65 : decode cX9_best 65 = .ok (.iconst 1, 1) := by decide +kernel
theorem dX9_best_66 : decode cX9_best 66 = .ok (.isub, 1) := by decide +kernel
theorem dX9_best_67 : decode cX9_best 67 = .ok (.istore 4, 2) := by decide +kernel
theorem dX9_best_69 : decode cX9_best 69 = .ok (.iload 4, 2) := by decide +kernel
theorem dX9_best_71 : decode cX9_best 71 = .ok (.iload_n 2, 1) := by decide +kernel
theorem dX9_best_72 : decode cX9_best 72 = .ok (.if_icmp .le 13, 3) := by decide +kernel
theorem dX9_best_75 : decode cX9_best 75 = .ok (.iload_n 3, 1) := by decide +kernel
theorem dX9_best_76 : decode cX9_best 76 = .ok (.iconst 5, 1) := by decide +kernel
theorem dX9_best_77 : decode cX9_best 77 = .ok (.idiv, 1) := by decide +kernel
theorem dX9_best_78 : decode cX9_best 78 = .ok (.istore_n 3, 1) := by decide +kernel
theorem dX9_best_79 : decode cX9_best 79 = .ok (.iinc 4 (-1), 3) := by decide +kernel
theorem dX9_best_82 : decode cX9_best 82 = .ok (.goto (-13), 3) := by decide +kernel
theorem dX9_best_85 : decode cX9_best 85 = .ok (.iload_n 3, 1) := by decide +kernel
theorem dX9_best_86 : decode cX9_best 86 = .ok (.iconst 5, 1) := by decide +kernel
theorem dX9_best_87 : decode cX9_best 87 = .ok (.irem, 1) := by decide +kernel
theorem dX9_best_88 : decode cX9_best 88 = .ok (.ireturn, 1) := by decide +kernel
theorem dX9_slips_0 : decode cX9_slips 0 = .ok (.aload_n 0, 1) := by decide +kernel
theorem dX9_slips_1 : decode cX9_slips 1 = .ok (.iload_n 1, 1) := by decide +kernel
theorem dX9_slips_2 : decode cX9_slips 2 = .ok (.invokevirtual 156, 3) := by decide +kernel
theorem dX9_slips_5 : decode cX9_slips 5 = .ok (.ifCond .ne 5, 3) := by decide +kernel
theorem dX9_slips_8 : decode cX9_slips 8 = .ok (.iconst (-1), 1) := by decide +kernel
theorem dX9_slips_9 : decode cX9_slips 9 = .ok (.ireturn, 1) := by decide +kernel
theorem dX9_slips_10 : decode cX9_slips 10 = .ok (.aload_n 0, 1) := by decide +kernel
theorem dX9_slips_11 : decode cX9_slips 11 = .ok (.iload_n 1, 1) := by decide +kernel
theorem dX9_slips_12 : decode cX9_slips 12 = .ok (.invokevirtual 159, 3) := by decide +kernel
theorem dX9_slips_15 : decode cX9_slips 15 = .ok (.iconst 4, 1) := by decide +kernel
theorem dX9_slips_16 : decode cX9_slips 16 = .ok (.if_icmp .le 6, 3) := by decide +kernel
theorem dX9_slips_19 : decode cX9_slips 19 = .ok (.bipush (-9), 2) := by decide +kernel
theorem dX9_slips_21 : decode cX9_slips 21 = .ok (.ireturn, 1) := by decide +kernel
theorem dX9_slips_22 : decode cX9_slips 22 = .ok (.aload_n 0, 1) := by decide +kernel
theorem dX9_slips_23 : decode cX9_slips 23 = .ok (.iload_n 1, 1) := by decide +kernel
theorem dX9_slips_24 : decode cX9_slips 24 = .ok (.invokevirtual 313, 3) := by decide +kernel
theorem dX9_slips_27 : decode cX9_slips 27 = .ok (.iconst 0, 1) := by decide +kernel
theorem dX9_slips_28 : decode cX9_slips 28 = .ok (.istore_n 2, 1) := by decide +kernel
theorem dX9_slips_29 : decode cX9_slips 29 = .ok (.iconst 0, 1) := by decide +kernel
theorem dX9_slips_30 : decode cX9_slips 30 = .ok (.istore_n 3, 1) := by decide +kernel
theorem dX9_slips_31 : decode cX9_slips 31 = .ok (.iload_n 3, 1) := by decide +kernel
theorem dX9_slips_32 : decode cX9_slips 32 = .ok (.aload_n 0, 1) := by decide +kernel
theorem dX9_slips_33 : decode cX9_slips 33 = .ok (.iload_n 1, 1) := by decide +kernel
theorem dX9_slips_34 : decode cX9_slips 34 = .ok (.invokevirtual 301, 3) := by decide +kernel
theorem dX9_slips_37 : decode cX9_slips 37 = .ok (.if_icmp .ge 106, 3) := by decide +kernel
theorem dX9_slips_40 : decode cX9_slips 40 = .ok (.aload_n 0, 1) := by decide +kernel
theorem dX9_slips_41 : decode cX9_slips 41 = .ok (.iload_n 1, 1) := by decide +kernel
theorem dX9_slips_42 : decode cX9_slips 42 = .ok (.iload_n 3, 1) := by decide +kernel
theorem dX9_slips_43 : decode cX9_slips 43 = .ok (.invokevirtual 304, 3) := by decide +kernel
theorem dX9_slips_46 : decode cX9_slips 46 = .ok (.iconst 0, 1) := by decide +kernel
theorem dX9_slips_47 : decode cX9_slips 47 = .ok (.istore 4, 2) := by decide +kernel
theorem dX9_slips_49 : decode cX9_slips 49 = .ok (.iconst 0, 1) := by decide +kernel
theorem dX9_slips_50 : decode cX9_slips 50 = .ok (.istore 5, 2) := by decide +kernel
theorem dX9_slips_52 : decode cX9_slips 52 = .ok (.iload 5, 2) := by decide +kernel
theorem dX9_slips_54 : decode cX9_slips 54 = .ok (.aload_n 0, 1) := by decide +kernel
theorem dX9_slips_55 : decode cX9_slips 55 = .ok (.getfield 13, 3) := by decide +kernel
theorem dX9_slips_58 : decode cX9_slips 58 = .ok (.if_icmp .ge 47, 3) := by decide +kernel
theorem dX9_slips_61 : decode cX9_slips 61 = .ok (.iload 4, 2) := by decide +kernel
theorem dX9_slips_63 : decode cX9_slips 63 = .ok (.ifCond .ne 42, 3) := by decide +kernel
theorem dX9_slips_66 : decode cX9_slips 66 = .ok (.aload_n 0, 1) := by decide +kernel
theorem dX9_slips_67 : decode cX9_slips 67 = .ok (.iload 5, 2) := by decide +kernel
theorem dX9_slips_69 : decode cX9_slips 69 = .ok (.iconst 0, 1) := by decide +kernel
theorem dX9_slips_70 : decode cX9_slips 70 = .ok (.invokevirtual 148, 3) := by decide +kernel
theorem dX9_slips_73 : decode cX9_slips 73 = .ok (.iload_n 1, 1) := by decide +kernel
theorem dX9_slips_74 : decode cX9_slips 74 = .ok (.if_icmp .ne 22, 3) := by decide +kernel
theorem dX9_slips_77 : decode cX9_slips 77 = .ok (.aload_n 0, 1) := by decide +kernel
theorem dX9_slips_78 : decode cX9_slips 78 = .ok (.aload_n 0, 1) := by decide +kernel
theorem dX9_slips_79 : decode cX9_slips 79 = .ok (.getfield 26, 3) := by decide +kernel
theorem dX9_slips_82 : decode cX9_slips 82 = .ok (.iload_n 1, 1) := by decide +kernel
theorem dX9_slips_83 : decode cX9_slips 83 = .ok (.iaload, 1) := by decide +kernel
theorem dX9_slips_84 : decode cX9_slips 84 = .ok (.iload 5, 2) := by decide +kernel
theorem dX9_slips_86 : decode cX9_slips 86 = .ok (.invokevirtual 251, 3) := by decide +kernel
theorem dX9_slips_89 : decode cX9_slips 89 = .ok (.ifCond .lt 7, 3) := by decide +kernel
theorem dX9_slips_92 : decode cX9_slips 92 = .ok (.iconst 1, 1) := by decide +kernel
theorem dX9_slips_93 : decode cX9_slips 93 = .ok (.goto 4, 3) := by decide +kernel
theorem dX9_slips_96 : decode cX9_slips 96 = .ok (.iconst 0, 1) := by decide +kernel
theorem dX9_slips_97 : decode cX9_slips 97 = .ok (.istore 4, 2) := by decide +kernel
theorem dX9_slips_99 : decode cX9_slips 99 = .ok (.iinc 5 1, 3) := by decide +kernel
theorem dX9_slips_102 : decode cX9_slips 102 = .ok (.goto (-50), 3) := by decide +kernel
theorem dX9_slips_105 : decode cX9_slips 105 = .ok (.iload_n 2, 1) := by decide +kernel
theorem dX9_slips_106 : decode cX9_slips 106 = .ok (.iload 4, 2) := by decide +kernel
theorem dX9_slips_108 : decode cX9_slips 108 = .ok (.ifCond .ne 26, 3) := by decide +kernel
theorem dX9_slips_111 : decode cX9_slips 111 = .ok (.aload_n 0, 1) := by decide +kernel
theorem dX9_slips_112 : decode cX9_slips 112 = .ok (.aload_n 0, 1) := by decide +kernel
theorem dX9_slips_113 : decode cX9_slips 113 = .ok (.getfield 26, 3) := by decide +kernel
theorem dX9_slips_116 : decode cX9_slips 116 = .ok (.iload_n 1, 1) := by decide +kernel
theorem dX9_slips_117 : decode cX9_slips 117 = .ok (.iaload, 1) := by decide +kernel
theorem dX9_slips_118 : decode cX9_slips 118 = .ok (.iload_n 1, 1) := by decide +kernel
theorem dX9_slips_119 : decode cX9_slips 119 = .ok (.invokevirtual 287, 3) := by decide +kernel
theorem dX9_slips_122 : decode cX9_slips 122 = .ok (.aload_n 0, 1) := by decide +kernel
theorem dX9_slips_123 : decode cX9_slips 123 = .ok (.getfield 112, 3) := by decide +kernel
theorem dX9_slips_126 : decode cX9_slips 126 = .ok (.lcmp, 1) := by decide +kernel
theorem dX9_slips_127 : decode cX9_slips 127 = .ok (.ifCond .ne 7, 3) := by decide +kernel
theorem dX9_slips_130 : decode cX9_slips 130 = .ok (.iconst 1, 1) := by decide +kernel
theorem dX9_slips_131 : decode cX9_slips 131 = .ok (.goto 4, 3) := by decide +kernel
theorem dX9_slips_134 : decode cX9_slips 134 = .ok (.iconst 0, 1) := by decide +kernel
theorem dX9_slips_135 : decode cX9_slips 135 = .ok (.iadd, 1) := by decide +kernel
theorem dX9_slips_136 : decode cX9_slips 136 = .ok (.istore_n 2, 1) := by decide +kernel
theorem dX9_slips_137 : decode cX9_slips 137 = .ok (.iinc 3 1, 3) := by decide +kernel
theorem dX9_slips_140 : decode cX9_slips 140 = .ok (.goto (-109), 3) := by decide +kernel
theorem dX9_slips_143 : decode cX9_slips 143 = .ok (.aload_n 0, 1) := by decide +kernel
theorem dX9_slips_144 : decode cX9_slips 144 = .ok (.invokevirtual 310, 3) := by decide +kernel
theorem dX9_slips_147 : decode cX9_slips 147 = .ok (.iload_n 2, 1) := by decide +kernel
theorem dX9_slips_148 : decode cX9_slips 148 = .ok (.ireturn, 1) := by decide +kernel
theorem dX9_sums_0 : decode cX9_sums 0 = .ok (.aload_n 0, 1) := by decide +kernel
theorem dX9_sums_1 : decode cX9_sums 1 = .ok (.getfield 29, 3) := by decide +kernel
theorem dX9_sums_4 : decode cX9_sums 4 = .ok (.bipush 10, 2) := by decide +kernel
theorem dX9_sums_6 : decode cX9_sums 6 = .ok (.iload_n 1, 1) := by decide +kernel
theorem dX9_sums_7 : decode cX9_sums 7 = .ok (.imul, 1) := by decide +kernel
theorem dX9_sums_8 : decode cX9_sums 8 = .ok (.iconst 1, 1) := by decide +kernel
theorem dX9_sums_9 : decode cX9_sums 9 = .ok (.iadd, 1) := by decide +kernel
theorem dX9_sums_10 : decode cX9_sums 10 = .ok (.iload_n 2, 1) := by decide +kernel
theorem dX9_sums_11 : decode cX9_sums 11 = .ok (.iastore, 1) := by decide +kernel
theorem dX9_sums_12 : decode cX9_sums 12 = .ok (.aload_n 0, 1) := by decide +kernel
theorem dX9_sums_13 : decode cX9_sums 13 = .ok (.getfield 29, 3) := by decide +kernel
theorem dX9_sums_16 : decode cX9_sums 16 = .ok (.bipush 10, 2) := by decide +kernel
theorem dX9_sums_18 : decode cX9_sums 18 = .ok (.iload_n 1, 1) := by decide +kernel
theorem dX9_sums_19 : decode cX9_sums 19 = .ok (.imul, 1) := by decide +kernel
theorem dX9_sums_20 : decode cX9_sums 20 = .ok (.iconst 3, 1) := by decide +kernel
theorem dX9_sums_21 : decode cX9_sums 21 = .ok (.iadd, 1) := by decide +kernel
theorem dX9_sums_22 : decode cX9_sums 22 = .ok (.iload_n 3, 1) := by decide +kernel
theorem dX9_sums_23 : decode cX9_sums 23 = .ok (.iload_n 2, 1) := by decide +kernel
theorem dX9_sums_24 : decode cX9_sums 24 = .ok (.if_icmp .ge 7, 3) := by decide +kernel
theorem dX9_sums_27 : decode cX9_sums 27 = .ok (.iload_n 3, 1) := by decide +kernel
theorem dX9_sums_28 : decode cX9_sums 28 = .ok (.goto 4, 3) := by decide +kernel
theorem dX9_sums_31 : decode cX9_sums 31 = .ok (.iload_n 2, 1) := by decide +kernel
theorem dX9_sums_32 : decode cX9_sums 32 = .ok (.iastore, 1) := by decide +kernel
theorem dX9_sums_33 : decode cX9_sums 33 = .ok (.return_, 1) := by decide +kernel
theorem dX9_wise_0 : decode cX9_wise 0 = .ok (.aload_n 0, 1) := by decide +kernel
theorem dX9_wise_1 : decode cX9_wise 1 = .ok (.iload_n 1, 1) := by decide +kernel
theorem dX9_wise_2 : decode cX9_wise 2 = .ok (.invokevirtual 163, 3) := by decide +kernel
theorem dX9_wise_5 : decode cX9_wise 5 = .ok (.ifCond .ne 5, 3) := by decide +kernel
theorem dX9_wise_8 : decode cX9_wise 8 = .ok (.iconst (-1), 1) := by decide +kernel
theorem dX9_wise_9 : decode cX9_wise 9 = .ok (.ireturn, 1) := by decide +kernel
theorem dX9_wise_10 : decode cX9_wise 10 = .ok (.aload_n 0, 1) := by decide +kernel
theorem dX9_wise_11 : decode cX9_wise 11 = .ok (.iload_n 1, 1) := by decide +kernel
theorem dX9_wise_12 : decode cX9_wise 12 = .ok (.iconst 1, 1) := by decide +kernel
theorem dX9_wise_13 : decode cX9_wise 13 = .ok (.invokevirtual 148, 3) := by decide +kernel
theorem dX9_wise_16 : decode cX9_wise 16 = .ok (.istore_n 2, 1) := by decide +kernel
theorem dX9_wise_17 : decode cX9_wise 17 = .ok (.aload_n 0, 1) := by decide +kernel
theorem dX9_wise_18 : decode cX9_wise 18 = .ok (.iload_n 1, 1) := by decide +kernel
theorem dX9_wise_19 : decode cX9_wise 19 = .ok (.iconst 3, 1) := by decide +kernel
theorem dX9_wise_20 : decode cX9_wise 20 = .ok (.invokevirtual 148, 3) := by decide +kernel
theorem dX9_wise_23 : decode cX9_wise 23 = .ok (.istore_n 3, 1) := by decide +kernel
theorem dX9_wise_24 : decode cX9_wise 24 = .ok (.iconst 0, 1) := by decide +kernel
theorem dX9_wise_25 : decode cX9_wise 25 = .ok (.istore 4, 2) := by decide +kernel
theorem dX9_wise_27 : decode cX9_wise 27 = .ok (.lconst 0, 1) := by decide +kernel
theorem dX9_wise_28 : decode cX9_wise 28 = .ok (.lstore 5, 2) := by decide +kernel
theorem dX9_wise_30 : decode cX9_wise 30 = .ok (.iconst 1, 1) := by decide +kernel
theorem dX9_wise_31 : decode cX9_wise 31 = .ok (.istore 7, 2) := by decide +kernel
theorem dX9_wise_33 : decode cX9_wise 33 = .ok (.iload 7, 2) := by decide +kernel
theorem dX9_wise_35 : decode cX9_wise 35 = .ok (.bipush 100, 2) := by decide +kernel
theorem dX9_wise_37 : decode cX9_wise 37 = .ok (.if_icmp .ge 58, 3) := by decide +kernel
theorem dX9_wise_40 : decode cX9_wise 40 = .ok (.aload_n 0, 1) := by decide +kernel
theorem dX9_wise_41 : decode cX9_wise 41 = .ok (.iload_n 1, 1) := by decide +kernel
theorem dX9_wise_42 : decode cX9_wise 42 = .ok (.iload 7, 2) := by decide +kernel
theorem dX9_wise_44 : decode cX9_wise 44 = .ok (.iload_n 3, 1) := by decide +kernel
theorem dX9_wise_45 : decode cX9_wise 45 = .ok (.invokevirtual 316, 3) := by decide +kernel
theorem dX9_wise_48 : decode cX9_wise 48 = .ok (.aload_n 0, 1) := by decide +kernel
theorem dX9_wise_49 : decode cX9_wise 49 = .ok (.aload_n 0, 1) := by decide +kernel
theorem dX9_wise_50 : decode cX9_wise 50 = .ok (.iload_n 1, 1) := by decide +kernel
theorem dX9_wise_51 : decode cX9_wise 51 = .ok (.invokevirtual 260, 3) := by decide +kernel
theorem dX9_wise_54 : decode cX9_wise 54 = .ok (.aload_n 0, 1) := by decide +kernel
theorem dX9_wise_55 : decode cX9_wise 55 = .ok (.iload_n 1, 1) := by decide +kernel
theorem dX9_wise_56 : decode cX9_wise 56 = .ok (.iconst 0, 1) := by decide +kernel
theorem dX9_wise_57 : decode cX9_wise 57 = .ok (.invokevirtual 148, 3) := by decide +kernel
theorem dX9_wise_60 : decode cX9_wise 60 = .ok (.invokevirtual 287, 3) := by decide +kernel
theorem dX9_wise_63 : decode cX9_wise 63 = .ok (.lstore 8, 2) := by decide +kernel
theorem dX9_wise_65 : decode cX9_wise 65 = .ok (.iload 4, 2) := by decide +kernel
theorem dX9_wise_67 : decode cX9_wise 67 = .ok (.ifCond .le 14, 3) := by decide +kernel
theorem dX9_wise_70 : decode cX9_wise 70 = .ok (.lload 8, 2) := by decide +kernel
theorem dX9_wise_72 : decode cX9_wise 72 = .ok (.lload 5, 2) := by decide +kernel
theorem dX9_wise_74 : decode cX9_wise 74 = .ok (.lcmp, 1) := by decide +kernel
theorem dX9_wise_75 : decode cX9_wise 75 = .ok (.ifCond .gt 6, 3) := by decide +kernel
theorem dX9_wise_78 : decode cX9_wise 78 = .ok (.goto 11, 3) := by decide +kernel
theorem dX9_wise_81 : decode cX9_wise 81 = .ok (.iload 7, 2) := by decide +kernel
theorem dX9_wise_83 : decode cX9_wise 83 = .ok (.istore 4, 2) := by decide +kernel
theorem dX9_wise_85 : decode cX9_wise 85 = .ok (.lload 8, 2) := by decide +kernel
theorem dX9_wise_87 : decode cX9_wise 87 = .ok (.lstore 5, 2) := by decide +kernel
theorem dX9_wise_89 : decode cX9_wise 89 = .ok (.iinc 7 1, 3) := by decide +kernel
theorem dX9_wise_92 : decode cX9_wise 92 = .ok (.goto (-59), 3) := by decide +kernel
theorem dX9_wise_95 : decode cX9_wise 95 = .ok (.aload_n 0, 1) := by decide +kernel
theorem dX9_wise_96 : decode cX9_wise 96 = .ok (.iload_n 1, 1) := by decide +kernel
theorem dX9_wise_97 : decode cX9_wise 97 = .ok (.iload_n 2, 1) := by decide +kernel
theorem dX9_wise_98 : decode cX9_wise 98 = .ok (.iload_n 3, 1) := by decide +kernel
theorem dX9_wise_99 : decode cX9_wise 99 = .ok (.invokevirtual 316, 3) := by decide +kernel
theorem dX9_wise_102 : decode cX9_wise 102 = .ok (.iload 4, 2) := by decide +kernel
theorem dX9_wise_104 : decode cX9_wise 104 = .ok (.ireturn, 1) := by decide +kernel
theorem dX9_off_0 : decode cX9_off 0 = .ok (.aload_n 0, 1) := by decide +kernel
theorem dX9_off_1 : decode cX9_off 1 = .ok (.iload_n 1, 1) := by decide +kernel
theorem dX9_off_2 : decode cX9_off 2 = .ok (.invokevirtual 156, 3) := by decide +kernel
theorem dX9_off_5 : decode cX9_off 5 = .ok (.ifCond .eq 21, 3) := by decide +kernel
theorem dX9_off_8 : decode cX9_off 8 = .ok (.aload_n 0, 1) := by decide +kernel
theorem dX9_off_9 : decode cX9_off 9 = .ok (.iload_n 2, 1) := by decide +kernel
theorem dX9_off_10 : decode cX9_off 10 = .ok (.invokevirtual 156, 3) := by decide +kernel
theorem dX9_off_13 : decode cX9_off 13 = .ok (.ifCond .eq 13, 3) := by decide +kernel
theorem dX9_off_16 : decode cX9_off 16 = .ok (.aload_n 0, 1) := by decide +kernel
theorem dX9_off_17 : decode cX9_off 17 = .ok (.iload_n 3, 1) := by decide +kernel
theorem dX9_off_18 : decode cX9_off 18 = .ok (.iconst 0, 1) := by decide +kernel
theorem dX9_off_19 : decode cX9_off 19 = .ok (.iconst 1, 1) := by decide +kernel
theorem dX9_off_20 : decode cX9_off 20 = .ok (.invokevirtual 144, 3) := by decide +kernel
theorem dX9_off_23 : decode cX9_off 23 = .ok (.ifCond .ne 7, 3) := by decide +kernel
theorem dX9_off_26 : decode cX9_off 26 = .ok (.ldc2_w 277, 3) := by decide +kernel
theorem dX9_off_29 : decode cX9_off 29 = .ok (.lreturn, 1) := by decide +kernel
theorem dX9_off_30 : decode cX9_off 30 = .ok (.aload_n 0, 1) := by decide +kernel
theorem dX9_off_31 : decode cX9_off 31 = .ok (.getfield 20, 3) := by decide +kernel
theorem dX9_off_34 : decode cX9_off 34 = .ok (.iload_n 1, 1) := by decide +kernel
theorem dX9_off_35 : decode cX9_off 35 = .ok (.iaload, 1) := by decide +kernel
theorem dX9_off_36 : decode cX9_off 36 = .ok (.aload_n 0, 1) := by decide +kernel
theorem dX9_off_37 : decode cX9_off 37 = .ok (.getfield 23, 3) := by decide +kernel
theorem dX9_off_40 : decode cX9_off 40 = .ok (.iload_n 2, 1) := by decide +kernel
theorem dX9_off_41 : decode cX9_off 41 = .ok (.iaload, 1) := by decide +kernel
theorem dX9_off_42 : decode cX9_off 42 = .ok (.if_icmp .ne 18, 3) := by decide +kernel
theorem dX9_off_45 : decode cX9_off 45 = .ok (.aload_n 0, 1) := by decide +kernel
theorem dX9_off_46 : decode cX9_off 46 = .ok (.getfield 23, 3) := by decide +kernel
theorem dX9_off_49 : decode cX9_off 49 = .ok (.iload_n 1, 1) := by decide +kernel
theorem dX9_off_50 : decode cX9_off 50 = .ok (.iaload, 1) := by decide +kernel
theorem dX9_off_51 : decode cX9_off 51 = .ok (.aload_n 0, 1) := by decide +kernel
theorem dX9_off_52 : decode cX9_off 52 = .ok (.getfield 20, 3) := by decide +kernel
theorem dX9_off_55 : decode cX9_off 55 = .ok (.iload_n 2, 1) := by decide +kernel
theorem dX9_off_56 : decode cX9_off 56 = .ok (.iaload, 1) := by decide +kernel
theorem dX9_off_57 : decode cX9_off 57 = .ok (.if_icmp .eq 7, 3) := by decide +kernel
theorem dX9_off_60 : decode cX9_off 60 = .ok (.ldc2_w 320, 3) := by decide +kernel
theorem dX9_off_63 : decode cX9_off 63 = .ok (.lreturn, 1) := by decide +kernel
theorem dX9_off_64 : decode cX9_off 64 = .ok (.aload_n 0, 1) := by decide +kernel
theorem dX9_off_65 : decode cX9_off 65 = .ok (.aload_n 0, 1) := by decide +kernel
theorem dX9_off_66 : decode cX9_off 66 = .ok (.getfield 26, 3) := by decide +kernel
theorem dX9_off_69 : decode cX9_off 69 = .ok (.iload_n 1, 1) := by decide +kernel
theorem dX9_off_70 : decode cX9_off 70 = .ok (.iaload, 1) := by decide +kernel
theorem dX9_off_71 : decode cX9_off 71 = .ok (.invokevirtual 269, 3) := by decide +kernel
theorem dX9_off_74 : decode cX9_off 74 = .ok (.lstore 4, 2) := by decide +kernel
theorem dX9_off_76 : decode cX9_off 76 = .ok (.aload_n 0, 1) := by decide +kernel
theorem dX9_off_77 : decode cX9_off 77 = .ok (.aload_n 0, 1) := by decide +kernel
theorem dX9_off_78 : decode cX9_off 78 = .ok (.getfield 26, 3) := by decide +kernel
theorem dX9_off_81 : decode cX9_off 81 = .ok (.iload_n 2, 1) := by decide +kernel
theorem dX9_off_82 : decode cX9_off 82 = .ok (.iaload, 1) := by decide +kernel
theorem dX9_off_83 : decode cX9_off 83 = .ok (.invokevirtual 269, 3) := by decide +kernel
theorem dX9_off_86 : decode cX9_off 86 = .ok (.lstore 6, 2) := by decide +kernel
theorem dX9_off_88 : decode cX9_off 88 = .ok (.aload_n 0, 1) := by decide +kernel
theorem dX9_off_89 : decode cX9_off 89 = .ok (.aload_n 0, 1) := by decide +kernel
theorem dX9_off_90 : decode cX9_off 90 = .ok (.aload_n 0, 1) := by decide +kernel
theorem dX9_off_91 : decode cX9_off 91 = .ok (.getfield 26, 3) := by decide +kernel
theorem dX9_off_94 : decode cX9_off 94 = .ok (.iload_n 1, 1) := by decide +kernel
theorem dX9_off_95 : decode cX9_off 95 = .ok (.iaload, 1) := by decide +kernel
theorem dX9_off_96 : decode cX9_off 96 = .ok (.iload_n 1, 1) := by decide +kernel
theorem dX9_off_97 : decode cX9_off 97 = .ok (.invokevirtual 287, 3) := by decide +kernel
theorem dX9_off_100 : decode cX9_off 100 = .ok (.lload 6, 2) := by decide +kernel
theorem dX9_off_102 : decode cX9_off 102 = .ok (.lmul, 1) := by decide +kernel
theorem dX9_off_103 : decode cX9_off 103 = .ok (.aload_n 0, 1) := by decide +kernel
theorem dX9_off_104 : decode cX9_off 104 = .ok (.aload_n 0, 1) := by decide +kernel
theorem dX9_off_105 : decode cX9_off 105 = .ok (.getfield 26, 3) := by decide +kernel
theorem dX9_off_108 : decode cX9_off 108 = .ok (.iload_n 2, 1) := by decide +kernel
theorem dX9_off_109 : decode cX9_off 109 = .ok (.iaload, 1) := by decide +kernel
theorem dX9_off_110 : decode cX9_off 110 = .ok (.iload_n 2, 1) := by decide +kernel
theorem dX9_off_111 : decode cX9_off 111 = .ok (.invokevirtual 287, 3) := by decide +kernel
theorem dX9_off_114 : decode cX9_off 114 = .ok (.lload 4, 2) := by decide +kernel
theorem dX9_off_116 : decode cX9_off 116 = .ok (.lmul, 1) := by decide +kernel
theorem dX9_off_117 : decode cX9_off 117 = .ok (.lsub, 1) := by decide +kernel
theorem dX9_off_118 : decode cX9_off 118 = .ok (.lload 4, 2) := by decide +kernel
theorem dX9_off_120 : decode cX9_off 120 = .ok (.lload 6, 2) := by decide +kernel
theorem dX9_off_122 : decode cX9_off 122 = .ok (.lmul, 1) := by decide +kernel
theorem dX9_off_123 : decode cX9_off 123 = .ok (.iload_n 3, 1) := by decide +kernel
theorem dX9_off_124 : decode cX9_off 124 = .ok (.invokevirtual 283, 3) := by decide +kernel
theorem dX9_off_127 : decode cX9_off 127 = .ok (.lreturn, 1) := by decide +kernel
theorem dX9_beside_0 : decode cX9_beside 0 = .ok (.aload_n 0, 1) := by decide +kernel
theorem dX9_beside_1 : decode cX9_beside 1 = .ok (.iload_n 1, 1) := by decide +kernel
theorem dX9_beside_2 : decode cX9_beside 2 = .ok (.invokevirtual 163, 3) := by decide +kernel
theorem dX9_beside_5 : decode cX9_beside 5 = .ok (.ifCond .eq 38, 3) := by decide +kernel
theorem dX9_beside_8 : decode cX9_beside 8 = .ok (.aload_n 0, 1) := by decide +kernel
theorem dX9_beside_9 : decode cX9_beside 9 = .ok (.iload_n 2, 1) := by decide +kernel
theorem dX9_beside_10 : decode cX9_beside 10 = .ok (.invokevirtual 152, 3) := by decide +kernel
theorem dX9_beside_13 : decode cX9_beside 13 = .ok (.ifCond .eq 30, 3) := by decide +kernel
theorem dX9_beside_16 : decode cX9_beside 16 = .ok (.aload_n 0, 1) := by decide +kernel
theorem dX9_beside_17 : decode cX9_beside 17 = .ok (.iload_n 3, 1) := by decide +kernel
theorem dX9_beside_18 : decode cX9_beside 18 = .ok (.invokevirtual 152, 3) := by decide +kernel
theorem dX9_beside_21 : decode cX9_beside 21 = .ok (.ifCond .eq 22, 3) := by decide +kernel
theorem dX9_beside_24 : decode cX9_beside 24 = .ok (.bipush 10, 2) := by decide +kernel
theorem dX9_beside_26 : decode cX9_beside 26 = .ok (.aload_n 0, 1) := by decide +kernel
theorem dX9_beside_27 : decode cX9_beside 27 = .ok (.iload_n 2, 1) := by decide +kernel
theorem dX9_beside_28 : decode cX9_beside 28 = .ok (.iload_n 1, 1) := by decide +kernel
theorem dX9_beside_29 : decode cX9_beside 29 = .ok (.invokevirtual 263, 3) := by decide +kernel
theorem dX9_beside_32 : decode cX9_beside 32 = .ok (.imul, 1) := by decide +kernel
theorem dX9_beside_33 : decode cX9_beside 33 = .ok (.aload_n 0, 1) := by decide +kernel
theorem dX9_beside_34 : decode cX9_beside 34 = .ok (.iload_n 3, 1) := by decide +kernel
theorem dX9_beside_35 : decode cX9_beside 35 = .ok (.iload_n 1, 1) := by decide +kernel
theorem dX9_beside_36 : decode cX9_beside 36 = .ok (.invokevirtual 263, 3) := by decide +kernel
theorem dX9_beside_39 : decode cX9_beside 39 = .ok (.iadd, 1) := by decide +kernel
theorem dX9_beside_40 : decode cX9_beside 40 = .ok (.goto 4, 3) := by decide +kernel
theorem dX9_beside_43 : decode cX9_beside 43 = .ok (.iconst (-1), 1) := by decide +kernel
theorem dX9_beside_44 : decode cX9_beside 44 = .ok (.ireturn, 1) := by decide +kernel
theorem dX9_ways_0 : decode cX9_ways 0 = .ok (.aload_n 0, 1) := by decide +kernel
theorem dX9_ways_1 : decode cX9_ways 1 = .ok (.iload_n 1, 1) := by decide +kernel
theorem dX9_ways_2 : decode cX9_ways 2 = .ok (.invokevirtual 163, 3) := by decide +kernel
theorem dX9_ways_5 : decode cX9_ways 5 = .ok (.ifCond .eq 19, 3) := by decide +kernel
theorem dX9_ways_8 : decode cX9_ways 8 = .ok (.aload_n 0, 1) := by decide +kernel
theorem dX9_ways_9 : decode cX9_ways 9 = .ok (.iload_n 2, 1) := by decide +kernel
theorem dX9_ways_10 : decode cX9_ways 10 = .ok (.invokevirtual 152, 3) := by decide +kernel
theorem dX9_ways_13 : decode cX9_ways 13 = .ok (.ifCond .eq 11, 3) := by decide +kernel
theorem dX9_ways_16 : decode cX9_ways 16 = .ok (.aload_n 0, 1) := by decide +kernel
theorem dX9_ways_17 : decode cX9_ways 17 = .ok (.iload_n 3, 1) := by decide +kernel
theorem dX9_ways_18 : decode cX9_ways 18 = .ok (.invokevirtual 152, 3) := by decide +kernel
theorem dX9_ways_21 : decode cX9_ways 21 = .ok (.ifCond .ne 5, 3) := by decide +kernel
theorem dX9_ways_24 : decode cX9_ways 24 = .ok (.iconst (-1), 1) := by decide +kernel
theorem dX9_ways_25 : decode cX9_ways 25 = .ok (.ireturn, 1) := by decide +kernel
theorem dX9_ways_26 : decode cX9_ways 26 = .ok (.aload_n 0, 1) := by decide +kernel
theorem dX9_ways_27 : decode cX9_ways 27 = .ok (.iload_n 1, 1) := by decide +kernel
theorem dX9_ways_28 : decode cX9_ways 28 = .ok (.iconst 1, 1) := by decide +kernel
theorem dX9_ways_29 : decode cX9_ways 29 = .ok (.invokevirtual 148, 3) := by decide +kernel
theorem dX9_ways_32 : decode cX9_ways 32 = .ok (.istore 4, 2) := by decide +kernel
theorem dX9_ways_34 : decode cX9_ways 34 = .ok (.aload_n 0, 1) := by decide +kernel
theorem dX9_ways_35 : decode cX9_ways 35 = .ok (.iload_n 1, 1) := by decide +kernel
theorem dX9_ways_36 : decode cX9_ways 36 = .ok (.iconst 3, 1) := by decide +kernel
theorem dX9_ways_37 : decode cX9_ways 37 = .ok (.invokevirtual 148, 3) := by decide +kernel
theorem dX9_ways_40 : decode cX9_ways 40 = .ok (.istore 5, 2) := by decide +kernel
theorem dX9_ways_42 : decode cX9_ways 42 = .ok (.bipush (-5), 2) := by decide +kernel
theorem dX9_ways_44 : decode cX9_ways 44 = .ok (.istore 6, 2) := by decide +kernel
theorem dX9_ways_46 : decode cX9_ways 46 = .ok (.iconst 1, 1) := by decide +kernel
theorem dX9_ways_47 : decode cX9_ways 47 = .ok (.istore 7, 2) := by decide +kernel
theorem dX9_ways_49 : decode cX9_ways 49 = .ok (.iload 7, 2) := by decide +kernel
theorem dX9_ways_51 : decode cX9_ways 51 = .ok (.bipush 100, 2) := by decide +kernel
theorem dX9_ways_53 : decode cX9_ways 53 = .ok (.if_icmp .ge 42, 3) := by decide +kernel
theorem dX9_ways_56 : decode cX9_ways 56 = .ok (.iload 6, 2) := by decide +kernel
theorem dX9_ways_58 : decode cX9_ways 58 = .ok (.ifCond .ge 37, 3) := by decide +kernel
theorem dX9_ways_61 : decode cX9_ways 61 = .ok (.aload_n 0, 1) := by decide +kernel
theorem dX9_ways_62 : decode cX9_ways 62 = .ok (.iload_n 1, 1) := by decide +kernel
theorem dX9_ways_63 : decode cX9_ways 63 = .ok (.iload 7, 2) := by decide +kernel
theorem dX9_ways_65 : decode cX9_ways 65 = .ok (.iload 5, 2) := by decide +kernel
theorem dX9_ways_67 : decode cX9_ways 67 = .ok (.invokevirtual 316, 3) := by decide +kernel
theorem dX9_ways_70 : decode cX9_ways 70 = .ok (.aload_n 0, 1) := by decide +kernel
theorem dX9_ways_71 : decode cX9_ways 71 = .ok (.iload_n 2, 1) := by decide +kernel
theorem dX9_ways_72 : decode cX9_ways 72 = .ok (.iload_n 1, 1) := by decide +kernel
theorem dX9_ways_73 : decode cX9_ways 73 = .ok (.invokevirtual 263, 3) := by decide +kernel
theorem dX9_ways_76 : decode cX9_ways 76 = .ok (.aload_n 0, 1) := by decide +kernel
theorem dX9_ways_77 : decode cX9_ways 77 = .ok (.iload_n 3, 1) := by decide +kernel
theorem dX9_ways_78 : decode cX9_ways 78 = .ok (.iload_n 1, 1) := by decide +kernel
theorem dX9_ways_79 : decode cX9_ways 79 = .ok (.invokevirtual 263, 3) := by decide +kernel
theorem dX9_ways_82 : decode cX9_ways 82 = .ok (.if_icmp .eq 7, 3) := by decide +kernel
theorem dX9_ways_85 : decode cX9_ways 85 = .ok (.iload 7, 2) := by decide +kernel
theorem dX9_ways_87 : decode cX9_ways 87 = .ok (.istore 6, 2) := by decide +kernel
theorem dX9_ways_89 : decode cX9_ways 89 = .ok (.iinc 7 1, 3) := by decide +kernel
theorem dX9_ways_92 : decode cX9_ways 92 = .ok (.goto (-43), 3) := by decide +kernel
theorem dX9_ways_95 : decode cX9_ways 95 = .ok (.aload_n 0, 1) := by decide +kernel
theorem dX9_ways_96 : decode cX9_ways 96 = .ok (.iload_n 1, 1) := by decide +kernel
theorem dX9_ways_97 : decode cX9_ways 97 = .ok (.iload 4, 2) := by decide +kernel
theorem dX9_ways_99 : decode cX9_ways 99 = .ok (.iload 5, 2) := by decide +kernel
theorem dX9_ways_101 : decode cX9_ways 101 = .ok (.invokevirtual 316, 3) := by decide +kernel
theorem dX9_ways_104 : decode cX9_ways 104 = .ok (.iload 6, 2) := by decide +kernel
theorem dX9_ways_106 : decode cX9_ways 106 = .ok (.ireturn, 1) := by decide +kernel
theorem dX9_judge_0 : decode cX9_judge 0 = .ok (.aload_n 0, 1) := by decide +kernel
theorem dX9_judge_1 : decode cX9_judge 1 = .ok (.iload_n 1, 1) := by decide +kernel
theorem dX9_judge_2 : decode cX9_judge 2 = .ok (.invokevirtual 322, 3) := by decide +kernel
theorem dX9_judge_5 : decode cX9_judge 5 = .ok (.ifCond .eq 11, 3) := by decide +kernel
theorem dX9_judge_8 : decode cX9_judge 8 = .ok (.aload_n 0, 1) := by decide +kernel
theorem dX9_judge_9 : decode cX9_judge 9 = .ok (.iload_n 3, 1) := by decide +kernel
theorem dX9_judge_10 : decode cX9_judge 10 = .ok (.invokevirtual 156, 3) := by decide +kernel
theorem dX9_judge_13 : decode cX9_judge 13 = .ok (.ifCond .ne 5, 3) := by decide +kernel
theorem dX9_judge_16 : decode cX9_judge 16 = .ok (.iconst (-1), 1) := by decide +kernel
theorem dX9_judge_17 : decode cX9_judge 17 = .ok (.ireturn, 1) := by decide +kernel
theorem dX9_judge_18 : decode cX9_judge 18 = .ok (.aload_n 0, 1) := by decide +kernel
theorem dX9_judge_19 : decode cX9_judge 19 = .ok (.getfield 131, 3) := by decide +kernel
theorem dX9_judge_22 : decode cX9_judge 22 = .ok (.iload_n 1, 1) := by decide +kernel
theorem dX9_judge_23 : decode cX9_judge 23 = .ok (.iaload, 1) := by decide +kernel
theorem dX9_judge_24 : decode cX9_judge 24 = .ok (.ifCond .le 6, 3) := by decide +kernel
theorem dX9_judge_27 : decode cX9_judge 27 = .ok (.bipush (-12), 2) := by decide +kernel
theorem dX9_judge_29 : decode cX9_judge 29 = .ok (.ireturn, 1) := by decide +kernel
theorem dX9_judge_30 : decode cX9_judge 30 = .ok (.iconst 0, 1) := by decide +kernel
theorem dX9_judge_31 : decode cX9_judge 31 = .ok (.istore 4, 2) := by decide +kernel
theorem dX9_judge_33 : decode cX9_judge 33 = .ok (.iconst 0, 1) := by decide +kernel
theorem dX9_judge_34 : decode cX9_judge 34 = .ok (.istore 5, 2) := by decide +kernel
theorem dX9_judge_36 : decode cX9_judge 36 = .ok (.iload 5, 2) := by decide +kernel
theorem dX9_judge_38 : decode cX9_judge 38 = .ok (.aload_n 0, 1) := by decide +kernel
theorem dX9_judge_39 : decode cX9_judge 39 = .ok (.getfield 13, 3) := by decide +kernel
theorem dX9_judge_42 : decode cX9_judge 42 = .ok (.if_icmp .ge 94, 3) := by decide +kernel
theorem dX9_judge_45 : decode cX9_judge 45 = .ok (.aload_n 0, 1) := by decide +kernel
theorem dX9_judge_46 : decode cX9_judge 46 = .ok (.iload 5, 2) := by decide +kernel
theorem dX9_judge_48 : decode cX9_judge 48 = .ok (.iconst 0, 1) := by decide +kernel
theorem dX9_judge_49 : decode cX9_judge 49 = .ok (.invokevirtual 148, 3) := by decide +kernel
theorem dX9_judge_52 : decode cX9_judge 52 = .ok (.iload_n 3, 1) := by decide +kernel
theorem dX9_judge_53 : decode cX9_judge 53 = .ok (.if_icmp .eq 6, 3) := by decide +kernel
theorem dX9_judge_56 : decode cX9_judge 56 = .ok (.goto 74, 3) := by decide +kernel
theorem dX9_judge_59 : decode cX9_judge 59 = .ok (.aload_n 0, 1) := by decide +kernel
theorem dX9_judge_60 : decode cX9_judge 60 = .ok (.getfield 131, 3) := by decide +kernel
theorem dX9_judge_63 : decode cX9_judge 63 = .ok (.iload_n 1, 1) := by decide +kernel
theorem dX9_judge_64 : decode cX9_judge 64 = .ok (.iaload, 1) := by decide +kernel
theorem dX9_judge_65 : decode cX9_judge 65 = .ok (.ifCond .lt 22, 3) := by decide +kernel
theorem dX9_judge_68 : decode cX9_judge 68 = .ok (.iload_n 2, 1) := by decide +kernel
theorem dX9_judge_69 : decode cX9_judge 69 = .ok (.ifCond .lt 18, 3) := by decide +kernel
theorem dX9_judge_72 : decode cX9_judge 72 = .ok (.iload_n 2, 1) := by decide +kernel
theorem dX9_judge_73 : decode cX9_judge 73 = .ok (.aload_n 0, 1) := by decide +kernel
theorem dX9_judge_74 : decode cX9_judge 74 = .ok (.getfield 134, 3) := by decide +kernel
theorem dX9_judge_77 : decode cX9_judge 77 = .ok (.iload_n 1, 1) := by decide +kernel
theorem dX9_judge_78 : decode cX9_judge 78 = .ok (.iaload, 1) := by decide +kernel
theorem dX9_judge_79 : decode cX9_judge 79 = .ok (.iload 4, 2) := by decide +kernel
theorem dX9_judge_81 : decode cX9_judge 81 = .ok (.isub, 1) := by decide +kernel
theorem dX9_judge_82 : decode cX9_judge 82 = .ok (.iconst 1, 1) := by decide +kernel
theorem dX9_judge_83 : decode cX9_judge 83 = .ok (.isub, 1) := by decide +kernel
theorem dX9_judge_84 : decode cX9_judge 84 = .ok (.if_icmp .le 9, 3) := by decide +kernel
theorem dX9_judge_87 : decode cX9_judge 87 = .ok (.bipush 100, 2) := by decide +kernel
theorem dX9_judge_89 : decode cX9_judge 89 = .ok (.iload 4, 2) := by decide +kernel
theorem dX9_judge_91 : decode cX9_judge 91 = .ok (.iadd, 1) := by decide +kernel
theorem dX9_judge_92 : decode cX9_judge 92 = .ok (.ireturn, 1) := by decide +kernel
theorem dX9_judge_93 : decode cX9_judge 93 = .ok (.aload_n 0, 1) := by decide +kernel
theorem dX9_judge_94 : decode cX9_judge 94 = .ok (.getfield 137, 3) := by decide +kernel
theorem dX9_judge_97 : decode cX9_judge 97 = .ok (.bipush 60, 2) := by decide +kernel
theorem dX9_judge_99 : decode cX9_judge 99 = .ok (.iload_n 1, 1) := by decide +kernel
theorem dX9_judge_100 : decode cX9_judge 100 = .ok (.imul, 1) := by decide +kernel
theorem dX9_judge_101 : decode cX9_judge 101 = .ok (.iload_n 2, 1) := by decide +kernel
theorem dX9_judge_102 : decode cX9_judge 102 = .ok (.iadd, 1) := by decide +kernel
theorem dX9_judge_103 : decode cX9_judge 103 = .ok (.iload 4, 2) := by decide +kernel
theorem dX9_judge_105 : decode cX9_judge 105 = .ok (.iadd, 1) := by decide +kernel
theorem dX9_judge_106 : decode cX9_judge 106 = .ok (.laload, 1) := by decide +kernel
theorem dX9_judge_107 : decode cX9_judge 107 = .ok (.aload_n 0, 1) := by decide +kernel
theorem dX9_judge_108 : decode cX9_judge 108 = .ok (.aload_n 0, 1) := by decide +kernel
theorem dX9_judge_109 : decode cX9_judge 109 = .ok (.getfield 26, 3) := by decide +kernel
theorem dX9_judge_112 : decode cX9_judge 112 = .ok (.iload_n 3, 1) := by decide +kernel
theorem dX9_judge_113 : decode cX9_judge 113 = .ok (.iaload, 1) := by decide +kernel
theorem dX9_judge_114 : decode cX9_judge 114 = .ok (.iload 5, 2) := by decide +kernel
theorem dX9_judge_116 : decode cX9_judge 116 = .ok (.invokevirtual 263, 3) := by decide +kernel
theorem dX9_judge_119 : decode cX9_judge 119 = .ok (.i2l, 1) := by decide +kernel
theorem dX9_judge_120 : decode cX9_judge 120 = .ok (.lcmp, 1) := by decide +kernel
theorem dX9_judge_121 : decode cX9_judge 121 = .ok (.ifCond .eq 6, 3) := by decide +kernel
theorem dX9_judge_124 : decode cX9_judge 124 = .ok (.iload 4, 2) := by decide +kernel
theorem dX9_judge_126 : decode cX9_judge 126 = .ok (.ireturn, 1) := by decide +kernel
theorem dX9_judge_127 : decode cX9_judge 127 = .ok (.iinc 4 1, 3) := by decide +kernel
theorem dX9_judge_130 : decode cX9_judge 130 = .ok (.iinc 5 1, 3) := by decide +kernel
theorem dX9_judge_133 : decode cX9_judge 133 = .ok (.goto (-97), 3) := by decide +kernel
theorem dX9_judge_136 : decode cX9_judge 136 = .ok (.bipush (-5), 2) := by decide +kernel
theorem dX9_judge_138 : decode cX9_judge 138 = .ok (.ireturn, 1) := by decide +kernel
theorem dX9_image_0 : decode cX9_image 0 = .ok (.iconst 0, 1) := by decide +kernel
theorem dX9_image_1 : decode cX9_image 1 = .ok (.istore_n 1, 1) := by decide +kernel
theorem dX9_image_2 : decode cX9_image 2 = .ok (.iload_n 1, 1) := by decide +kernel
theorem dX9_image_3 : decode cX9_image 3 = .ok (.sipush 240, 3) := by decide +kernel
theorem dX9_image_6 : decode cX9_image 6 = .ok (.if_icmp .ge 21, 3) := by decide +kernel
theorem dX9_image_9 : decode cX9_image 9 = .ok (.aload_n 0, 1) := by decide +kernel
theorem dX9_image_10 : decode cX9_image 10 = .ok (.getfield 116, 3) := by decide +kernel
theorem dX9_image_13 : decode cX9_image 13 = .ok (.iload_n 1, 1) := by decide +kernel
theorem dX9_image_14 : decode cX9_image 14 = .ok (.aload_n 0, 1) := by decide +kernel
theorem dX9_image_15 : decode cX9_image 15 = .ok (.getfield 29, 3) := by decide +kernel
theorem dX9_image_18 : decode cX9_image 18 = .ok (.iload_n 1, 1) := by decide +kernel
theorem dX9_image_19 : decode cX9_image 19 = .ok (.iaload, 1) := by decide +kernel
theorem dX9_image_20 : decode cX9_image 20 = .ok (.iastore, 1) := by decide +kernel
theorem dX9_image_21 : decode cX9_image 21 = .ok (.iinc 1 1, 3) := by decide +kernel
theorem dX9_image_24 : decode cX9_image 24 = .ok (.goto (-22), 3) := by decide +kernel
theorem dX9_image_27 : decode cX9_image 27 = .ok (.iconst 0, 1) := by decide +kernel
theorem dX9_image_28 : decode cX9_image 28 = .ok (.istore_n 1, 1) := by decide +kernel
theorem dX9_image_29 : decode cX9_image 29 = .ok (.iload_n 1, 1) := by decide +kernel
theorem dX9_image_30 : decode cX9_image 30 = .ok (.bipush 8, 2) := by decide +kernel
theorem dX9_image_32 : decode cX9_image 32 = .ok (.if_icmp .ge 21, 3) := by decide +kernel
theorem dX9_image_35 : decode cX9_image 35 = .ok (.aload_n 0, 1) := by decide +kernel
theorem dX9_image_36 : decode cX9_image 36 = .ok (.getfield 119, 3) := by decide +kernel
theorem dX9_image_39 : decode cX9_image 39 = .ok (.iload_n 1, 1) := by decide +kernel
theorem dX9_image_40 : decode cX9_image 40 = .ok (.aload_n 0, 1) := by decide +kernel
theorem dX9_image_41 : decode cX9_image 41 = .ok (.getfield 16, 3) := by decide +kernel
theorem dX9_image_44 : decode cX9_image 44 = .ok (.iload_n 1, 1) := by decide +kernel
theorem dX9_image_45 : decode cX9_image 45 = .ok (.iaload, 1) := by decide +kernel
theorem dX9_image_46 : decode cX9_image 46 = .ok (.iastore, 1) := by decide +kernel
theorem dX9_image_47 : decode cX9_image 47 = .ok (.iinc 1 1, 3) := by decide +kernel
theorem dX9_image_50 : decode cX9_image 50 = .ok (.goto (-21), 3) := by decide +kernel
theorem dX9_image_53 : decode cX9_image 53 = .ok (.aload_n 0, 1) := by decide +kernel
theorem dX9_image_54 : decode cX9_image 54 = .ok (.aload_n 0, 1) := by decide +kernel
theorem dX9_image_55 : decode cX9_image 55 = .ok (.getfield 13, 3) := by decide +kernel
theorem dX9_image_58 : decode cX9_image 58 = .ok (.putfield 122, 3) := by decide +kernel
theorem dX9_image_61 : decode cX9_image 61 = .ok (.aload_n 0, 1) := by decide +kernel
theorem dX9_image_62 : decode cX9_image 62 = .ok (.getfield 13, 3) := by decide +kernel
theorem dX9_image_65 : decode cX9_image 65 = .ok (.ireturn, 1) := by decide +kernel
theorem dX9_undo_0 : decode cX9_undo 0 = .ok (.aload_n 0, 1) := by decide +kernel
theorem dX9_undo_1 : decode cX9_undo 1 = .ok (.getfield 122, 3) := by decide +kernel
theorem dX9_undo_4 : decode cX9_undo 4 = .ok (.ifCond .ge 6, 3) := by decide +kernel
theorem dX9_undo_7 : decode cX9_undo 7 = .ok (.bipush (-3), 2) := by decide +kernel
theorem dX9_undo_9 : decode cX9_undo 9 = .ok (.ireturn, 1) := by decide +kernel
theorem dX9_undo_10 : decode cX9_undo 10 = .ok (.iconst 0, 1) := by decide +kernel
theorem dX9_undo_11 : decode cX9_undo 11 = .ok (.istore_n 1, 1) := by decide +kernel
theorem dX9_undo_12 : decode cX9_undo 12 = .ok (.iload_n 1, 1) := by decide +kernel
theorem dX9_undo_13 : decode cX9_undo 13 = .ok (.sipush 240, 3) := by decide +kernel
theorem dX9_undo_16 : decode cX9_undo 16 = .ok (.if_icmp .ge 21, 3) := by decide +kernel
theorem dX9_undo_19 : decode cX9_undo 19 = .ok (.aload_n 0, 1) := by decide +kernel
theorem dX9_undo_20 : decode cX9_undo 20 = .ok (.getfield 29, 3) := by decide +kernel
theorem dX9_undo_23 : decode cX9_undo 23 = .ok (.iload_n 1, 1) := by decide +kernel
theorem dX9_undo_24 : decode cX9_undo 24 = .ok (.aload_n 0, 1) := by decide +kernel
theorem dX9_undo_25 : decode cX9_undo 25 = .ok (.getfield 116, 3) := by decide +kernel
theorem dX9_undo_28 : decode cX9_undo 28 = .ok (.iload_n 1, 1) := by decide +kernel
theorem dX9_undo_29 : decode cX9_undo 29 = .ok (.iaload, 1) := by decide +kernel
theorem dX9_undo_30 : decode cX9_undo 30 = .ok (.iastore, 1) := by decide +kernel
theorem dX9_undo_31 : decode cX9_undo 31 = .ok (.iinc 1 1, 3) := by decide +kernel
theorem dX9_undo_34 : decode cX9_undo 34 = .ok (.goto (-22), 3) := by decide +kernel
theorem dX9_undo_37 : decode cX9_undo 37 = .ok (.iconst 0, 1) := by decide +kernel
theorem dX9_undo_38 : decode cX9_undo 38 = .ok (.istore_n 1, 1) := by decide +kernel
theorem dX9_undo_39 : decode cX9_undo 39 = .ok (.iload_n 1, 1) := by decide +kernel
theorem dX9_undo_40 : decode cX9_undo 40 = .ok (.bipush 8, 2) := by decide +kernel
theorem dX9_undo_42 : decode cX9_undo 42 = .ok (.if_icmp .ge 21, 3) := by decide +kernel
theorem dX9_undo_45 : decode cX9_undo 45 = .ok (.aload_n 0, 1) := by decide +kernel
theorem dX9_undo_46 : decode cX9_undo 46 = .ok (.getfield 16, 3) := by decide +kernel
theorem dX9_undo_49 : decode cX9_undo 49 = .ok (.iload_n 1, 1) := by decide +kernel
theorem dX9_undo_50 : decode cX9_undo 50 = .ok (.aload_n 0, 1) := by decide +kernel
theorem dX9_undo_51 : decode cX9_undo 51 = .ok (.getfield 119, 3) := by decide +kernel
theorem dX9_undo_54 : decode cX9_undo 54 = .ok (.iload_n 1, 1) := by decide +kernel
theorem dX9_undo_55 : decode cX9_undo 55 = .ok (.iaload, 1) := by decide +kernel
theorem dX9_undo_56 : decode cX9_undo 56 = .ok (.iastore, 1) := by decide +kernel
theorem dX9_undo_57 : decode cX9_undo 57 = .ok (.iinc 1 1, 3) := by decide +kernel
theorem dX9_undo_60 : decode cX9_undo 60 = .ok (.goto (-21), 3) := by decide +kernel
theorem dX9_undo_63 : decode cX9_undo 63 = .ok (.aload_n 0, 1) := by decide +kernel
theorem dX9_undo_64 : decode cX9_undo 64 = .ok (.aload_n 0, 1) := by decide +kernel
theorem dX9_undo_65 : decode cX9_undo 65 = .ok (.getfield 122, 3) := by decide +kernel
theorem dX9_undo_68 : decode cX9_undo 68 = .ok (.putfield 13, 3) := by decide +kernel
theorem dX9_undo_71 : decode cX9_undo 71 = .ok (.aload_n 0, 1) := by decide +kernel
theorem dX9_undo_72 : decode cX9_undo 72 = .ok (.getfield 13, 3) := by decide +kernel
theorem dX9_undo_75 : decode cX9_undo 75 = .ok (.ireturn, 1) := by decide +kernel
theorem dX9_body_0 : decode cX9_body 0 = .ok (.aload_n 0, 1) := by decide +kernel
theorem dX9_body_1 : decode cX9_body 1 = .ok (.getfield 125, 3) := by decide +kernel
theorem dX9_body_4 : decode cX9_body 4 = .ok (.bipush 20, 2) := by decide +kernel
theorem dX9_body_6 : decode cX9_body 6 = .ok (.if_icmp .ge 13, 3) := by decide +kernel
theorem dX9_body_9 : decode cX9_body 9 = .ok (.aload_n 0, 1) := by decide +kernel
theorem dX9_body_10 : decode cX9_body 10 = .ok (.getfield 128, 3) := by decide +kernel
theorem dX9_body_13 : decode cX9_body 13 = .ok (.aload_n 0, 1) := by decide +kernel
theorem dX9_body_14 : decode cX9_body 14 = .ok (.getfield 125, 3) := by decide +kernel
theorem dX9_body_17 : decode cX9_body 17 = .ok (.iload_n 1, 1) := by decide +kernel
theorem dX9_body_18 : decode cX9_body 18 = .ok (.iastore, 1) := by decide +kernel
theorem dX9_body_19 : decode cX9_body 19 = .ok (.aload_n 0, 1) := by decide +kernel
theorem dX9_body_20 : decode cX9_body 20 = .ok (.dup, 1) := by decide +kernel
theorem dX9_body_21 : decode cX9_body 21 = .ok (.getfield 125, 3) := by decide +kernel
theorem dX9_body_24 : decode cX9_body 24 = .ok (.iconst 1, 1) := by decide +kernel
theorem dX9_body_25 : decode cX9_body 25 = .ok (.iadd, 1) := by decide +kernel
theorem dX9_body_26 : decode cX9_body 26 = .ok (.putfield 125, 3) := by decide +kernel
theorem dX9_body_29 : decode cX9_body 29 = .ok (.return_, 1) := by decide +kernel
theorem dX9_plainSwears_0 : decode cX9_plainSwears 0 = .ok (.aload_n 0, 1) := by decide +kernel
theorem dX9_plainSwears_1 : decode cX9_plainSwears 1 = .ok (.bipush 10, 2) := by decide +kernel
theorem dX9_plainSwears_3 : decode cX9_plainSwears 3 = .ok (.invokevirtual 325, 3) := by decide +kernel
theorem dX9_plainSwears_6 : decode cX9_plainSwears 6 = .ok (.iload_n 1, 1) := by decide +kernel
theorem dX9_plainSwears_7 : decode cX9_plainSwears 7 = .ok (.aload_n 0, 1) := by decide +kernel
theorem dX9_plainSwears_8 : decode cX9_plainSwears 8 = .ok (.getfield 13, 3) := by decide +kernel
theorem dX9_plainSwears_11 : decode cX9_plainSwears 11 = .ok (.iadd, 1) := by decide +kernel
theorem dX9_plainSwears_12 : decode cX9_plainSwears 12 = .ok (.ireturn, 1) := by decide +kernel
theorem dX9_guardSwears_0 : decode cX9_guardSwears 0 = .ok (.aload_n 0, 1) := by decide +kernel
theorem dX9_guardSwears_1 : decode cX9_guardSwears 1 = .ok (.bipush 40, 2) := by decide +kernel
theorem dX9_guardSwears_3 : decode cX9_guardSwears 3 = .ok (.invokevirtual 325, 3) := by decide +kernel
theorem dX9_guardSwears_6 : decode cX9_guardSwears 6 = .ok (.aload_n 0, 1) := by decide +kernel
theorem dX9_guardSwears_7 : decode cX9_guardSwears 7 = .ok (.iload_n 1, 1) := by decide +kernel
theorem dX9_guardSwears_8 : decode cX9_guardSwears 8 = .ok (.invokevirtual 328, 3) := by decide +kernel
theorem dX9_guardSwears_11 : decode cX9_guardSwears 11 = .ok (.ineg, 1) := by decide +kernel
theorem dX9_guardSwears_12 : decode cX9_guardSwears 12 = .ok (.ireturn, 1) := by decide +kernel
theorem dX9_swearsAct_0 : decode cX9_swearsAct 0 = .ok (.iload_n 1, 1) := by decide +kernel
theorem dX9_swearsAct_1 : decode cX9_swearsAct 1 = .ok (.iconst 2, 1) := by decide +kernel
theorem dX9_swearsAct_2 : decode cX9_swearsAct 2 = .ok (.if_icmp .ne 17, 3) := by decide +kernel
theorem dX9_swearsAct_5 : decode cX9_swearsAct 5 = .ok (.aload_n 0, 1) := by decide +kernel
theorem dX9_swearsAct_6 : decode cX9_swearsAct 6 = .ok (.bipush 30, 2) := by decide +kernel
theorem dX9_swearsAct_8 : decode cX9_swearsAct 8 = .ok (.invokevirtual 325, 3) := by decide +kernel
theorem dX9_swearsAct_11 : decode cX9_swearsAct 11 = .ok (.aload_n 0, 1) := by decide +kernel
theorem dX9_swearsAct_12 : decode cX9_swearsAct 12 = .ok (.iload_n 2, 1) := by decide +kernel
theorem dX9_swearsAct_13 : decode cX9_swearsAct 13 = .ok (.iconst 3, 1) := by decide +kernel
theorem dX9_swearsAct_14 : decode cX9_swearsAct 14 = .ok (.imul, 1) := by decide +kernel
theorem dX9_swearsAct_15 : decode cX9_swearsAct 15 = .ok (.invokevirtual 328, 3) := by decide +kernel
theorem dX9_swearsAct_18 : decode cX9_swearsAct 18 = .ok (.ireturn, 1) := by decide +kernel
theorem dX9_swearsAct_19 : decode cX9_swearsAct 19 = .ok (.iload_n 1, 1) := by decide +kernel
theorem dX9_swearsAct_20 : decode cX9_swearsAct 20 = .ok (.iconst 3, 1) := by decide +kernel
theorem dX9_swearsAct_21 : decode cX9_swearsAct 21 = .ok (.if_icmp .eq 8, 3) := by decide +kernel
theorem dX9_swearsAct_24 : decode cX9_swearsAct 24 = .ok (.iload_n 1, 1) := by decide +kernel
theorem dX9_swearsAct_25 : decode cX9_swearsAct 25 = .ok (.iconst 4, 1) := by decide +kernel
theorem dX9_swearsAct_26 : decode cX9_swearsAct 26 = .ok (.if_icmp .ne 11, 3) := by decide +kernel
theorem dX9_swearsAct_29 : decode cX9_swearsAct 29 = .ok (.aload_n 0, 1) := by decide +kernel
theorem dX9_swearsAct_30 : decode cX9_swearsAct 30 = .ok (.iload_n 2, 1) := by decide +kernel
theorem dX9_swearsAct_31 : decode cX9_swearsAct 31 = .ok (.invokevirtual 331, 3) := by decide +kernel
theorem dX9_swearsAct_34 : decode cX9_swearsAct 34 = .ok (.goto 8, 3) := by decide +kernel
theorem dX9_swearsAct_37 : decode cX9_swearsAct 37 = .ok (.aload_n 0, 1) := by decide +kernel
theorem dX9_swearsAct_38 : decode cX9_swearsAct 38 = .ok (.iload_n 2, 1) := by decide +kernel
theorem dX9_swearsAct_39 : decode cX9_swearsAct 39 = .ok (.invokevirtual 328, 3) := by decide +kernel
theorem dX9_swearsAct_42 : decode cX9_swearsAct 42 = .ok (.ireturn, 1) := by decide +kernel
theorem dX9_plainFrees_0 : decode cX9_plainFrees 0 = .ok (.aload_n 0, 1) := by decide +kernel
theorem dX9_plainFrees_1 : decode cX9_plainFrees 1 = .ok (.bipush 11, 2) := by decide +kernel
theorem dX9_plainFrees_3 : decode cX9_plainFrees 3 = .ok (.invokevirtual 325, 3) := by decide +kernel
theorem dX9_plainFrees_6 : decode cX9_plainFrees 6 = .ok (.aload_n 0, 1) := by decide +kernel
theorem dX9_plainFrees_7 : decode cX9_plainFrees 7 = .ok (.iload_n 1, 1) := by decide +kernel
theorem dX9_plainFrees_8 : decode cX9_plainFrees 8 = .ok (.iload_n 2, 1) := by decide +kernel
theorem dX9_plainFrees_9 : decode cX9_plainFrees 9 = .ok (.invokevirtual 334, 3) := by decide +kernel
theorem dX9_plainFrees_12 : decode cX9_plainFrees 12 = .ok (.aload_n 0, 1) := by decide +kernel
theorem dX9_plainFrees_13 : decode cX9_plainFrees 13 = .ok (.getfield 7, 3) := by decide +kernel
theorem dX9_plainFrees_16 : decode cX9_plainFrees 16 = .ok (.isub, 1) := by decide +kernel
theorem dX9_plainFrees_17 : decode cX9_plainFrees 17 = .ok (.ireturn, 1) := by decide +kernel
theorem dX9_freesAct_0 : decode cX9_freesAct 0 = .ok (.iload_n 1, 1) := by decide +kernel
theorem dX9_freesAct_1 : decode cX9_freesAct 1 = .ok (.tableswitch 90 1 5 #[35, 35, 90, 51, 72], 35) := by decide +kernel
theorem dX9_freesAct_36 : decode cX9_freesAct 36 = .ok (.aload_n 0, 1) := by decide +kernel
theorem dX9_freesAct_37 : decode cX9_freesAct 37 = .ok (.bipush 20, 2) := by decide +kernel
theorem dX9_freesAct_39 : decode cX9_freesAct 39 = .ok (.invokevirtual 325, 3) := by decide +kernel
theorem dX9_freesAct_42 : decode cX9_freesAct 42 = .ok (.aload_n 0, 1) := by decide +kernel
theorem dX9_freesAct_43 : decode cX9_freesAct 43 = .ok (.iload_n 1, 1) := by decide +kernel
theorem dX9_freesAct_44 : decode cX9_freesAct 44 = .ok (.iload_n 2, 1) := by decide +kernel
theorem dX9_freesAct_45 : decode cX9_freesAct 45 = .ok (.invokevirtual 337, 3) := by decide +kernel
theorem dX9_freesAct_48 : decode cX9_freesAct 48 = .ok (.bipush 6, 2) := by decide +kernel
theorem dX9_freesAct_50 : decode cX9_freesAct 50 = .ok (.ixor, 1) := by decide +kernel
theorem dX9_freesAct_51 : decode cX9_freesAct 51 = .ok (.ireturn, 1) := by decide +kernel
theorem dX9_freesAct_52 : decode cX9_freesAct 52 = .ok (.aload_n 0, 1) := by decide +kernel
theorem dX9_freesAct_53 : decode cX9_freesAct 53 = .ok (.bipush 51, 2) := by decide +kernel
theorem dX9_freesAct_55 : decode cX9_freesAct 55 = .ok (.invokevirtual 325, 3) := by decide +kernel
theorem dX9_freesAct_58 : decode cX9_freesAct 58 = .ok (.aload_n 0, 1) := by decide +kernel
theorem dX9_freesAct_59 : decode cX9_freesAct 59 = .ok (.iload_n 1, 1) := by decide +kernel
theorem dX9_freesAct_60 : decode cX9_freesAct 60 = .ok (.iload_n 2, 1) := by decide +kernel
theorem dX9_freesAct_61 : decode cX9_freesAct 61 = .ok (.invokevirtual 337, 3) := by decide +kernel
theorem dX9_freesAct_64 : decode cX9_freesAct 64 = .ok (.istore_n 3, 1) := by decide +kernel
theorem dX9_freesAct_65 : decode cX9_freesAct 65 = .ok (.iload_n 3, 1) := by decide +kernel
theorem dX9_freesAct_66 : decode cX9_freesAct 66 = .ok (.aload_n 0, 1) := by decide +kernel
theorem dX9_freesAct_67 : decode cX9_freesAct 67 = .ok (.iconst 2, 1) := by decide +kernel
theorem dX9_freesAct_68 : decode cX9_freesAct 68 = .ok (.invokevirtual 331, 3) := by decide +kernel
theorem dX9_freesAct_71 : decode cX9_freesAct 71 = .ok (.iadd, 1) := by decide +kernel
theorem dX9_freesAct_72 : decode cX9_freesAct 72 = .ok (.ireturn, 1) := by decide +kernel
theorem dX9_freesAct_73 : decode cX9_freesAct 73 = .ok (.aload_n 0, 1) := by decide +kernel
theorem dX9_freesAct_74 : decode cX9_freesAct 74 = .ok (.bipush 60, 2) := by decide +kernel
theorem dX9_freesAct_76 : decode cX9_freesAct 76 = .ok (.invokevirtual 325, 3) := by decide +kernel
theorem dX9_freesAct_79 : decode cX9_freesAct 79 = .ok (.aload_n 0, 1) := by decide +kernel
theorem dX9_freesAct_80 : decode cX9_freesAct 80 = .ok (.iload_n 1, 1) := by decide +kernel
theorem dX9_freesAct_81 : decode cX9_freesAct 81 = .ok (.iload_n 2, 1) := by decide +kernel
theorem dX9_freesAct_82 : decode cX9_freesAct 82 = .ok (.aload_n 0, 1) := by decide +kernel
theorem dX9_freesAct_83 : decode cX9_freesAct 83 = .ok (.getfield 7, 3) := by decide +kernel
theorem dX9_freesAct_86 : decode cX9_freesAct 86 = .ok (.iadd, 1) := by decide +kernel
theorem dX9_freesAct_87 : decode cX9_freesAct 87 = .ok (.invokevirtual 337, 3) := by decide +kernel
theorem dX9_freesAct_90 : decode cX9_freesAct 90 = .ok (.ireturn, 1) := by decide +kernel
theorem dX9_freesAct_91 : decode cX9_freesAct 91 = .ok (.aload_n 0, 1) := by decide +kernel
theorem dX9_freesAct_92 : decode cX9_freesAct 92 = .ok (.iload_n 1, 1) := by decide +kernel
theorem dX9_freesAct_93 : decode cX9_freesAct 93 = .ok (.iload_n 2, 1) := by decide +kernel
theorem dX9_freesAct_94 : decode cX9_freesAct 94 = .ok (.invokevirtual 337, 3) := by decide +kernel
theorem dX9_freesAct_97 : decode cX9_freesAct 97 = .ok (.ireturn, 1) := by decide +kernel
theorem dX9_plainTakes_0 : decode cX9_plainTakes 0 = .ok (.aload_n 0, 1) := by decide +kernel
theorem dX9_plainTakes_1 : decode cX9_plainTakes 1 = .ok (.bipush 12, 2) := by decide +kernel
theorem dX9_plainTakes_3 : decode cX9_plainTakes 3 = .ok (.invokevirtual 325, 3) := by decide +kernel
theorem dX9_plainTakes_6 : decode cX9_plainTakes 6 = .ok (.aload_n 0, 1) := by decide +kernel
theorem dX9_plainTakes_7 : decode cX9_plainTakes 7 = .ok (.iload_n 1, 1) := by decide +kernel
theorem dX9_plainTakes_8 : decode cX9_plainTakes 8 = .ok (.iload_n 2, 1) := by decide +kernel
theorem dX9_plainTakes_9 : decode cX9_plainTakes 9 = .ok (.invokevirtual 340, 3) := by decide +kernel
theorem dX9_plainTakes_12 : decode cX9_plainTakes 12 = .ok (.iconst 2, 1) := by decide +kernel
theorem dX9_plainTakes_13 : decode cX9_plainTakes 13 = .ok (.imul, 1) := by decide +kernel
theorem dX9_plainTakes_14 : decode cX9_plainTakes 14 = .ok (.ireturn, 1) := by decide +kernel
theorem dX9_takesAct_0 : decode cX9_takesAct 0 = .ok (.iload_n 1, 1) := by decide +kernel
theorem dX9_takesAct_1 : decode cX9_takesAct 1 = .ok (.tableswitch 99 2 6 #[35, 99, 57, 99, 75], 35) := by decide +kernel
theorem dX9_takesAct_36 : decode cX9_takesAct 36 = .ok (.aload_n 0, 1) := by decide +kernel
theorem dX9_takesAct_37 : decode cX9_takesAct 37 = .ok (.bipush 31, 2) := by decide +kernel
theorem dX9_takesAct_39 : decode cX9_takesAct 39 = .ok (.invokevirtual 325, 3) := by decide +kernel
theorem dX9_takesAct_42 : decode cX9_takesAct 42 = .ok (.aload_n 0, 1) := by decide +kernel
theorem dX9_takesAct_43 : decode cX9_takesAct 43 = .ok (.iload_n 1, 1) := by decide +kernel
theorem dX9_takesAct_44 : decode cX9_takesAct 44 = .ok (.iload_n 2, 1) := by decide +kernel
theorem dX9_takesAct_45 : decode cX9_takesAct 45 = .ok (.invokevirtual 343, 3) := by decide +kernel
theorem dX9_takesAct_48 : decode cX9_takesAct 48 = .ok (.istore_n 3, 1) := by decide +kernel
theorem dX9_takesAct_49 : decode cX9_takesAct 49 = .ok (.iload_n 3, 1) := by decide +kernel
theorem dX9_takesAct_50 : decode cX9_takesAct 50 = .ok (.aload_n 0, 1) := by decide +kernel
theorem dX9_takesAct_51 : decode cX9_takesAct 51 = .ok (.iload_n 1, 1) := by decide +kernel
theorem dX9_takesAct_52 : decode cX9_takesAct 52 = .ok (.iconst 1, 1) := by decide +kernel
theorem dX9_takesAct_53 : decode cX9_takesAct 53 = .ok (.invokevirtual 340, 3) := by decide +kernel
theorem dX9_takesAct_56 : decode cX9_takesAct 56 = .ok (.iadd, 1) := by decide +kernel
theorem dX9_takesAct_57 : decode cX9_takesAct 57 = .ok (.ireturn, 1) := by decide +kernel
theorem dX9_takesAct_58 : decode cX9_takesAct 58 = .ok (.aload_n 0, 1) := by decide +kernel
theorem dX9_takesAct_59 : decode cX9_takesAct 59 = .ok (.bipush 50, 2) := by decide +kernel
theorem dX9_takesAct_61 : decode cX9_takesAct 61 = .ok (.invokevirtual 325, 3) := by decide +kernel
theorem dX9_takesAct_64 : decode cX9_takesAct 64 = .ok (.aload_n 0, 1) := by decide +kernel
theorem dX9_takesAct_65 : decode cX9_takesAct 65 = .ok (.iload_n 1, 1) := by decide +kernel
theorem dX9_takesAct_66 : decode cX9_takesAct 66 = .ok (.iload_n 2, 1) := by decide +kernel
theorem dX9_takesAct_67 : decode cX9_takesAct 67 = .ok (.aload_n 0, 1) := by decide +kernel
theorem dX9_takesAct_68 : decode cX9_takesAct 68 = .ok (.getfield 13, 3) := by decide +kernel
theorem dX9_takesAct_71 : decode cX9_takesAct 71 = .ok (.isub, 1) := by decide +kernel
theorem dX9_takesAct_72 : decode cX9_takesAct 72 = .ok (.invokevirtual 343, 3) := by decide +kernel
theorem dX9_takesAct_75 : decode cX9_takesAct 75 = .ok (.ireturn, 1) := by decide +kernel
theorem dX9_takesAct_76 : decode cX9_takesAct 76 = .ok (.aload_n 0, 1) := by decide +kernel
theorem dX9_takesAct_77 : decode cX9_takesAct 77 = .ok (.bipush 70, 2) := by decide +kernel
theorem dX9_takesAct_79 : decode cX9_takesAct 79 = .ok (.invokevirtual 325, 3) := by decide +kernel
theorem dX9_takesAct_82 : decode cX9_takesAct 82 = .ok (.aload_n 0, 1) := by decide +kernel
theorem dX9_takesAct_83 : decode cX9_takesAct 83 = .ok (.iload_n 1, 1) := by decide +kernel
theorem dX9_takesAct_84 : decode cX9_takesAct 84 = .ok (.iload_n 2, 1) := by decide +kernel
theorem dX9_takesAct_85 : decode cX9_takesAct 85 = .ok (.invokevirtual 334, 3) := by decide +kernel
theorem dX9_takesAct_88 : decode cX9_takesAct 88 = .ok (.istore 4, 2) := by decide +kernel
theorem dX9_takesAct_90 : decode cX9_takesAct 90 = .ok (.iload 4, 2) := by decide +kernel
theorem dX9_takesAct_92 : decode cX9_takesAct 92 = .ok (.aload_n 0, 1) := by decide +kernel
theorem dX9_takesAct_93 : decode cX9_takesAct 93 = .ok (.iload_n 1, 1) := by decide +kernel
theorem dX9_takesAct_94 : decode cX9_takesAct 94 = .ok (.iload_n 2, 1) := by decide +kernel
theorem dX9_takesAct_95 : decode cX9_takesAct 95 = .ok (.invokevirtual 343, 3) := by decide +kernel
theorem dX9_takesAct_98 : decode cX9_takesAct 98 = .ok (.isub, 1) := by decide +kernel
theorem dX9_takesAct_99 : decode cX9_takesAct 99 = .ok (.ireturn, 1) := by decide +kernel
theorem dX9_takesAct_100 : decode cX9_takesAct 100 = .ok (.aload_n 0, 1) := by decide +kernel
theorem dX9_takesAct_101 : decode cX9_takesAct 101 = .ok (.iload_n 1, 1) := by decide +kernel
theorem dX9_takesAct_102 : decode cX9_takesAct 102 = .ok (.iload_n 2, 1) := by decide +kernel
theorem dX9_takesAct_103 : decode cX9_takesAct 103 = .ok (.invokevirtual 343, 3) := by decide +kernel
theorem dX9_takesAct_106 : decode cX9_takesAct 106 = .ok (.ireturn, 1) := by decide +kernel
theorem dX9_act_0 : decode cX9_act 0 = .ok (.aload_n 0, 1) := by decide +kernel
theorem dX9_act_1 : decode cX9_act 1 = .ok (.iconst 0, 1) := by decide +kernel
theorem dX9_act_2 : decode cX9_act 2 = .ok (.putfield 125, 3) := by decide +kernel
theorem dX9_act_5 : decode cX9_act 5 = .ok (.aload_n 0, 1) := by decide +kernel
theorem dX9_act_6 : decode cX9_act 6 = .ok (.iload_n 1, 1) := by decide +kernel
theorem dX9_act_7 : decode cX9_act 7 = .ok (.iconst 0, 1) := by decide +kernel
theorem dX9_act_8 : decode cX9_act 8 = .ok (.bipush 6, 2) := by decide +kernel
theorem dX9_act_10 : decode cX9_act 10 = .ok (.invokevirtual 144, 3) := by decide +kernel
theorem dX9_act_13 : decode cX9_act 13 = .ok (.ifCond .eq 13, 3) := by decide +kernel
theorem dX9_act_16 : decode cX9_act 16 = .ok (.aload_n 0, 1) := by decide +kernel
theorem dX9_act_17 : decode cX9_act 17 = .ok (.iload_n 2, 1) := by decide +kernel
theorem dX9_act_18 : decode cX9_act 18 = .ok (.iconst 0, 1) := by decide +kernel
theorem dX9_act_19 : decode cX9_act 19 = .ok (.iconst 2, 1) := by decide +kernel
theorem dX9_act_20 : decode cX9_act 20 = .ok (.invokevirtual 144, 3) := by decide +kernel
theorem dX9_act_23 : decode cX9_act 23 = .ok (.ifCond .ne 5, 3) := by decide +kernel
theorem dX9_act_26 : decode cX9_act 26 = .ok (.iconst 0, 1) := by decide +kernel
theorem dX9_act_27 : decode cX9_act 27 = .ok (.ireturn, 1) := by decide +kernel
theorem dX9_act_28 : decode cX9_act 28 = .ok (.iload_n 2, 1) := by decide +kernel
theorem dX9_act_29 : decode cX9_act 29 = .ok (.ifCond .ne 12, 3) := by decide +kernel
theorem dX9_act_32 : decode cX9_act 32 = .ok (.aload_n 0, 1) := by decide +kernel
theorem dX9_act_33 : decode cX9_act 33 = .ok (.iload_n 1, 1) := by decide +kernel
theorem dX9_act_34 : decode cX9_act 34 = .ok (.iload_n 3, 1) := by decide +kernel
theorem dX9_act_35 : decode cX9_act 35 = .ok (.invokevirtual 334, 3) := by decide +kernel
theorem dX9_act_38 : decode cX9_act 38 = .ok (.goto 23, 3) := by decide +kernel
theorem dX9_act_41 : decode cX9_act 41 = .ok (.iload_n 2, 1) := by decide +kernel
theorem dX9_act_42 : decode cX9_act 42 = .ok (.iconst 1, 1) := by decide +kernel
theorem dX9_act_43 : decode cX9_act 43 = .ok (.if_icmp .ne 12, 3) := by decide +kernel
theorem dX9_act_46 : decode cX9_act 46 = .ok (.aload_n 0, 1) := by decide +kernel
theorem dX9_act_47 : decode cX9_act 47 = .ok (.iload_n 1, 1) := by decide +kernel
theorem dX9_act_48 : decode cX9_act 48 = .ok (.iload_n 3, 1) := by decide +kernel
theorem dX9_act_49 : decode cX9_act 49 = .ok (.invokevirtual 340, 3) := by decide +kernel
theorem dX9_act_52 : decode cX9_act 52 = .ok (.goto 9, 3) := by decide +kernel
theorem dX9_act_55 : decode cX9_act 55 = .ok (.aload_n 0, 1) := by decide +kernel
theorem dX9_act_56 : decode cX9_act 56 = .ok (.iload_n 1, 1) := by decide +kernel
theorem dX9_act_57 : decode cX9_act 57 = .ok (.iload_n 3, 1) := by decide +kernel
theorem dX9_act_58 : decode cX9_act 58 = .ok (.invokevirtual 346, 3) := by decide +kernel
theorem dX9_act_61 : decode cX9_act 61 = .ok (.ireturn, 1) := by decide +kernel
theorem dX9_trace_0 : decode cX9_trace 0 = .ok (.aload_n 0, 1) := by decide +kernel
theorem dX9_trace_1 : decode cX9_trace 1 = .ok (.iload_n 1, 1) := by decide +kernel
theorem dX9_trace_2 : decode cX9_trace 2 = .ok (.iconst 0, 1) := by decide +kernel
theorem dX9_trace_3 : decode cX9_trace 3 = .ok (.bipush 19, 2) := by decide +kernel
theorem dX9_trace_5 : decode cX9_trace 5 = .ok (.invokevirtual 144, 3) := by decide +kernel
theorem dX9_trace_8 : decode cX9_trace 8 = .ok (.ifCond .eq 20, 3) := by decide +kernel
theorem dX9_trace_11 : decode cX9_trace 11 = .ok (.iload_n 1, 1) := by decide +kernel
theorem dX9_trace_12 : decode cX9_trace 12 = .ok (.aload_n 0, 1) := by decide +kernel
theorem dX9_trace_13 : decode cX9_trace 13 = .ok (.getfield 125, 3) := by decide +kernel
theorem dX9_trace_16 : decode cX9_trace 16 = .ok (.if_icmp .ge 12, 3) := by decide +kernel
theorem dX9_trace_19 : decode cX9_trace 19 = .ok (.aload_n 0, 1) := by decide +kernel
theorem dX9_trace_20 : decode cX9_trace 20 = .ok (.getfield 128, 3) := by decide +kernel
theorem dX9_trace_23 : decode cX9_trace 23 = .ok (.iload_n 1, 1) := by decide +kernel
theorem dX9_trace_24 : decode cX9_trace 24 = .ok (.iaload, 1) := by decide +kernel
theorem dX9_trace_25 : decode cX9_trace 25 = .ok (.goto 4, 3) := by decide +kernel
theorem dX9_trace_28 : decode cX9_trace 28 = .ok (.iconst (-1), 1) := by decide +kernel
theorem dX9_trace_29 : decode cX9_trace 29 = .ok (.ireturn, 1) := by decide +kernel
theorem dX9_taken_0 : decode cX9_taken 0 = .ok (.aload_n 0, 1) := by decide +kernel
theorem dX9_taken_1 : decode cX9_taken 1 = .ok (.iload_n 2, 1) := by decide +kernel
theorem dX9_taken_2 : decode cX9_taken 2 = .ok (.iconst 0, 1) := by decide +kernel
theorem dX9_taken_3 : decode cX9_taken 3 = .ok (.bipush 6, 2) := by decide +kernel
theorem dX9_taken_5 : decode cX9_taken 5 = .ok (.invokevirtual 144, 3) := by decide +kernel
theorem dX9_taken_8 : decode cX9_taken 8 = .ok (.ifCond .ne 6, 3) := by decide +kernel
theorem dX9_taken_11 : decode cX9_taken 11 = .ok (.bipush (-2), 2) := by decide +kernel
theorem dX9_taken_13 : decode cX9_taken 13 = .ok (.ireturn, 1) := by decide +kernel
theorem dX9_taken_14 : decode cX9_taken 14 = .ok (.aload_n 0, 1) := by decide +kernel
theorem dX9_taken_15 : decode cX9_taken 15 = .ok (.iload_n 1, 1) := by decide +kernel
theorem dX9_taken_16 : decode cX9_taken 16 = .ok (.iconst 0, 1) := by decide +kernel
theorem dX9_taken_17 : decode cX9_taken 17 = .ok (.bipush 6, 2) := by decide +kernel
theorem dX9_taken_19 : decode cX9_taken 19 = .ok (.invokevirtual 144, 3) := by decide +kernel
theorem dX9_taken_22 : decode cX9_taken 22 = .ok (.ifCond .ne 6, 3) := by decide +kernel
theorem dX9_taken_25 : decode cX9_taken 25 = .ok (.bipush (-11), 2) := by decide +kernel
theorem dX9_taken_27 : decode cX9_taken 27 = .ok (.ireturn, 1) := by decide +kernel
theorem dX9_taken_28 : decode cX9_taken 28 = .ok (.iload_n 2, 1) := by decide +kernel
theorem dX9_taken_29 : decode cX9_taken 29 = .ok (.ifCond .eq 28, 3) := by decide +kernel
theorem dX9_taken_32 : decode cX9_taken 32 = .ok (.iload_n 1, 1) := by decide +kernel
theorem dX9_taken_33 : decode cX9_taken 33 = .ok (.iload_n 2, 1) := by decide +kernel
theorem dX9_taken_34 : decode cX9_taken 34 = .ok (.if_icmp .eq 23, 3) := by decide +kernel
theorem dX9_taken_37 : decode cX9_taken 37 = .ok (.iload_n 2, 1) := by decide +kernel
theorem dX9_taken_38 : decode cX9_taken 38 = .ok (.iconst 1, 1) := by decide +kernel
theorem dX9_taken_39 : decode cX9_taken 39 = .ok (.if_icmp .ne 8, 3) := by decide +kernel
theorem dX9_taken_42 : decode cX9_taken 42 = .ok (.iload_n 1, 1) := by decide +kernel
theorem dX9_taken_43 : decode cX9_taken 43 = .ok (.iconst 2, 1) := by decide +kernel
theorem dX9_taken_44 : decode cX9_taken 44 = .ok (.if_icmp .eq 13, 3) := by decide +kernel
theorem dX9_taken_47 : decode cX9_taken 47 = .ok (.iload_n 2, 1) := by decide +kernel
theorem dX9_taken_48 : decode cX9_taken 48 = .ok (.iconst 3, 1) := by decide +kernel
theorem dX9_taken_49 : decode cX9_taken 49 = .ok (.if_icmp .ne 12, 3) := by decide +kernel
theorem dX9_taken_52 : decode cX9_taken 52 = .ok (.iload_n 1, 1) := by decide +kernel
theorem dX9_taken_53 : decode cX9_taken 53 = .ok (.iconst 4, 1) := by decide +kernel
theorem dX9_taken_54 : decode cX9_taken 54 = .ok (.if_icmp .ne 7, 3) := by decide +kernel
theorem dX9_taken_57 : decode cX9_taken 57 = .ok (.iload_n 1, 1) := by decide +kernel
theorem dX9_taken_58 : decode cX9_taken 58 = .ok (.goto 5, 3) := by decide +kernel
theorem dX9_taken_61 : decode cX9_taken 61 = .ok (.bipush (-12), 2) := by decide +kernel
theorem dX9_taken_63 : decode cX9_taken 63 = .ok (.ireturn, 1) := by decide +kernel
theorem dX9_count_0 : decode cX9_count 0 = .ok (.iload_n 1, 1) := by decide +kernel
theorem dX9_count_1 : decode cX9_count 1 = .ok (.tableswitch 60 0 4 #[35, 40, 45, 50, 55], 35) := by decide +kernel
theorem dX9_count_36 : decode cX9_count 36 = .ok (.aload_n 0, 1) := by decide +kernel
theorem dX9_count_37 : decode cX9_count 37 = .ok (.getfield 7, 3) := by decide +kernel
theorem dX9_count_40 : decode cX9_count 40 = .ok (.ireturn, 1) := by decide +kernel
theorem dX9_count_41 : decode cX9_count 41 = .ok (.aload_n 0, 1) := by decide +kernel
theorem dX9_count_42 : decode cX9_count 42 = .ok (.getfield 13, 3) := by decide +kernel
theorem dX9_count_45 : decode cX9_count 45 = .ok (.ireturn, 1) := by decide +kernel
theorem dX9_count_46 : decode cX9_count 46 = .ok (.aload_n 0, 1) := by decide +kernel
theorem dX9_count_47 : decode cX9_count 47 = .ok (.getfield 32, 3) := by decide +kernel
theorem dX9_count_50 : decode cX9_count 50 = .ok (.ireturn, 1) := by decide +kernel
theorem dX9_count_51 : decode cX9_count 51 = .ok (.aload_n 0, 1) := by decide +kernel
theorem dX9_count_52 : decode cX9_count 52 = .ok (.getfield 35, 3) := by decide +kernel
theorem dX9_count_55 : decode cX9_count 55 = .ok (.ireturn, 1) := by decide +kernel
theorem dX9_count_56 : decode cX9_count 56 = .ok (.aload_n 0, 1) := by decide +kernel
theorem dX9_count_57 : decode cX9_count 57 = .ok (.getfield 125, 3) := by decide +kernel
theorem dX9_count_60 : decode cX9_count 60 = .ok (.ireturn, 1) := by decide +kernel
theorem dX9_count_61 : decode cX9_count 61 = .ok (.bipush (-2), 2) := by decide +kernel
theorem dX9_count_63 : decode cX9_count 63 = .ok (.ireturn, 1) := by decide +kernel
theorem dX9_isTape_0 : decode cX9_isTape 0 = .ok (.aload_n 0, 1) := by decide +kernel
theorem dX9_isTape_1 : decode cX9_isTape 1 = .ok (.iload_n 1, 1) := by decide +kernel
theorem dX9_isTape_2 : decode cX9_isTape 2 = .ok (.iconst 0, 1) := by decide +kernel
theorem dX9_isTape_3 : decode cX9_isTape 3 = .ok (.iconst 5, 1) := by decide +kernel
theorem dX9_isTape_4 : decode cX9_isTape 4 = .ok (.invokevirtual 144, 3) := by decide +kernel
theorem dX9_isTape_7 : decode cX9_isTape 7 = .ok (.ireturn, 1) := by decide +kernel
theorem dX9_tape_0 : decode cX9_tape 0 = .ok (.aload_n 0, 1) := by decide +kernel
theorem dX9_tape_1 : decode cX9_tape 1 = .ok (.iload_n 1, 1) := by decide +kernel
theorem dX9_tape_2 : decode cX9_tape 2 = .ok (.invokevirtual 322, 3) := by decide +kernel
theorem dX9_tape_5 : decode cX9_tape 5 = .ok (.ifCond .ne 5, 3) := by decide +kernel
theorem dX9_tape_8 : decode cX9_tape 8 = .ok (.iconst (-1), 1) := by decide +kernel
theorem dX9_tape_9 : decode cX9_tape 9 = .ok (.ireturn, 1) := by decide +kernel
theorem dX9_tape_10 : decode cX9_tape 10 = .ok (.aload_n 0, 1) := by decide +kernel
theorem dX9_tape_11 : decode cX9_tape 11 = .ok (.iload_n 2, 1) := by decide +kernel
theorem dX9_tape_12 : decode cX9_tape 12 = .ok (.iconst (-1), 1) := by decide +kernel
theorem dX9_tape_13 : decode cX9_tape 13 = .ok (.iconst 4, 1) := by decide +kernel
theorem dX9_tape_14 : decode cX9_tape 14 = .ok (.invokevirtual 144, 3) := by decide +kernel
theorem dX9_tape_17 : decode cX9_tape 17 = .ok (.ifCond .eq 13, 3) := by decide +kernel
theorem dX9_tape_20 : decode cX9_tape 20 = .ok (.iload_n 2, 1) := by decide +kernel
theorem dX9_tape_21 : decode cX9_tape 21 = .ok (.ifCond .lt 12, 3) := by decide +kernel
theorem dX9_tape_24 : decode cX9_tape 24 = .ok (.iload_n 3, 1) := by decide +kernel
theorem dX9_tape_25 : decode cX9_tape 25 = .ok (.bipush 60, 2) := by decide +kernel
theorem dX9_tape_27 : decode cX9_tape 27 = .ok (.if_icmp .le 6, 3) := by decide +kernel
theorem dX9_tape_30 : decode cX9_tape 30 = .ok (.bipush (-2), 2) := by decide +kernel
theorem dX9_tape_32 : decode cX9_tape 32 = .ok (.ireturn, 1) := by decide +kernel
theorem dX9_tape_33 : decode cX9_tape 33 = .ok (.iload_n 2, 1) := by decide +kernel
theorem dX9_tape_34 : decode cX9_tape 34 = .ok (.ifCond .lt 10, 3) := by decide +kernel
theorem dX9_tape_37 : decode cX9_tape 37 = .ok (.iload_n 3, 1) := by decide +kernel
theorem dX9_tape_38 : decode cX9_tape 38 = .ok (.ifCond .ge 6, 3) := by decide +kernel
theorem dX9_tape_41 : decode cX9_tape 41 = .ok (.bipush (-14), 2) := by decide +kernel
theorem dX9_tape_43 : decode cX9_tape 43 = .ok (.ireturn, 1) := by decide +kernel
theorem dX9_tape_44 : decode cX9_tape 44 = .ok (.aload_n 0, 1) := by decide +kernel
theorem dX9_tape_45 : decode cX9_tape 45 = .ok (.getfield 131, 3) := by decide +kernel
theorem dX9_tape_48 : decode cX9_tape 48 = .ok (.iload_n 1, 1) := by decide +kernel
theorem dX9_tape_49 : decode cX9_tape 49 = .ok (.iload_n 2, 1) := by decide +kernel
theorem dX9_tape_50 : decode cX9_tape 50 = .ok (.iastore, 1) := by decide +kernel
theorem dX9_tape_51 : decode cX9_tape 51 = .ok (.aload_n 0, 1) := by decide +kernel
theorem dX9_tape_52 : decode cX9_tape 52 = .ok (.getfield 134, 3) := by decide +kernel
theorem dX9_tape_55 : decode cX9_tape 55 = .ok (.iload_n 1, 1) := by decide +kernel
theorem dX9_tape_56 : decode cX9_tape 56 = .ok (.iload_n 2, 1) := by decide +kernel
theorem dX9_tape_57 : decode cX9_tape 57 = .ok (.ifCond .ge 7, 3) := by decide +kernel
theorem dX9_tape_60 : decode cX9_tape 60 = .ok (.iconst 0, 1) := by decide +kernel
theorem dX9_tape_61 : decode cX9_tape 61 = .ok (.goto 4, 3) := by decide +kernel
theorem dX9_tape_64 : decode cX9_tape 64 = .ok (.iload_n 3, 1) := by decide +kernel
theorem dX9_tape_65 : decode cX9_tape 65 = .ok (.iastore, 1) := by decide +kernel
theorem dX9_tape_66 : decode cX9_tape 66 = .ok (.iconst 0, 1) := by decide +kernel
theorem dX9_tape_67 : decode cX9_tape 67 = .ok (.istore 4, 2) := by decide +kernel
theorem dX9_tape_69 : decode cX9_tape 69 = .ok (.iload 4, 2) := by decide +kernel
theorem dX9_tape_71 : decode cX9_tape 71 = .ok (.bipush 60, 2) := by decide +kernel
theorem dX9_tape_73 : decode cX9_tape 73 = .ok (.if_icmp .ge 22, 3) := by decide +kernel
theorem dX9_tape_76 : decode cX9_tape 76 = .ok (.aload_n 0, 1) := by decide +kernel
theorem dX9_tape_77 : decode cX9_tape 77 = .ok (.getfield 137, 3) := by decide +kernel
theorem dX9_tape_80 : decode cX9_tape 80 = .ok (.bipush 60, 2) := by decide +kernel
theorem dX9_tape_82 : decode cX9_tape 82 = .ok (.iload_n 1, 1) := by decide +kernel
theorem dX9_tape_83 : decode cX9_tape 83 = .ok (.imul, 1) := by decide +kernel
theorem dX9_tape_84 : decode cX9_tape 84 = .ok (.iload 4, 2) := by decide +kernel
theorem dX9_tape_86 : decode cX9_tape 86 = .ok (.iadd, 1) := by decide +kernel
theorem dX9_tape_87 : decode cX9_tape 87 = .ok (.lconst 0, 1) := by decide +kernel
theorem dX9_tape_88 : decode cX9_tape 88 = .ok (.lastore, 1) := by decide +kernel
theorem dX9_tape_89 : decode cX9_tape 89 = .ok (.iinc 4 1, 3) := by decide +kernel
theorem dX9_tape_92 : decode cX9_tape 92 = .ok (.goto (-23), 3) := by decide +kernel
theorem dX9_tape_95 : decode cX9_tape 95 = .ok (.iconst 1, 1) := by decide +kernel
theorem dX9_tape_96 : decode cX9_tape 96 = .ok (.ireturn, 1) := by decide +kernel
theorem dX9_narrow_0 : decode cX9_narrow 0 = .ok (.iload_n 1, 1) := by decide +kernel
theorem dX9_narrow_1 : decode cX9_narrow 1 = .ok (.ifCond .ne 10, 3) := by decide +kernel
theorem dX9_narrow_4 : decode cX9_narrow 4 = .ok (.lload_n 2, 1) := by decide +kernel
theorem dX9_narrow_5 : decode cX9_narrow 5 = .ok (.l2i, 1) := by decide +kernel
theorem dX9_narrow_6 : decode cX9_narrow 6 = .ok (.i2b, 1) := by decide +kernel
theorem dX9_narrow_7 : decode cX9_narrow 7 = .ok (.i2l, 1) := by decide +kernel
theorem dX9_narrow_8 : decode cX9_narrow 8 = .ok (.goto 46, 3) := by decide +kernel
theorem dX9_narrow_11 : decode cX9_narrow 11 = .ok (.iload_n 1, 1) := by decide +kernel
theorem dX9_narrow_12 : decode cX9_narrow 12 = .ok (.iconst 1, 1) := by decide +kernel
theorem dX9_narrow_13 : decode cX9_narrow 13 = .ok (.if_icmp .ne 10, 3) := by decide +kernel
theorem dX9_narrow_16 : decode cX9_narrow 16 = .ok (.lload_n 2, 1) := by decide +kernel
theorem dX9_narrow_17 : decode cX9_narrow 17 = .ok (.l2i, 1) := by decide +kernel
theorem dX9_narrow_18 : decode cX9_narrow 18 = .ok (.i2s, 1) := by decide +kernel
theorem dX9_narrow_19 : decode cX9_narrow 19 = .ok (.i2l, 1) := by decide +kernel
theorem dX9_narrow_20 : decode cX9_narrow 20 = .ok (.goto 34, 3) := by decide +kernel
theorem dX9_narrow_23 : decode cX9_narrow 23 = .ok (.iload_n 1, 1) := by decide +kernel
theorem dX9_narrow_24 : decode cX9_narrow 24 = .ok (.iconst 2, 1) := by decide +kernel
theorem dX9_narrow_25 : decode cX9_narrow 25 = .ok (.if_icmp .ne 9, 3) := by decide +kernel
theorem dX9_narrow_28 : decode cX9_narrow 28 = .ok (.lload_n 2, 1) := by decide +kernel
theorem dX9_narrow_29 : decode cX9_narrow 29 = .ok (.l2i, 1) := by decide +kernel
theorem dX9_narrow_30 : decode cX9_narrow 30 = .ok (.i2l, 1) := by decide +kernel
theorem dX9_narrow_31 : decode cX9_narrow 31 = .ok (.goto 23, 3) := by decide +kernel
theorem dX9_narrow_34 : decode cX9_narrow 34 = .ok (.iload_n 1, 1) := by decide +kernel
theorem dX9_narrow_35 : decode cX9_narrow 35 = .ok (.iconst 4, 1) := by decide +kernel
theorem dX9_narrow_36 : decode cX9_narrow 36 = .ok (.if_icmp .ne 17, 3) := by decide +kernel
theorem dX9_narrow_39 : decode cX9_narrow 39 = .ok (.lload_n 2, 1) := by decide +kernel
theorem dX9_narrow_40 : decode cX9_narrow 40 = .ok (.lconst 0, 1) := by decide +kernel
theorem dX9_narrow_41 : decode cX9_narrow 41 = .ok (.lcmp, 1) := by decide +kernel
theorem dX9_narrow_42 : decode cX9_narrow 42 = .ok (.ifCond .eq 7, 3) := by decide +kernel
theorem dX9_narrow_45 : decode cX9_narrow 45 = .ok (.lconst 1, 1) := by decide +kernel
theorem dX9_narrow_46 : decode cX9_narrow 46 = .ok (.goto 8, 3) := by decide +kernel
theorem dX9_narrow_49 : decode cX9_narrow 49 = .ok (.lconst 0, 1) := by decide +kernel
theorem dX9_narrow_50 : decode cX9_narrow 50 = .ok (.goto 4, 3) := by decide +kernel
theorem dX9_narrow_53 : decode cX9_narrow 53 = .ok (.lload_n 2, 1) := by decide +kernel
theorem dX9_narrow_54 : decode cX9_narrow 54 = .ok (.lreturn, 1) := by decide +kernel
theorem dX9_item_0 : decode cX9_item 0 = .ok (.aload_n 0, 1) := by decide +kernel
theorem dX9_item_1 : decode cX9_item 1 = .ok (.iload_n 1, 1) := by decide +kernel
theorem dX9_item_2 : decode cX9_item 2 = .ok (.invokevirtual 322, 3) := by decide +kernel
theorem dX9_item_5 : decode cX9_item 5 = .ok (.ifCond .ne 5, 3) := by decide +kernel
theorem dX9_item_8 : decode cX9_item 8 = .ok (.iconst (-1), 1) := by decide +kernel
theorem dX9_item_9 : decode cX9_item 9 = .ok (.ireturn, 1) := by decide +kernel
theorem dX9_item_10 : decode cX9_item 10 = .ok (.aload_n 0, 1) := by decide +kernel
theorem dX9_item_11 : decode cX9_item 11 = .ok (.getfield 131, 3) := by decide +kernel
theorem dX9_item_14 : decode cX9_item 14 = .ok (.iload_n 1, 1) := by decide +kernel
theorem dX9_item_15 : decode cX9_item 15 = .ok (.iaload, 1) := by decide +kernel
theorem dX9_item_16 : decode cX9_item 16 = .ok (.ifCond .ge 6, 3) := by decide +kernel
theorem dX9_item_19 : decode cX9_item 19 = .ok (.bipush (-11), 2) := by decide +kernel
theorem dX9_item_21 : decode cX9_item 21 = .ok (.ireturn, 1) := by decide +kernel
theorem dX9_item_22 : decode cX9_item 22 = .ok (.aload_n 0, 1) := by decide +kernel
theorem dX9_item_23 : decode cX9_item 23 = .ok (.iload_n 2, 1) := by decide +kernel
theorem dX9_item_24 : decode cX9_item 24 = .ok (.iconst 0, 1) := by decide +kernel
theorem dX9_item_25 : decode cX9_item 25 = .ok (.aload_n 0, 1) := by decide +kernel
theorem dX9_item_26 : decode cX9_item 26 = .ok (.getfield 134, 3) := by decide +kernel
theorem dX9_item_29 : decode cX9_item 29 = .ok (.iload_n 1, 1) := by decide +kernel
theorem dX9_item_30 : decode cX9_item 30 = .ok (.iaload, 1) := by decide +kernel
theorem dX9_item_31 : decode cX9_item 31 = .ok (.iconst 1, 1) := by decide +kernel
theorem dX9_item_32 : decode cX9_item 32 = .ok (.isub, 1) := by decide +kernel
theorem dX9_item_33 : decode cX9_item 33 = .ok (.invokevirtual 144, 3) := by decide +kernel
theorem dX9_item_36 : decode cX9_item 36 = .ok (.ifCond .ne 6, 3) := by decide +kernel
theorem dX9_item_39 : decode cX9_item 39 = .ok (.bipush (-13), 2) := by decide +kernel
theorem dX9_item_41 : decode cX9_item 41 = .ok (.ireturn, 1) := by decide +kernel
theorem dX9_item_42 : decode cX9_item 42 = .ok (.aload_n 0, 1) := by decide +kernel
theorem dX9_item_43 : decode cX9_item 43 = .ok (.getfield 137, 3) := by decide +kernel
theorem dX9_item_46 : decode cX9_item 46 = .ok (.bipush 60, 2) := by decide +kernel
theorem dX9_item_48 : decode cX9_item 48 = .ok (.iload_n 1, 1) := by decide +kernel
theorem dX9_item_49 : decode cX9_item 49 = .ok (.imul, 1) := by decide +kernel
theorem dX9_item_50 : decode cX9_item 50 = .ok (.iload_n 2, 1) := by decide +kernel
theorem dX9_item_51 : decode cX9_item 51 = .ok (.iadd, 1) := by decide +kernel
theorem dX9_item_52 : decode cX9_item 52 = .ok (.aload_n 0, 1) := by decide +kernel
theorem dX9_item_53 : decode cX9_item 53 = .ok (.aload_n 0, 1) := by decide +kernel
theorem dX9_item_54 : decode cX9_item 54 = .ok (.getfield 131, 3) := by decide +kernel
theorem dX9_item_57 : decode cX9_item 57 = .ok (.iload_n 1, 1) := by decide +kernel
theorem dX9_item_58 : decode cX9_item 58 = .ok (.iaload, 1) := by decide +kernel
theorem dX9_item_59 : decode cX9_item 59 = .ok (.lload_n 3, 1) := by decide +kernel
theorem dX9_item_60 : decode cX9_item 60 = .ok (.invokevirtual 349, 3) := by decide +kernel
theorem dX9_item_63 : decode cX9_item 63 = .ok (.lastore, 1) := by decide +kernel
theorem dX9_item_64 : decode cX9_item 64 = .ok (.iconst 1, 1) := by decide +kernel
theorem dX9_item_65 : decode cX9_item 65 = .ok (.ireturn, 1) := by decide +kernel
theorem dX9_read_0 : decode cX9_read 0 = .ok (.aload_n 0, 1) := by decide +kernel
theorem dX9_read_1 : decode cX9_read 1 = .ok (.iload_n 1, 1) := by decide +kernel
theorem dX9_read_2 : decode cX9_read 2 = .ok (.invokevirtual 322, 3) := by decide +kernel
theorem dX9_read_5 : decode cX9_read 5 = .ok (.ifCond .eq 29, 3) := by decide +kernel
theorem dX9_read_8 : decode cX9_read 8 = .ok (.aload_n 0, 1) := by decide +kernel
theorem dX9_read_9 : decode cX9_read 9 = .ok (.getfield 131, 3) := by decide +kernel
theorem dX9_read_12 : decode cX9_read 12 = .ok (.iload_n 1, 1) := by decide +kernel
theorem dX9_read_13 : decode cX9_read 13 = .ok (.iaload, 1) := by decide +kernel
theorem dX9_read_14 : decode cX9_read 14 = .ok (.ifCond .lt 20, 3) := by decide +kernel
theorem dX9_read_17 : decode cX9_read 17 = .ok (.aload_n 0, 1) := by decide +kernel
theorem dX9_read_18 : decode cX9_read 18 = .ok (.iload_n 2, 1) := by decide +kernel
theorem dX9_read_19 : decode cX9_read 19 = .ok (.iconst 0, 1) := by decide +kernel
theorem dX9_read_20 : decode cX9_read 20 = .ok (.aload_n 0, 1) := by decide +kernel
theorem dX9_read_21 : decode cX9_read 21 = .ok (.getfield 134, 3) := by decide +kernel
theorem dX9_read_24 : decode cX9_read 24 = .ok (.iload_n 1, 1) := by decide +kernel
theorem dX9_read_25 : decode cX9_read 25 = .ok (.iaload, 1) := by decide +kernel
theorem dX9_read_26 : decode cX9_read 26 = .ok (.iconst 1, 1) := by decide +kernel
theorem dX9_read_27 : decode cX9_read 27 = .ok (.isub, 1) := by decide +kernel
theorem dX9_read_28 : decode cX9_read 28 = .ok (.invokevirtual 144, 3) := by decide +kernel
theorem dX9_read_31 : decode cX9_read 31 = .ok (.ifCond .ne 9, 3) := by decide +kernel
theorem dX9_read_34 : decode cX9_read 34 = .ok (.ldc2_w 277, 3) := by decide +kernel
theorem dX9_read_37 : decode cX9_read 37 = .ok (.goto 14, 3) := by decide +kernel
theorem dX9_read_40 : decode cX9_read 40 = .ok (.aload_n 0, 1) := by decide +kernel
theorem dX9_read_41 : decode cX9_read 41 = .ok (.getfield 137, 3) := by decide +kernel
theorem dX9_read_44 : decode cX9_read 44 = .ok (.bipush 60, 2) := by decide +kernel
theorem dX9_read_46 : decode cX9_read 46 = .ok (.iload_n 1, 1) := by decide +kernel
theorem dX9_read_47 : decode cX9_read 47 = .ok (.imul, 1) := by decide +kernel
theorem dX9_read_48 : decode cX9_read 48 = .ok (.iload_n 2, 1) := by decide +kernel
theorem dX9_read_49 : decode cX9_read 49 = .ok (.iadd, 1) := by decide +kernel
theorem dX9_read_50 : decode cX9_read 50 = .ok (.laload, 1) := by decide +kernel
theorem dX9_read_51 : decode cX9_read 51 = .ok (.lreturn, 1) := by decide +kernel
theorem dX9_shift_0 : decode cX9_shift 0 = .ok (.aload_n 0, 1) := by decide +kernel
theorem dX9_shift_1 : decode cX9_shift 1 = .ok (.iload_n 1, 1) := by decide +kernel
theorem dX9_shift_2 : decode cX9_shift 2 = .ok (.invokevirtual 322, 3) := by decide +kernel
theorem dX9_shift_5 : decode cX9_shift 5 = .ok (.ifCond .eq 11, 3) := by decide +kernel
theorem dX9_shift_8 : decode cX9_shift 8 = .ok (.aload_n 0, 1) := by decide +kernel
theorem dX9_shift_9 : decode cX9_shift 9 = .ok (.iload_n 3, 1) := by decide +kernel
theorem dX9_shift_10 : decode cX9_shift 10 = .ok (.invokevirtual 322, 3) := by decide +kernel
theorem dX9_shift_13 : decode cX9_shift 13 = .ok (.ifCond .ne 5, 3) := by decide +kernel
theorem dX9_shift_16 : decode cX9_shift 16 = .ok (.iconst (-1), 1) := by decide +kernel
theorem dX9_shift_17 : decode cX9_shift 17 = .ok (.ireturn, 1) := by decide +kernel
theorem dX9_shift_18 : decode cX9_shift 18 = .ok (.aload_n 0, 1) := by decide +kernel
theorem dX9_shift_19 : decode cX9_shift 19 = .ok (.getfield 131, 3) := by decide +kernel
theorem dX9_shift_22 : decode cX9_shift 22 = .ok (.iload_n 1, 1) := by decide +kernel
theorem dX9_shift_23 : decode cX9_shift 23 = .ok (.iaload, 1) := by decide +kernel
theorem dX9_shift_24 : decode cX9_shift 24 = .ok (.ifCond .lt 12, 3) := by decide +kernel
theorem dX9_shift_27 : decode cX9_shift 27 = .ok (.aload_n 0, 1) := by decide +kernel
theorem dX9_shift_28 : decode cX9_shift 28 = .ok (.getfield 131, 3) := by decide +kernel
theorem dX9_shift_31 : decode cX9_shift 31 = .ok (.iload_n 3, 1) := by decide +kernel
theorem dX9_shift_32 : decode cX9_shift 32 = .ok (.iaload, 1) := by decide +kernel
theorem dX9_shift_33 : decode cX9_shift 33 = .ok (.ifCond .ge 6, 3) := by decide +kernel
theorem dX9_shift_36 : decode cX9_shift 36 = .ok (.bipush (-11), 2) := by decide +kernel
theorem dX9_shift_38 : decode cX9_shift 38 = .ok (.ireturn, 1) := by decide +kernel
theorem dX9_shift_39 : decode cX9_shift 39 = .ok (.aload_n 0, 1) := by decide +kernel
theorem dX9_shift_40 : decode cX9_shift 40 = .ok (.getfield 131, 3) := by decide +kernel
theorem dX9_shift_43 : decode cX9_shift 43 = .ok (.iload_n 1, 1) := by decide +kernel
theorem dX9_shift_44 : decode cX9_shift 44 = .ok (.iaload, 1) := by decide +kernel
theorem dX9_shift_45 : decode cX9_shift 45 = .ok (.aload_n 0, 1) := by decide +kernel
theorem dX9_shift_46 : decode cX9_shift 46 = .ok (.getfield 131, 3) := by decide +kernel
theorem dX9_shift_49 : decode cX9_shift 49 = .ok (.iload_n 3, 1) := by decide +kernel
theorem dX9_shift_50 : decode cX9_shift 50 = .ok (.iaload, 1) := by decide +kernel
theorem dX9_shift_51 : decode cX9_shift 51 = .ok (.if_icmp .eq 6, 3) := by decide +kernel
theorem dX9_shift_54 : decode cX9_shift 54 = .ok (.bipush (-12), 2) := by decide +kernel
theorem dX9_shift_56 : decode cX9_shift 56 = .ok (.ireturn, 1) := by decide +kernel
theorem dX9_shift_57 : decode cX9_shift 57 = .ok (.iload 5, 2) := by decide +kernel
theorem dX9_shift_59 : decode cX9_shift 59 = .ok (.ifCond .lt 39, 3) := by decide +kernel
theorem dX9_shift_62 : decode cX9_shift 62 = .ok (.iload_n 2, 1) := by decide +kernel
theorem dX9_shift_63 : decode cX9_shift 63 = .ok (.ifCond .lt 35, 3) := by decide +kernel
theorem dX9_shift_66 : decode cX9_shift 66 = .ok (.iload 4, 2) := by decide +kernel
theorem dX9_shift_68 : decode cX9_shift 68 = .ok (.ifCond .lt 30, 3) := by decide +kernel
theorem dX9_shift_71 : decode cX9_shift 71 = .ok (.iload_n 2, 1) := by decide +kernel
theorem dX9_shift_72 : decode cX9_shift 72 = .ok (.aload_n 0, 1) := by decide +kernel
theorem dX9_shift_73 : decode cX9_shift 73 = .ok (.getfield 134, 3) := by decide +kernel
theorem dX9_shift_76 : decode cX9_shift 76 = .ok (.iload_n 1, 1) := by decide +kernel
theorem dX9_shift_77 : decode cX9_shift 77 = .ok (.iaload, 1) := by decide +kernel
theorem dX9_shift_78 : decode cX9_shift 78 = .ok (.iload 5, 2) := by decide +kernel
theorem dX9_shift_80 : decode cX9_shift 80 = .ok (.isub, 1) := by decide +kernel
theorem dX9_shift_81 : decode cX9_shift 81 = .ok (.if_icmp .gt 17, 3) := by decide +kernel
theorem dX9_shift_84 : decode cX9_shift 84 = .ok (.iload 4, 2) := by decide +kernel
theorem dX9_shift_86 : decode cX9_shift 86 = .ok (.aload_n 0, 1) := by decide +kernel
theorem dX9_shift_87 : decode cX9_shift 87 = .ok (.getfield 134, 3) := by decide +kernel
theorem dX9_shift_90 : decode cX9_shift 90 = .ok (.iload_n 3, 1) := by decide +kernel
theorem dX9_shift_91 : decode cX9_shift 91 = .ok (.iaload, 1) := by decide +kernel
theorem dX9_shift_92 : decode cX9_shift 92 = .ok (.iload 5, 2) := by decide +kernel
theorem dX9_shift_94 : decode cX9_shift 94 = .ok (.isub, 1) := by decide +kernel
theorem dX9_shift_95 : decode cX9_shift 95 = .ok (.if_icmp .le 6, 3) := by decide +kernel
theorem dX9_shift_98 : decode cX9_shift 98 = .ok (.bipush (-13), 2) := by decide +kernel
theorem dX9_shift_100 : decode cX9_shift 100 = .ok (.ireturn, 1) := by decide +kernel
theorem dX9_shift_101 : decode cX9_shift 101 = .ok (.iconst 0, 1) := by decide +kernel
theorem dX9_shift_102 : decode cX9_shift 102 = .ok (.istore 6, 2) := by decide +kernel
theorem dX9_shift_104 : decode cX9_shift 104 = .ok (.iload 6, 2) := by decide +kernel
theorem dX9_shift_106 : decode cX9_shift 106 = .ok (.iload 5, 2) := by decide +kernel
theorem dX9_shift_108 : decode cX9_shift 108 = .ok (.if_icmp .ge 30, 3) := by decide +kernel
theorem dX9_shift_111 : decode cX9_shift 111 = .ok (.aload_n 0, 1) := by decide +kernel
theorem dX9_shift_112 : decode cX9_shift 112 = .ok (.getfield 141, 3) := by decide +kernel
theorem dX9_shift_115 : decode cX9_shift 115 = .ok (.iload 6, 2) := by decide +kernel
theorem dX9_shift_117 : decode cX9_shift 117 = .ok (.aload_n 0, 1) := by decide +kernel
theorem dX9_shift_118 : decode cX9_shift 118 = .ok (.getfield 137, 3) := by decide +kernel
theorem dX9_shift_121 : decode cX9_shift 121 = .ok (.bipush 60, 2) := by decide +kernel
theorem dX9_shift_123 : decode cX9_shift 123 = .ok (.iload_n 1, 1) := by decide +kernel
theorem dX9_shift_124 : decode cX9_shift 124 = .ok (.imul, 1) := by decide +kernel
theorem dX9_shift_125 : decode cX9_shift 125 = .ok (.iload_n 2, 1) := by decide +kernel
theorem dX9_shift_126 : decode cX9_shift 126 = .ok (.iadd, 1) := by decide +kernel
theorem dX9_shift_127 : decode cX9_shift 127 = .ok (.iload 6, 2) := by decide +kernel
theorem dX9_shift_129 : decode cX9_shift 129 = .ok (.iadd, 1) := by decide +kernel
theorem dX9_shift_130 : decode cX9_shift 130 = .ok (.laload, 1) := by decide +kernel
theorem dX9_shift_131 : decode cX9_shift 131 = .ok (.lastore, 1) := by decide +kernel
theorem dX9_shift_132 : decode cX9_shift 132 = .ok (.iinc 6 1, 3) := by decide +kernel
theorem dX9_shift_135 : decode cX9_shift 135 = .ok (.goto (-31), 3) := by decide +kernel
theorem dX9_shift_138 : decode cX9_shift 138 = .ok (.iconst 0, 1) := by decide +kernel
theorem dX9_shift_139 : decode cX9_shift 139 = .ok (.istore 6, 2) := by decide +kernel
theorem dX9_shift_141 : decode cX9_shift 141 = .ok (.iload 6, 2) := by decide +kernel
theorem dX9_shift_143 : decode cX9_shift 143 = .ok (.iload 5, 2) := by decide +kernel
theorem dX9_shift_145 : decode cX9_shift 145 = .ok (.if_icmp .ge 31, 3) := by decide +kernel
theorem dX9_shift_148 : decode cX9_shift 148 = .ok (.aload_n 0, 1) := by decide +kernel
theorem dX9_shift_149 : decode cX9_shift 149 = .ok (.getfield 137, 3) := by decide +kernel
theorem dX9_shift_152 : decode cX9_shift 152 = .ok (.bipush 60, 2) := by decide +kernel
theorem dX9_shift_154 : decode cX9_shift 154 = .ok (.iload_n 3, 1) := by decide +kernel
theorem dX9_shift_155 : decode cX9_shift 155 = .ok (.imul, 1) := by decide +kernel
theorem dX9_shift_156 : decode cX9_shift 156 = .ok (.iload 4, 2) := by decide +kernel
theorem dX9_shift_158 : decode cX9_shift 158 = .ok (.iadd, 1) := by decide +kernel
theorem dX9_shift_159 : decode cX9_shift 159 = .ok (.iload 6, 2) := by decide +kernel
theorem dX9_shift_161 : decode cX9_shift 161 = .ok (.iadd, 1) := by decide +kernel
theorem dX9_shift_162 : decode cX9_shift 162 = .ok (.aload_n 0, 1) := by decide +kernel
theorem dX9_shift_163 : decode cX9_shift 163 = .ok (.getfield 141, 3) := by decide +kernel
theorem dX9_shift_166 : decode cX9_shift 166 = .ok (.iload 6, 2) := by decide +kernel
theorem dX9_shift_168 : decode cX9_shift 168 = .ok (.laload, 1) := by decide +kernel
theorem dX9_shift_169 : decode cX9_shift 169 = .ok (.lastore, 1) := by decide +kernel
theorem dX9_shift_170 : decode cX9_shift 170 = .ok (.iinc 6 1, 3) := by decide +kernel
theorem dX9_shift_173 : decode cX9_shift 173 = .ok (.goto (-32), 3) := by decide +kernel
theorem dX9_shift_176 : decode cX9_shift 176 = .ok (.iload 5, 2) := by decide +kernel
theorem dX9_shift_178 : decode cX9_shift 178 = .ok (.ireturn, 1) := by decide +kernel
theorem dJ11_isValidCodePoint_9a6ad_0 : decode cJ11_isValidCodePoint_9a6ad 0 = .ok (.iload_n 0, 1) := by decide +kernel
theorem dJ11_isValidCodePoint_9a6ad_1 : decode cJ11_isValidCodePoint_9a6ad 1 = .ok (.bipush 16, 2) := by decide +kernel
theorem dJ11_isValidCodePoint_9a6ad_3 : decode cJ11_isValidCodePoint_9a6ad 3 = .ok (.iushr, 1) := by decide +kernel
theorem dJ11_isValidCodePoint_9a6ad_4 : decode cJ11_isValidCodePoint_9a6ad 4 = .ok (.istore_n 1, 1) := by decide +kernel
theorem dJ11_isValidCodePoint_9a6ad_5 : decode cJ11_isValidCodePoint_9a6ad 5 = .ok (.iload_n 1, 1) := by decide +kernel
theorem dJ11_isValidCodePoint_9a6ad_6 : decode cJ11_isValidCodePoint_9a6ad 6 = .ok (.bipush 17, 2) := by decide +kernel
theorem dJ11_isValidCodePoint_9a6ad_8 : decode cJ11_isValidCodePoint_9a6ad 8 = .ok (.if_icmp .ge 7, 3) := by decide +kernel
theorem dJ11_isValidCodePoint_9a6ad_11 : decode cJ11_isValidCodePoint_9a6ad 11 = .ok (.iconst 1, 1) := by decide +kernel
theorem dJ11_isValidCodePoint_9a6ad_12 : decode cJ11_isValidCodePoint_9a6ad 12 = .ok (.goto 4, 3) := by decide +kernel
theorem dJ11_isValidCodePoint_9a6ad_15 : decode cJ11_isValidCodePoint_9a6ad 15 = .ok (.iconst 0, 1) := by decide +kernel
theorem dJ11_isValidCodePoint_9a6ad_16 : decode cJ11_isValidCodePoint_9a6ad 16 = .ok (.ireturn, 1) := by decide +kernel
theorem dJ11_highSurrogate_5068e_0 : decode cJ11_highSurrogate_5068e 0 = .ok (.iload_n 0, 1) := by decide +kernel
theorem dJ11_highSurrogate_5068e_1 : decode cJ11_highSurrogate_5068e 1 = .ok (.bipush 10, 2) := by decide +kernel
theorem dJ11_highSurrogate_5068e_3 : decode cJ11_highSurrogate_5068e 3 = .ok (.iushr, 1) := by decide +kernel
theorem dJ11_highSurrogate_5068e_4 : decode cJ11_highSurrogate_5068e 4 = .ok (.ldc 110, 2) := by decide +kernel
theorem dJ11_highSurrogate_5068e_6 : decode cJ11_highSurrogate_5068e 6 = .ok (.iadd, 1) := by decide +kernel
theorem dJ11_highSurrogate_5068e_7 : decode cJ11_highSurrogate_5068e 7 = .ok (.i2c, 1) := by decide +kernel
theorem dJ11_highSurrogate_5068e_8 : decode cJ11_highSurrogate_5068e 8 = .ok (.ireturn, 1) := by decide +kernel
theorem dJ11_lowSurrogate_5068e_0 : decode cJ11_lowSurrogate_5068e 0 = .ok (.iload_n 0, 1) := by decide +kernel
theorem dJ11_lowSurrogate_5068e_1 : decode cJ11_lowSurrogate_5068e 1 = .ok (.sipush 1023, 3) := by decide +kernel
theorem dJ11_lowSurrogate_5068e_4 : decode cJ11_lowSurrogate_5068e 4 = .ok (.iand, 1) := by decide +kernel
theorem dJ11_lowSurrogate_5068e_5 : decode cJ11_lowSurrogate_5068e 5 = .ok (.ldc 76, 2) := by decide +kernel
theorem dJ11_lowSurrogate_5068e_7 : decode cJ11_lowSurrogate_5068e 7 = .ok (.iadd, 1) := by decide +kernel
theorem dJ11_lowSurrogate_5068e_8 : decode cJ11_lowSurrogate_5068e 8 = .ok (.i2c, 1) := by decide +kernel
theorem dJ11_lowSurrogate_5068e_9 : decode cJ11_lowSurrogate_5068e 9 = .ok (.ireturn, 1) := by decide +kernel
theorem dJ9_abs_067f4_0 : decode cJ9_abs_067f4 0 = .ok (.lload_n 0, 1) := by decide +kernel
theorem dJ9_abs_067f4_1 : decode cJ9_abs_067f4 1 = .ok (.lconst 0, 1) := by decide +kernel
theorem dJ9_abs_067f4_2 : decode cJ9_abs_067f4 2 = .ok (.lcmp, 1) := by decide +kernel
theorem dJ9_abs_067f4_3 : decode cJ9_abs_067f4 3 = .ok (.ifCond .ge 8, 3) := by decide +kernel
theorem dJ9_abs_067f4_6 : decode cJ9_abs_067f4 6 = .ok (.lload_n 0, 1) := by decide +kernel
theorem dJ9_abs_067f4_7 : decode cJ9_abs_067f4 7 = .ok (.lneg, 1) := by decide +kernel
theorem dJ9_abs_067f4_8 : decode cJ9_abs_067f4 8 = .ok (.goto 4, 3) := by decide +kernel
theorem dJ9_abs_067f4_11 : decode cJ9_abs_067f4 11 = .ok (.lload_n 0, 1) := by decide +kernel
theorem dJ9_abs_067f4_12 : decode cJ9_abs_067f4 12 = .ok (.lreturn, 1) := by decide +kernel
theorem dJ9_max_7cf53_0 : decode cJ9_max_7cf53 0 = .ok (.iload_n 0, 1) := by decide +kernel
theorem dJ9_max_7cf53_1 : decode cJ9_max_7cf53 1 = .ok (.iload_n 1, 1) := by decide +kernel
theorem dJ9_max_7cf53_2 : decode cJ9_max_7cf53 2 = .ok (.if_icmp .lt 7, 3) := by decide +kernel
theorem dJ9_max_7cf53_5 : decode cJ9_max_7cf53 5 = .ok (.iload_n 0, 1) := by decide +kernel
theorem dJ9_max_7cf53_6 : decode cJ9_max_7cf53 6 = .ok (.goto 4, 3) := by decide +kernel
theorem dJ9_max_7cf53_9 : decode cJ9_max_7cf53 9 = .ok (.iload_n 1, 1) := by decide +kernel
theorem dJ9_max_7cf53_10 : decode cJ9_max_7cf53 10 = .ok (.ireturn, 1) := by decide +kernel
theorem dJ9_max_f86c9_0 : decode cJ9_max_f86c9 0 = .ok (.lload_n 0, 1) := by decide +kernel
theorem dJ9_max_f86c9_1 : decode cJ9_max_f86c9 1 = .ok (.lload_n 2, 1) := by decide +kernel
theorem dJ9_max_f86c9_2 : decode cJ9_max_f86c9 2 = .ok (.lcmp, 1) := by decide +kernel
theorem dJ9_max_f86c9_3 : decode cJ9_max_f86c9 3 = .ok (.ifCond .lt 7, 3) := by decide +kernel
theorem dJ9_max_f86c9_6 : decode cJ9_max_f86c9 6 = .ok (.lload_n 0, 1) := by decide +kernel
theorem dJ9_max_f86c9_7 : decode cJ9_max_f86c9 7 = .ok (.goto 4, 3) := by decide +kernel
theorem dJ9_max_f86c9_10 : decode cJ9_max_f86c9 10 = .ok (.lload_n 2, 1) := by decide +kernel
theorem dJ9_max_f86c9_11 : decode cJ9_max_f86c9 11 = .ok (.lreturn, 1) := by decide +kernel
theorem dJ9_min_7cf53_0 : decode cJ9_min_7cf53 0 = .ok (.iload_n 0, 1) := by decide +kernel
theorem dJ9_min_7cf53_1 : decode cJ9_min_7cf53 1 = .ok (.iload_n 1, 1) := by decide +kernel
theorem dJ9_min_7cf53_2 : decode cJ9_min_7cf53 2 = .ok (.if_icmp .gt 7, 3) := by decide +kernel
theorem dJ9_min_7cf53_5 : decode cJ9_min_7cf53 5 = .ok (.iload_n 0, 1) := by decide +kernel
theorem dJ9_min_7cf53_6 : decode cJ9_min_7cf53 6 = .ok (.goto 4, 3) := by decide +kernel
theorem dJ9_min_7cf53_9 : decode cJ9_min_7cf53 9 = .ok (.iload_n 1, 1) := by decide +kernel
theorem dJ9_min_7cf53_10 : decode cJ9_min_7cf53 10 = .ok (.ireturn, 1) := by decide +kernel
theorem dJ9_min_f86c9_0 : decode cJ9_min_f86c9 0 = .ok (.lload_n 0, 1) := by decide +kernel
theorem dJ9_min_f86c9_1 : decode cJ9_min_f86c9 1 = .ok (.lload_n 2, 1) := by decide +kernel
theorem dJ9_min_f86c9_2 : decode cJ9_min_f86c9 2 = .ok (.lcmp, 1) := by decide +kernel
theorem dJ9_min_f86c9_3 : decode cJ9_min_f86c9 3 = .ok (.ifCond .gt 7, 3) := by decide +kernel
theorem dJ9_min_f86c9_6 : decode cJ9_min_f86c9 6 = .ok (.lload_n 0, 1) := by decide +kernel
theorem dJ9_min_f86c9_7 : decode cJ9_min_f86c9 7 = .ok (.goto 4, 3) := by decide +kernel
theorem dJ9_min_f86c9_10 : decode cJ9_min_f86c9 10 = .ok (.lload_n 2, 1) := by decide +kernel
theorem dJ9_min_f86c9_11 : decode cJ9_min_f86c9 11 = .ok (.lreturn, 1) := by decide +kernel
theorem dJ0_length_8abf5_0 : decode cJ0_length_8abf5 0 = .ok (.aload_n 0, 1) := by decide +kernel
theorem dJ0_length_8abf5_1 : decode cJ0_length_8abf5 1 = .ok (.getfield 9, 3) := by decide +kernel
theorem dJ0_length_8abf5_4 : decode cJ0_length_8abf5 4 = .ok (.arraylength, 1) := by decide +kernel
theorem dJ0_length_8abf5_5 : decode cJ0_length_8abf5 5 = .ok (.aload_n 0, 1) := by decide +kernel
theorem dJ0_length_8abf5_6 : decode cJ0_length_8abf5 6 = .ok (.invokevirtual 335, 3) := by decide +kernel
theorem dJ0_length_8abf5_9 : decode cJ0_length_8abf5 9 = .ok (.ishr, 1) := by decide +kernel
theorem dJ0_length_8abf5_10 : decode cJ0_length_8abf5 10 = .ok (.ireturn, 1) := by decide +kernel
theorem dJ0_charAt_5068e_0 : decode cJ0_charAt_5068e 0 = .ok (.aload_n 0, 1) := by decide +kernel
theorem dJ0_charAt_5068e_1 : decode cJ0_charAt_5068e 1 = .ok (.invokevirtual 492, 3) := by decide +kernel
theorem dJ0_charAt_5068e_4 : decode cJ0_charAt_5068e 4 = .ok (.ifCond .eq 12, 3) := by decide +kernel
theorem dJ0_charAt_5068e_7 : decode cJ0_charAt_5068e 7 = .ok (.aload_n 0, 1) := by decide +kernel
theorem dJ0_charAt_5068e_8 : decode cJ0_charAt_5068e 8 = .ok (.getfield 9, 3) := by decide +kernel
theorem dJ0_charAt_5068e_11 : decode cJ0_charAt_5068e 11 = .ok (.iload_n 1, 1) := by decide +kernel
theorem dJ0_charAt_5068e_12 : decode cJ0_charAt_5068e 12 = .ok (.invokestatic 495, 3) := by decide +kernel
theorem dJ0_charAt_5068e_15 : decode cJ0_charAt_5068e 15 = .ok (.ireturn, 1) := by decide +kernel
theorem dJ0_charAt_5068e_16 : decode cJ0_charAt_5068e 16 = .ok (.aload_n 0, 1) := by decide +kernel
theorem dJ0_charAt_5068e_17 : decode cJ0_charAt_5068e 17 = .ok (.getfield 9, 3) := by decide +kernel
theorem dJ0_charAt_5068e_20 : decode cJ0_charAt_5068e 20 = .ok (.iload_n 1, 1) := by decide +kernel
theorem dJ0_charAt_5068e_21 : decode cJ0_charAt_5068e 21 = .ok (.invokestatic 498, 3) := by decide +kernel
theorem dJ0_charAt_5068e_24 : decode cJ0_charAt_5068e 24 = .ok (.ireturn, 1) := by decide +kernel
theorem dJ0_indexOf_0f7a4_0 : decode cJ0_indexOf_0f7a4 0 = .ok (.aload_n 0, 1) := by decide +kernel
theorem dJ0_indexOf_0f7a4_1 : decode cJ0_indexOf_0f7a4 1 = .ok (.iload_n 1, 1) := by decide +kernel
theorem dJ0_indexOf_0f7a4_2 : decode cJ0_indexOf_0f7a4 2 = .ok (.iconst 0, 1) := by decide +kernel
theorem dJ0_indexOf_0f7a4_3 : decode cJ0_indexOf_0f7a4 3 = .ok (.invokevirtual 633, 3) := by decide +kernel
theorem dJ0_indexOf_0f7a4_6 : decode cJ0_indexOf_0f7a4 6 = .ok (.ireturn, 1) := by decide +kernel
theorem dJ0_indexOf_7cf53_0 : decode cJ0_indexOf_7cf53 0 = .ok (.aload_n 0, 1) := by decide +kernel
theorem dJ0_indexOf_7cf53_1 : decode cJ0_indexOf_7cf53 1 = .ok (.invokevirtual 492, 3) := by decide +kernel
theorem dJ0_indexOf_7cf53_4 : decode cJ0_indexOf_7cf53 4 = .ok (.ifCond .eq 19, 3) := by decide +kernel
theorem dJ0_indexOf_7cf53_7 : decode cJ0_indexOf_7cf53 7 = .ok (.aload_n 0, 1) := by decide +kernel
theorem dJ0_indexOf_7cf53_8 : decode cJ0_indexOf_7cf53 8 = .ok (.getfield 9, 3) := by decide +kernel
theorem dJ0_indexOf_7cf53_11 : decode cJ0_indexOf_7cf53 11 = .ok (.iload_n 1, 1) := by decide +kernel
theorem dJ0_indexOf_7cf53_12 : decode cJ0_indexOf_7cf53 12 = .ok (.iload_n 2, 1) := by decide +kernel
theorem dJ0_indexOf_7cf53_13 : decode cJ0_indexOf_7cf53 13 = .ok (.aload_n 0, 1) := by decide +kernel
theorem dJ0_indexOf_7cf53_14 : decode cJ0_indexOf_7cf53 14 = .ok (.invokevirtual 505, 3) := by decide +kernel
theorem dJ0_indexOf_7cf53_17 : decode cJ0_indexOf_7cf53 17 = .ok (.invokestatic 637, 3) := by decide +kernel
theorem dJ0_indexOf_7cf53_20 : decode cJ0_indexOf_7cf53 20 = .ok (.goto 16, 3) := by decide +kernel
theorem dJ0_indexOf_7cf53_23 : decode cJ0_indexOf_7cf53 23 = .ok (.aload_n 0, 1) := by decide +kernel
theorem dJ0_indexOf_7cf53_24 : decode cJ0_indexOf_7cf53 24 = .ok (.getfield 9, 3) := by decide +kernel
theorem dJ0_indexOf_7cf53_27 : decode cJ0_indexOf_7cf53 27 = .ok (.iload_n 1, 1) := by decide +kernel
theorem dJ0_indexOf_7cf53_28 : decode cJ0_indexOf_7cf53 28 = .ok (.iload_n 2, 1) := by decide +kernel
theorem dJ0_indexOf_7cf53_29 : decode cJ0_indexOf_7cf53 29 = .ok (.aload_n 0, 1) := by decide +kernel
theorem dJ0_indexOf_7cf53_30 : decode cJ0_indexOf_7cf53 30 = .ok (.invokevirtual 505, 3) := by decide +kernel
theorem dJ0_indexOf_7cf53_33 : decode cJ0_indexOf_7cf53 33 = .ok (.invokestatic 640, 3) := by decide +kernel
theorem dJ0_indexOf_7cf53_36 : decode cJ0_indexOf_7cf53 36 = .ok (.ireturn, 1) := by decide +kernel
theorem dJ0_coder_7d493_0 : decode cJ0_coder_7d493 0 = .ok (.getstatic 38, 3) := by decide +kernel
theorem dJ0_coder_7d493_3 : decode cJ0_coder_7d493 3 = .ok (.ifCond .eq 10, 3) := by decide +kernel
theorem dJ0_coder_7d493_6 : decode cJ0_coder_7d493 6 = .ok (.aload_n 0, 1) := by decide +kernel
theorem dJ0_coder_7d493_7 : decode cJ0_coder_7d493 7 = .ok (.getfield 15, 3) := by decide +kernel
theorem dJ0_coder_7d493_10 : decode cJ0_coder_7d493 10 = .ok (.goto 4, 3) := by decide +kernel
theorem dJ0_coder_7d493_13 : decode cJ0_coder_7d493 13 = .ok (.iconst 1, 1) := by decide +kernel
theorem dJ0_coder_7d493_14 : decode cJ0_coder_7d493 14 = .ok (.ireturn, 1) := by decide +kernel
theorem dJ0_isLatin1_aae02_0 : decode cJ0_isLatin1_aae02 0 = .ok (.getstatic 38, 3) := by decide +kernel
theorem dJ0_isLatin1_aae02_3 : decode cJ0_isLatin1_aae02 3 = .ok (.ifCond .eq 14, 3) := by decide +kernel
theorem dJ0_isLatin1_aae02_6 : decode cJ0_isLatin1_aae02 6 = .ok (.aload_n 0, 1) := by decide +kernel
theorem dJ0_isLatin1_aae02_7 : decode cJ0_isLatin1_aae02 7 = .ok (.getfield 15, 3) := by decide +kernel
theorem dJ0_isLatin1_aae02_10 : decode cJ0_isLatin1_aae02 10 = .ok (.ifCond .ne 7, 3) := by decide +kernel
theorem dJ0_isLatin1_aae02_13 : decode cJ0_isLatin1_aae02 13 = .ok (.iconst 1, 1) := by decide +kernel
theorem dJ0_isLatin1_aae02_14 : decode cJ0_isLatin1_aae02 14 = .ok (.goto 4, 3) := by decide +kernel
theorem dJ0_isLatin1_aae02_17 : decode cJ0_isLatin1_aae02 17 = .ok (.iconst 0, 1) := by decide +kernel
theorem dJ0_isLatin1_aae02_18 : decode cJ0_isLatin1_aae02 18 = .ok (.ireturn, 1) := by decide +kernel
theorem dJ0_checkIndex_df160_0 : decode cJ0_checkIndex_df160 0 = .ok (.iload_n 0, 1) := by decide +kernel
theorem dJ0_checkIndex_df160_1 : decode cJ0_checkIndex_df160 1 = .ok (.iload_n 1, 1) := by decide +kernel
theorem dJ0_checkIndex_df160_2 : decode cJ0_checkIndex_df160 2 = .ok (.getstatic 1053, 3) := by decide +kernel
theorem dJ0_checkIndex_df160_5 : decode cJ0_checkIndex_df160 5 = .ok (.invokestatic 1059, 3) := by decide +kernel
theorem dJ0_checkIndex_df160_8 : decode cJ0_checkIndex_df160 8 = .ok (.pop, 1) := by decide +kernel
theorem dJ0_checkIndex_df160_9 : decode cJ0_checkIndex_df160 9 = .ok (.return_, 1) := by decide +kernel
theorem dJ0_checkBoundsBeginEnd_23922_0 : decode cJ0_checkBoundsBeginEnd_23922 0 = .ok (.iload_n 0, 1) := by decide +kernel
theorem dJ0_checkBoundsBeginEnd_23922_1 : decode cJ0_checkBoundsBeginEnd_23922 1 = .ok (.iload_n 1, 1) := by decide +kernel
theorem dJ0_checkBoundsBeginEnd_23922_2 : decode cJ0_checkBoundsBeginEnd_23922 2 = .ok (.iload_n 2, 1) := by decide +kernel
theorem dJ0_checkBoundsBeginEnd_23922_3 : decode cJ0_checkBoundsBeginEnd_23922 3 = .ok (.getstatic 1053, 3) := by decide +kernel
theorem dJ0_checkBoundsBeginEnd_23922_6 : decode cJ0_checkBoundsBeginEnd_23922 6 = .ok (.invokestatic 1062, 3) := by decide +kernel
theorem dJ0_checkBoundsBeginEnd_23922_9 : decode cJ0_checkBoundsBeginEnd_23922 9 = .ok (.pop, 1) := by decide +kernel
theorem dJ0_checkBoundsBeginEnd_23922_10 : decode cJ0_checkBoundsBeginEnd_23922 10 = .ok (.return_, 1) := by decide +kernel
theorem dJ1_charAt_3b067_0 : decode cJ1_charAt_3b067 0 = .ok (.iload_n 1, 1) := by decide +kernel
theorem dJ1_charAt_3b067_1 : decode cJ1_charAt_3b067 1 = .ok (.aload_n 0, 1) := by decide +kernel
theorem dJ1_charAt_3b067_2 : decode cJ1_charAt_3b067 2 = .ok (.arraylength, 1) := by decide +kernel
theorem dJ1_charAt_3b067_3 : decode cJ1_charAt_3b067 3 = .ok (.invokestatic 9, 3) := by decide +kernel
theorem dJ1_charAt_3b067_6 : decode cJ1_charAt_3b067 6 = .ok (.aload_n 0, 1) := by decide +kernel
theorem dJ1_charAt_3b067_7 : decode cJ1_charAt_3b067 7 = .ok (.iload_n 1, 1) := by decide +kernel
theorem dJ1_charAt_3b067_8 : decode cJ1_charAt_3b067 8 = .ok (.baload, 1) := by decide +kernel
theorem dJ1_charAt_3b067_9 : decode cJ1_charAt_3b067 9 = .ok (.sipush 255, 3) := by decide +kernel
theorem dJ1_charAt_3b067_12 : decode cJ1_charAt_3b067 12 = .ok (.iand, 1) := by decide +kernel
theorem dJ1_charAt_3b067_13 : decode cJ1_charAt_3b067 13 = .ok (.i2c, 1) := by decide +kernel
theorem dJ1_charAt_3b067_14 : decode cJ1_charAt_3b067 14 = .ok (.ireturn, 1) := by decide +kernel
theorem dJ1_canEncode_9a6ad_0 : decode cJ1_canEncode_9a6ad 0 = .ok (.iload_n 0, 1) := by decide +kernel
theorem dJ1_canEncode_9a6ad_1 : decode cJ1_canEncode_9a6ad 1 = .ok (.ifCond .lt 14, 3) := by decide +kernel
theorem dJ1_canEncode_9a6ad_4 : decode cJ1_canEncode_9a6ad 4 = .ok (.iload_n 0, 1) := by decide +kernel
theorem dJ1_canEncode_9a6ad_5 : decode cJ1_canEncode_9a6ad 5 = .ok (.sipush 255, 3) := by decide +kernel
theorem dJ1_canEncode_9a6ad_8 : decode cJ1_canEncode_9a6ad 8 = .ok (.if_icmp .gt 7, 3) := by decide +kernel
theorem dJ1_canEncode_9a6ad_11 : decode cJ1_canEncode_9a6ad 11 = .ok (.iconst 1, 1) := by decide +kernel
theorem dJ1_canEncode_9a6ad_12 : decode cJ1_canEncode_9a6ad 12 = .ok (.goto 4, 3) := by decide +kernel
theorem dJ1_canEncode_9a6ad_15 : decode cJ1_canEncode_9a6ad 15 = .ok (.iconst 0, 1) := by decide +kernel
theorem dJ1_canEncode_9a6ad_16 : decode cJ1_canEncode_9a6ad 16 = .ok (.ireturn, 1) := by decide +kernel
theorem dJ1_indexOf_4cfef_0 : decode cJ1_indexOf_4cfef 0 = .ok (.iload_n 1, 1) := by decide +kernel
theorem dJ1_indexOf_4cfef_1 : decode cJ1_indexOf_4cfef 1 = .ok (.invokestatic 88, 3) := by decide +kernel
theorem dJ1_indexOf_4cfef_4 : decode cJ1_indexOf_4cfef 4 = .ok (.ifCond .ne 5, 3) := by decide +kernel
theorem dJ1_indexOf_4cfef_7 : decode cJ1_indexOf_4cfef 7 = .ok (.iconst (-1), 1) := by decide +kernel
theorem dJ1_indexOf_4cfef_8 : decode cJ1_indexOf_4cfef 8 = .ok (.ireturn, 1) := by decide +kernel
theorem dJ1_indexOf_4cfef_9 : decode cJ1_indexOf_4cfef 9 = .ok (.iload_n 2, 1) := by decide +kernel
theorem dJ1_indexOf_4cfef_10 : decode cJ1_indexOf_4cfef 10 = .ok (.iconst 0, 1) := by decide +kernel
theorem dJ1_indexOf_4cfef_11 : decode cJ1_indexOf_4cfef 11 = .ok (.invokestatic 92, 3) := by decide +kernel
theorem dJ1_indexOf_4cfef_14 : decode cJ1_indexOf_4cfef 14 = .ok (.istore_n 2, 1) := by decide +kernel
theorem dJ1_indexOf_4cfef_15 : decode cJ1_indexOf_4cfef 15 = .ok (.iload_n 3, 1) := by decide +kernel
theorem dJ1_indexOf_4cfef_16 : decode cJ1_indexOf_4cfef 16 = .ok (.aload_n 0, 1) := by decide +kernel
theorem dJ1_indexOf_4cfef_17 : decode cJ1_indexOf_4cfef 17 = .ok (.arraylength, 1) := by decide +kernel
theorem dJ1_indexOf_4cfef_18 : decode cJ1_indexOf_4cfef 18 = .ok (.invokestatic 38, 3) := by decide +kernel
theorem dJ1_indexOf_4cfef_21 : decode cJ1_indexOf_4cfef 21 = .ok (.istore_n 3, 1) := by decide +kernel
theorem dJ1_indexOf_4cfef_22 : decode cJ1_indexOf_4cfef 22 = .ok (.iload_n 2, 1) := by decide +kernel
theorem dJ1_indexOf_4cfef_23 : decode cJ1_indexOf_4cfef 23 = .ok (.iload_n 3, 1) := by decide +kernel
theorem dJ1_indexOf_4cfef_24 : decode cJ1_indexOf_4cfef 24 = .ok (.if_icmp .lt 5, 3) := by decide +kernel
theorem dJ1_indexOf_4cfef_27 : decode cJ1_indexOf_4cfef 27 = .ok (.iconst (-1), 1) := by decide +kernel
theorem dJ1_indexOf_4cfef_28 : decode cJ1_indexOf_4cfef 28 = .ok (.ireturn, 1) := by decide +kernel
theorem dJ1_indexOf_4cfef_29 : decode cJ1_indexOf_4cfef 29 = .ok (.aload_n 0, 1) := by decide +kernel
theorem dJ1_indexOf_4cfef_30 : decode cJ1_indexOf_4cfef 30 = .ok (.iload_n 1, 1) := by decide +kernel
theorem dJ1_indexOf_4cfef_31 : decode cJ1_indexOf_4cfef 31 = .ok (.iload_n 2, 1) := by decide +kernel
theorem dJ1_indexOf_4cfef_32 : decode cJ1_indexOf_4cfef 32 = .ok (.iload_n 3, 1) := by decide +kernel
theorem dJ1_indexOf_4cfef_33 : decode cJ1_indexOf_4cfef 33 = .ok (.invokestatic 95, 3) := by decide +kernel
theorem dJ1_indexOf_4cfef_36 : decode cJ1_indexOf_4cfef 36 = .ok (.ireturn, 1) := by decide +kernel
theorem dJ1_indexOfChar_4cfef_0 : decode cJ1_indexOfChar_4cfef 0 = .ok (.iload_n 1, 1) := by decide +kernel
theorem dJ1_indexOfChar_4cfef_1 : decode cJ1_indexOfChar_4cfef 1 = .ok (.i2b, 1) := by decide +kernel
theorem dJ1_indexOfChar_4cfef_2 : decode cJ1_indexOfChar_4cfef 2 = .ok (.istore 4, 2) := by decide +kernel
theorem dJ1_indexOfChar_4cfef_4 : decode cJ1_indexOfChar_4cfef 4 = .ok (.iload_n 2, 1) := by decide +kernel
theorem dJ1_indexOfChar_4cfef_5 : decode cJ1_indexOfChar_4cfef 5 = .ok (.istore 5, 2) := by decide +kernel
theorem dJ1_indexOfChar_4cfef_7 : decode cJ1_indexOfChar_4cfef 7 = .ok (.iload 5, 2) := by decide +kernel
theorem dJ1_indexOfChar_4cfef_9 : decode cJ1_indexOfChar_4cfef 9 = .ok (.iload_n 3, 1) := by decide +kernel
theorem dJ1_indexOfChar_4cfef_10 : decode cJ1_indexOfChar_4cfef 10 = .ok (.if_icmp .ge 21, 3) := by decide +kernel
theorem dJ1_indexOfChar_4cfef_13 : decode cJ1_indexOfChar_4cfef 13 = .ok (.aload_n 0, 1) := by decide +kernel
theorem dJ1_indexOfChar_4cfef_14 : decode cJ1_indexOfChar_4cfef 14 = .ok (.iload 5, 2) := by decide +kernel
theorem dJ1_indexOfChar_4cfef_16 : decode cJ1_indexOfChar_4cfef 16 = .ok (.baload, 1) := by decide +kernel
theorem dJ1_indexOfChar_4cfef_17 : decode cJ1_indexOfChar_4cfef 17 = .ok (.iload 4, 2) := by decide +kernel
theorem dJ1_indexOfChar_4cfef_19 : decode cJ1_indexOfChar_4cfef 19 = .ok (.if_icmp .ne 6, 3) := by decide +kernel
theorem dJ1_indexOfChar_4cfef_22 : decode cJ1_indexOfChar_4cfef 22 = .ok (.iload 5, 2) := by decide +kernel
theorem dJ1_indexOfChar_4cfef_24 : decode cJ1_indexOfChar_4cfef 24 = .ok (.ireturn, 1) := by decide +kernel
theorem dJ1_indexOfChar_4cfef_25 : decode cJ1_indexOfChar_4cfef 25 = .ok (.iinc 5 1, 3) := by decide +kernel
theorem dJ1_indexOfChar_4cfef_28 : decode cJ1_indexOfChar_4cfef 28 = .ok (.goto (-21), 3) := by decide +kernel
theorem dJ1_indexOfChar_4cfef_31 : decode cJ1_indexOfChar_4cfef 31 = .ok (.iconst (-1), 1) := by decide +kernel
theorem dJ1_indexOfChar_4cfef_32 : decode cJ1_indexOfChar_4cfef 32 = .ok (.ireturn, 1) := by decide +kernel
theorem dJ2_getChar_3b067_0 : decode cJ2_getChar_3b067 0 = .ok (.getstatic 44, 3) := by decide +kernel
theorem dJ2_getChar_3b067_3 : decode cJ2_getChar_3b067 3 = .ok (.ifCond .ne 25, 3) := by decide +kernel
theorem dJ2_getChar_3b067_6 : decode cJ2_getChar_3b067 6 = .ok (.iload_n 1, 1) := by decide +kernel
theorem dJ2_getChar_3b067_7 : decode cJ2_getChar_3b067 7 = .ok (.ifCond .lt 11, 3) := by decide +kernel
theorem dJ2_getChar_3b067_10 : decode cJ2_getChar_3b067 10 = .ok (.iload_n 1, 1) := by decide +kernel
theorem dJ2_getChar_3b067_11 : decode cJ2_getChar_3b067 11 = .ok (.aload_n 0, 1) := by decide +kernel
theorem dJ2_getChar_3b067_12 : decode cJ2_getChar_3b067 12 = .ok (.invokestatic 48, 3) := by decide +kernel
theorem dJ2_getChar_3b067_15 : decode cJ2_getChar_3b067 15 = .ok (.if_icmp .lt 13, 3) := by decide +kernel
theorem dJ2_getChar_3b067_18 : decode cJ2_getChar_3b067 18 = .ok (.new 52, 3) := by decide +kernel
theorem dJ2_getChar_3b067_21 : decode cJ2_getChar_3b067 21 = .ok (.dup, 1) := by decide +kernel
theorem dJ2_getChar_3b067_22 : decode cJ2_getChar_3b067 22 = .ok (.ldc 54, 2) := by decide +kernel
theorem dJ2_getChar_3b067_24 : decode cJ2_getChar_3b067 24 = .ok (.invokespecial 56, 3) := by decide +kernel
theorem dJ2_getChar_3b067_27 : decode cJ2_getChar_3b067 27 = .ok (.athrow, 1) := by decide +kernel
theorem dJ2_getChar_3b067_28 : decode cJ2_getChar_3b067 28 = .ok (.iload_n 1, 1) := by decide +kernel
theorem dJ2_getChar_3b067_29 : decode cJ2_getChar_3b067 29 = .ok (.iconst 1, 1) := by decide +kernel
theorem dJ2_getChar_3b067_30 : decode cJ2_getChar_3b067 30 = .ok (.ishl, 1) := by decide +kernel
theorem dJ2_getChar_3b067_31 : decode cJ2_getChar_3b067 31 = .ok (.istore_n 1, 1) := by decide +kernel
theorem dJ2_getChar_3b067_32 : decode cJ2_getChar_3b067 32 = .ok (.aload_n 0, 1) := by decide +kernel
theorem dJ2_getChar_3b067_33 : decode cJ2_getChar_3b067 33 = .ok (.iload_n 1, 1) := by decide +kernel
theorem dJ2_getChar_3b067_34 : decode cJ2_getChar_3b067 34 = .ok (.iinc 1 1, 3) := by decide +kernel
theorem dJ2_getChar_3b067_37 : decode cJ2_getChar_3b067 37 = .ok (.baload, 1) := by decide +kernel
theorem dJ2_getChar_3b067_38 : decode cJ2_getChar_3b067 38 = .ok (.sipush 255, 3) := by decide +kernel
theorem dJ2_getChar_3b067_41 : decode cJ2_getChar_3b067 41 = .ok (.iand, 1) := by decide +kernel
theorem dJ2_getChar_3b067_42 : decode cJ2_getChar_3b067 42 = .ok (.getstatic 59, 3) := by decide +kernel
theorem dJ2_getChar_3b067_45 : decode cJ2_getChar_3b067 45 = .ok (.ishl, 1) := by decide +kernel
theorem dJ2_getChar_3b067_46 : decode cJ2_getChar_3b067 46 = .ok (.aload_n 0, 1) := by decide +kernel
theorem dJ2_getChar_3b067_47 : decode cJ2_getChar_3b067 47 = .ok (.iload_n 1, 1) := by decide +kernel
theorem dJ2_getChar_3b067_48 : decode cJ2_getChar_3b067 48 = .ok (.baload, 1) := by decide +kernel
theorem dJ2_getChar_3b067_49 : decode cJ2_getChar_3b067 49 = .ok (.sipush 255, 3) := by decide +kernel
theorem dJ2_getChar_3b067_52 : decode cJ2_getChar_3b067 52 = .ok (.iand, 1) := by decide +kernel
theorem dJ2_getChar_3b067_53 : decode cJ2_getChar_3b067 53 = .ok (.getstatic 63, 3) := by decide +kernel
theorem dJ2_getChar_3b067_56 : decode cJ2_getChar_3b067 56 = .ok (.ishl, 1) := by decide +kernel
theorem dJ2_getChar_3b067_57 : decode cJ2_getChar_3b067 57 = .ok (.ior, 1) := by decide +kernel
theorem dJ2_getChar_3b067_58 : decode cJ2_getChar_3b067 58 = .ok (.i2c, 1) := by decide +kernel
theorem dJ2_getChar_3b067_59 : decode cJ2_getChar_3b067 59 = .ok (.ireturn, 1) := by decide +kernel
theorem dJ2_length_9d52b_0 : decode cJ2_length_9d52b 0 = .ok (.aload_n 0, 1) := by decide +kernel
theorem dJ2_length_9d52b_1 : decode cJ2_length_9d52b 1 = .ok (.arraylength, 1) := by decide +kernel
theorem dJ2_length_9d52b_2 : decode cJ2_length_9d52b 2 = .ok (.iconst 1, 1) := by decide +kernel
theorem dJ2_length_9d52b_3 : decode cJ2_length_9d52b 3 = .ok (.ishr, 1) := by decide +kernel
theorem dJ2_length_9d52b_4 : decode cJ2_length_9d52b 4 = .ok (.ireturn, 1) := by decide +kernel
theorem dJ2_indexOf_4cfef_0 : decode cJ2_indexOf_4cfef 0 = .ok (.iload_n 2, 1) := by decide +kernel
theorem dJ2_indexOf_4cfef_1 : decode cJ2_indexOf_4cfef 1 = .ok (.iconst 0, 1) := by decide +kernel
theorem dJ2_indexOf_4cfef_2 : decode cJ2_indexOf_4cfef 2 = .ok (.invokestatic 224, 3) := by decide +kernel
theorem dJ2_indexOf_4cfef_5 : decode cJ2_indexOf_4cfef 5 = .ok (.istore_n 2, 1) := by decide +kernel
theorem dJ2_indexOf_4cfef_6 : decode cJ2_indexOf_4cfef 6 = .ok (.iload_n 3, 1) := by decide +kernel
theorem dJ2_indexOf_4cfef_7 : decode cJ2_indexOf_4cfef 7 = .ok (.aload_n 0, 1) := by decide +kernel
theorem dJ2_indexOf_4cfef_8 : decode cJ2_indexOf_4cfef 8 = .ok (.arraylength, 1) := by decide +kernel
theorem dJ2_indexOf_4cfef_9 : decode cJ2_indexOf_4cfef 9 = .ok (.iconst 1, 1) := by decide +kernel
theorem dJ2_indexOf_4cfef_10 : decode cJ2_indexOf_4cfef 10 = .ok (.ishr, 1) := by decide +kernel
theorem dJ2_indexOf_4cfef_11 : decode cJ2_indexOf_4cfef 11 = .ok (.invokestatic 183, 3) := by decide +kernel
theorem dJ2_indexOf_4cfef_14 : decode cJ2_indexOf_4cfef 14 = .ok (.istore_n 3, 1) := by decide +kernel
theorem dJ2_indexOf_4cfef_15 : decode cJ2_indexOf_4cfef 15 = .ok (.iload_n 2, 1) := by decide +kernel
theorem dJ2_indexOf_4cfef_16 : decode cJ2_indexOf_4cfef 16 = .ok (.iload_n 3, 1) := by decide +kernel
theorem dJ2_indexOf_4cfef_17 : decode cJ2_indexOf_4cfef 17 = .ok (.if_icmp .lt 5, 3) := by decide +kernel
theorem dJ2_indexOf_4cfef_20 : decode cJ2_indexOf_4cfef 20 = .ok (.iconst (-1), 1) := by decide +kernel
theorem dJ2_indexOf_4cfef_21 : decode cJ2_indexOf_4cfef 21 = .ok (.ireturn, 1) := by decide +kernel
theorem dJ2_indexOf_4cfef_22 : decode cJ2_indexOf_4cfef 22 = .ok (.iload_n 1, 1) := by decide +kernel
theorem dJ2_indexOf_4cfef_23 : decode cJ2_indexOf_4cfef 23 = .ok (.ldc 227, 2) := by decide +kernel
theorem dJ2_indexOf_4cfef_25 : decode cJ2_indexOf_4cfef 25 = .ok (.if_icmp .ge 11, 3) := by decide +kernel
theorem dJ2_indexOf_4cfef_28 : decode cJ2_indexOf_4cfef 28 = .ok (.aload_n 0, 1) := by decide +kernel
theorem dJ2_indexOf_4cfef_29 : decode cJ2_indexOf_4cfef 29 = .ok (.iload_n 1, 1) := by decide +kernel
theorem dJ2_indexOf_4cfef_30 : decode cJ2_indexOf_4cfef 30 = .ok (.iload_n 2, 1) := by decide +kernel
theorem dJ2_indexOf_4cfef_31 : decode cJ2_indexOf_4cfef 31 = .ok (.iload_n 3, 1) := by decide +kernel
theorem dJ2_indexOf_4cfef_32 : decode cJ2_indexOf_4cfef 32 = .ok (.invokestatic 228, 3) := by decide +kernel
theorem dJ2_indexOf_4cfef_35 : decode cJ2_indexOf_4cfef 35 = .ok (.ireturn, 1) := by decide +kernel
theorem dJ2_indexOf_4cfef_36 : decode cJ2_indexOf_4cfef 36 = .ok (.aload_n 0, 1) := by decide +kernel
theorem dJ2_indexOf_4cfef_37 : decode cJ2_indexOf_4cfef 37 = .ok (.iload_n 1, 1) := by decide +kernel
theorem dJ2_indexOf_4cfef_38 : decode cJ2_indexOf_4cfef 38 = .ok (.iload_n 2, 1) := by decide +kernel
theorem dJ2_indexOf_4cfef_39 : decode cJ2_indexOf_4cfef 39 = .ok (.iload_n 3, 1) := by decide +kernel
theorem dJ2_indexOf_4cfef_40 : decode cJ2_indexOf_4cfef 40 = .ok (.invokestatic 232, 3) := by decide +kernel
theorem dJ2_indexOf_4cfef_43 : decode cJ2_indexOf_4cfef 43 = .ok (.ireturn, 1) := by decide +kernel
theorem dJ2_indexOfChar_4cfef_0 : decode cJ2_indexOfChar_4cfef 0 = .ok (.iload_n 2, 1) := by decide +kernel
theorem dJ2_indexOfChar_4cfef_1 : decode cJ2_indexOfChar_4cfef 1 = .ok (.iload_n 3, 1) := by decide +kernel
theorem dJ2_indexOfChar_4cfef_2 : decode cJ2_indexOfChar_4cfef 2 = .ok (.aload_n 0, 1) := by decide +kernel
theorem dJ2_indexOfChar_4cfef_3 : decode cJ2_indexOfChar_4cfef 3 = .ok (.invokestatic 96, 3) := by decide +kernel
theorem dJ2_indexOfChar_4cfef_6 : decode cJ2_indexOfChar_4cfef 6 = .ok (.aload_n 0, 1) := by decide +kernel
theorem dJ2_indexOfChar_4cfef_7 : decode cJ2_indexOfChar_4cfef 7 = .ok (.iload_n 1, 1) := by decide +kernel
theorem dJ2_indexOfChar_4cfef_8 : decode cJ2_indexOfChar_4cfef 8 = .ok (.iload_n 2, 1) := by decide +kernel
theorem dJ2_indexOfChar_4cfef_9 : decode cJ2_indexOfChar_4cfef 9 = .ok (.iload_n 3, 1) := by decide +kernel
theorem dJ2_indexOfChar_4cfef_10 : decode cJ2_indexOfChar_4cfef 10 = .ok (.invokestatic 244, 3) := by decide +kernel
theorem dJ2_indexOfChar_4cfef_13 : decode cJ2_indexOfChar_4cfef 13 = .ok (.ireturn, 1) := by decide +kernel
theorem dJ2_indexOfCharUnsafe_4cfef_0 : decode cJ2_indexOfCharUnsafe_4cfef 0 = .ok (.iload_n 2, 1) := by decide +kernel
theorem dJ2_indexOfCharUnsafe_4cfef_1 : decode cJ2_indexOfCharUnsafe_4cfef 1 = .ok (.istore 4, 2) := by decide +kernel
theorem dJ2_indexOfCharUnsafe_4cfef_3 : decode cJ2_indexOfCharUnsafe_4cfef 3 = .ok (.iload 4, 2) := by decide +kernel
theorem dJ2_indexOfCharUnsafe_4cfef_5 : decode cJ2_indexOfCharUnsafe_4cfef 5 = .ok (.iload_n 3, 1) := by decide +kernel
theorem dJ2_indexOfCharUnsafe_4cfef_6 : decode cJ2_indexOfCharUnsafe_4cfef 6 = .ok (.if_icmp .ge 22, 3) := by decide +kernel
theorem dJ2_indexOfCharUnsafe_4cfef_9 : decode cJ2_indexOfCharUnsafe_4cfef 9 = .ok (.aload_n 0, 1) := by decide +kernel
theorem dJ2_indexOfCharUnsafe_4cfef_10 : decode cJ2_indexOfCharUnsafe_4cfef 10 = .ok (.iload 4, 2) := by decide +kernel
theorem dJ2_indexOfCharUnsafe_4cfef_12 : decode cJ2_indexOfCharUnsafe_4cfef 12 = .ok (.invokestatic 71, 3) := by decide +kernel
theorem dJ2_indexOfCharUnsafe_4cfef_15 : decode cJ2_indexOfCharUnsafe_4cfef 15 = .ok (.iload_n 1, 1) := by decide +kernel
theorem dJ2_indexOfCharUnsafe_4cfef_16 : decode cJ2_indexOfCharUnsafe_4cfef 16 = .ok (.if_icmp .ne 6, 3) := by decide +kernel
theorem dJ2_indexOfCharUnsafe_4cfef_19 : decode cJ2_indexOfCharUnsafe_4cfef 19 = .ok (.iload 4, 2) := by decide +kernel
theorem dJ2_indexOfCharUnsafe_4cfef_21 : decode cJ2_indexOfCharUnsafe_4cfef 21 = .ok (.ireturn, 1) := by decide +kernel
theorem dJ2_indexOfCharUnsafe_4cfef_22 : decode cJ2_indexOfCharUnsafe_4cfef 22 = .ok (.iinc 4 1, 3) := by decide +kernel
theorem dJ2_indexOfCharUnsafe_4cfef_25 : decode cJ2_indexOfCharUnsafe_4cfef 25 = .ok (.goto (-22), 3) := by decide +kernel
theorem dJ2_indexOfCharUnsafe_4cfef_28 : decode cJ2_indexOfCharUnsafe_4cfef 28 = .ok (.iconst (-1), 1) := by decide +kernel
theorem dJ2_indexOfCharUnsafe_4cfef_29 : decode cJ2_indexOfCharUnsafe_4cfef 29 = .ok (.ireturn, 1) := by decide +kernel
theorem dJ2_indexOfSupplementary_4cfef_0 : decode cJ2_indexOfSupplementary_4cfef 0 = .ok (.iload_n 1, 1) := by decide +kernel
theorem dJ2_indexOfSupplementary_4cfef_1 : decode cJ2_indexOfSupplementary_4cfef 1 = .ok (.invokestatic 164, 3) := by decide +kernel
theorem dJ2_indexOfSupplementary_4cfef_4 : decode cJ2_indexOfSupplementary_4cfef 4 = .ok (.ifCond .eq 65, 3) := by decide +kernel
theorem dJ2_indexOfSupplementary_4cfef_7 : decode cJ2_indexOfSupplementary_4cfef 7 = .ok (.iload_n 1, 1) := by decide +kernel
theorem dJ2_indexOfSupplementary_4cfef_8 : decode cJ2_indexOfSupplementary_4cfef 8 = .ok (.invokestatic 157, 3) := by decide +kernel
theorem dJ2_indexOfSupplementary_4cfef_11 : decode cJ2_indexOfSupplementary_4cfef 11 = .ok (.istore 4, 2) := by decide +kernel
theorem dJ2_indexOfSupplementary_4cfef_13 : decode cJ2_indexOfSupplementary_4cfef 13 = .ok (.iload_n 1, 1) := by decide +kernel
theorem dJ2_indexOfSupplementary_4cfef_14 : decode cJ2_indexOfSupplementary_4cfef 14 = .ok (.invokestatic 161, 3) := by decide +kernel
theorem dJ2_indexOfSupplementary_4cfef_17 : decode cJ2_indexOfSupplementary_4cfef 17 = .ok (.istore 5, 2) := by decide +kernel
theorem dJ2_indexOfSupplementary_4cfef_19 : decode cJ2_indexOfSupplementary_4cfef 19 = .ok (.iload_n 2, 1) := by decide +kernel
theorem dJ2_indexOfSupplementary_4cfef_20 : decode cJ2_indexOfSupplementary_4cfef 20 = .ok (.iload_n 3, 1) := by decide +kernel
theorem dJ2_indexOfSupplementary_4cfef_21 : decode cJ2_indexOfSupplementary_4cfef 21 = .ok (.aload_n 0, 1) := by decide +kernel
theorem dJ2_indexOfSupplementary_4cfef_22 : decode cJ2_indexOfSupplementary_4cfef 22 = .ok (.invokestatic 96, 3) := by decide +kernel
theorem dJ2_indexOfSupplementary_4cfef_25 : decode cJ2_indexOfSupplementary_4cfef 25 = .ok (.iload_n 2, 1) := by decide +kernel
theorem dJ2_indexOfSupplementary_4cfef_26 : decode cJ2_indexOfSupplementary_4cfef 26 = .ok (.istore 6, 2) := by decide +kernel
theorem dJ2_indexOfSupplementary_4cfef_28 : decode cJ2_indexOfSupplementary_4cfef 28 = .ok (.iload 6, 2) := by decide +kernel
theorem dJ2_indexOfSupplementary_4cfef_30 : decode cJ2_indexOfSupplementary_4cfef 30 = .ok (.iload_n 3, 1) := by decide +kernel
theorem dJ2_indexOfSupplementary_4cfef_31 : decode cJ2_indexOfSupplementary_4cfef 31 = .ok (.iconst 1, 1) := by decide +kernel
theorem dJ2_indexOfSupplementary_4cfef_32 : decode cJ2_indexOfSupplementary_4cfef 32 = .ok (.isub, 1) := by decide +kernel
theorem dJ2_indexOfSupplementary_4cfef_33 : decode cJ2_indexOfSupplementary_4cfef 33 = .ok (.if_icmp .ge 36, 3) := by decide +kernel
theorem dJ2_indexOfSupplementary_4cfef_36 : decode cJ2_indexOfSupplementary_4cfef 36 = .ok (.aload_n 0, 1) := by decide +kernel
theorem dJ2_indexOfSupplementary_4cfef_37 : decode cJ2_indexOfSupplementary_4cfef 37 = .ok (.iload 6, 2) := by decide +kernel
theorem dJ2_indexOfSupplementary_4cfef_39 : decode cJ2_indexOfSupplementary_4cfef 39 = .ok (.invokestatic 71, 3) := by decide +kernel
theorem dJ2_indexOfSupplementary_4cfef_42 : decode cJ2_indexOfSupplementary_4cfef 42 = .ok (.iload 4, 2) := by decide +kernel
theorem dJ2_indexOfSupplementary_4cfef_44 : decode cJ2_indexOfSupplementary_4cfef 44 = .ok (.if_icmp .ne 19, 3) := by decide +kernel
theorem dJ2_indexOfSupplementary_4cfef_47 : decode cJ2_indexOfSupplementary_4cfef 47 = .ok (.aload_n 0, 1) := by decide +kernel
theorem dJ2_indexOfSupplementary_4cfef_48 : decode cJ2_indexOfSupplementary_4cfef 48 = .ok (.iload 6, 2) := by decide +kernel
theorem dJ2_indexOfSupplementary_4cfef_50 : decode cJ2_indexOfSupplementary_4cfef 50 = .ok (.iconst 1, 1) := by decide +kernel
theorem dJ2_indexOfSupplementary_4cfef_51 : decode cJ2_indexOfSupplementary_4cfef 51 = .ok (.iadd, 1) := by decide +kernel
theorem dJ2_indexOfSupplementary_4cfef_52 : decode cJ2_indexOfSupplementary_4cfef 52 = .ok (.invokestatic 71, 3) := by decide +kernel
theorem dJ2_indexOfSupplementary_4cfef_55 : decode cJ2_indexOfSupplementary_4cfef 55 = .ok (.iload 5, 2) := by decide +kernel
theorem dJ2_indexOfSupplementary_4cfef_57 : decode cJ2_indexOfSupplementary_4cfef 57 = .ok (.if_icmp .ne 6, 3) := by decide +kernel
theorem dJ2_indexOfSupplementary_4cfef_60 : decode cJ2_indexOfSupplementary_4cfef 60 = .ok (.iload 6, 2) := by decide +kernel
theorem dJ2_indexOfSupplementary_4cfef_62 : decode cJ2_indexOfSupplementary_4cfef 62 = .ok (.ireturn, 1) := by decide +kernel
theorem dJ2_indexOfSupplementary_4cfef_63 : decode cJ2_indexOfSupplementary_4cfef 63 = .ok (.iinc 6 1, 3) := by decide +kernel
theorem dJ2_indexOfSupplementary_4cfef_66 : decode cJ2_indexOfSupplementary_4cfef 66 = .ok (.goto (-38), 3) := by decide +kernel
theorem dJ2_indexOfSupplementary_4cfef_69 : decode cJ2_indexOfSupplementary_4cfef 69 = .ok (.iconst (-1), 1) := by decide +kernel
theorem dJ2_indexOfSupplementary_4cfef_70 : decode cJ2_indexOfSupplementary_4cfef 70 = .ok (.ireturn, 1) := by decide +kernel
theorem dJ2_charAt_3b067_0 : decode cJ2_charAt_3b067 0 = .ok (.iload_n 1, 1) := by decide +kernel
theorem dJ2_charAt_3b067_1 : decode cJ2_charAt_3b067 1 = .ok (.aload_n 0, 1) := by decide +kernel
theorem dJ2_charAt_3b067_2 : decode cJ2_charAt_3b067 2 = .ok (.invokestatic 67, 3) := by decide +kernel
theorem dJ2_charAt_3b067_5 : decode cJ2_charAt_3b067 5 = .ok (.aload_n 0, 1) := by decide +kernel
theorem dJ2_charAt_3b067_6 : decode cJ2_charAt_3b067 6 = .ok (.iload_n 1, 1) := by decide +kernel
theorem dJ2_charAt_3b067_7 : decode cJ2_charAt_3b067 7 = .ok (.invokestatic 71, 3) := by decide +kernel
theorem dJ2_charAt_3b067_10 : decode cJ2_charAt_3b067 10 = .ok (.ireturn, 1) := by decide +kernel
theorem dJ2_checkIndex_2214a_0 : decode cJ2_checkIndex_2214a 0 = .ok (.iload_n 0, 1) := by decide +kernel
theorem dJ2_checkIndex_2214a_1 : decode cJ2_checkIndex_2214a 1 = .ok (.aload_n 1, 1) := by decide +kernel
theorem dJ2_checkIndex_2214a_2 : decode cJ2_checkIndex_2214a 2 = .ok (.invokestatic 48, 3) := by decide +kernel
theorem dJ2_checkIndex_2214a_5 : decode cJ2_checkIndex_2214a 5 = .ok (.invokestatic 414, 3) := by decide +kernel
theorem dJ2_checkIndex_2214a_8 : decode cJ2_checkIndex_2214a 8 = .ok (.return_, 1) := by decide +kernel
theorem dJ2_checkBoundsBeginEnd_d044e_0 : decode cJ2_checkBoundsBeginEnd_d044e 0 = .ok (.iload_n 0, 1) := by decide +kernel
theorem dJ2_checkBoundsBeginEnd_d044e_1 : decode cJ2_checkBoundsBeginEnd_d044e 1 = .ok (.iload_n 1, 1) := by decide +kernel
theorem dJ2_checkBoundsBeginEnd_d044e_2 : decode cJ2_checkBoundsBeginEnd_d044e 2 = .ok (.aload_n 2, 1) := by decide +kernel
theorem dJ2_checkBoundsBeginEnd_d044e_3 : decode cJ2_checkBoundsBeginEnd_d044e 3 = .ok (.invokestatic 48, 3) := by decide +kernel
theorem dJ2_checkBoundsBeginEnd_d044e_6 : decode cJ2_checkBoundsBeginEnd_d044e 6 = .ok (.invokestatic 241, 3) := by decide +kernel
theorem dJ2_checkBoundsBeginEnd_d044e_9 : decode cJ2_checkBoundsBeginEnd_d044e 9 = .ok (.return_, 1) := by decide +kernel
theorem dJ7_fill_d0a16_0 : decode cJ7_fill_d0a16 0 = .ok (.iconst 0, 1) := by decide +kernel
theorem dJ7_fill_d0a16_1 : decode cJ7_fill_d0a16 1 = .ok (.istore_n 3, 1) := by decide +kernel
theorem dJ7_fill_d0a16_2 : decode cJ7_fill_d0a16 2 = .ok (.aload_n 0, 1) := by decide +kernel
theorem dJ7_fill_d0a16_3 : decode cJ7_fill_d0a16 3 = .ok (.arraylength, 1) := by decide +kernel
theorem dJ7_fill_d0a16_4 : decode cJ7_fill_d0a16 4 = .ok (.istore 4, 2) := by decide +kernel
theorem dJ7_fill_d0a16_6 : decode cJ7_fill_d0a16 6 = .ok (.iload_n 3, 1) := by decide +kernel
theorem dJ7_fill_d0a16_7 : decode cJ7_fill_d0a16 7 = .ok (.iload 4, 2) := by decide +kernel
theorem dJ7_fill_d0a16_9 : decode cJ7_fill_d0a16 9 = .ok (.if_icmp .ge 13, 3) := by decide +kernel
theorem dJ7_fill_d0a16_12 : decode cJ7_fill_d0a16 12 = .ok (.aload_n 0, 1) := by decide +kernel
theorem dJ7_fill_d0a16_13 : decode cJ7_fill_d0a16 13 = .ok (.iload_n 3, 1) := by decide +kernel
theorem dJ7_fill_d0a16_14 : decode cJ7_fill_d0a16 14 = .ok (.lload_n 1, 1) := by decide +kernel
theorem dJ7_fill_d0a16_15 : decode cJ7_fill_d0a16 15 = .ok (.lastore, 1) := by decide +kernel
theorem dJ7_fill_d0a16_16 : decode cJ7_fill_d0a16 16 = .ok (.iinc 3 1, 3) := by decide +kernel
theorem dJ7_fill_d0a16_19 : decode cJ7_fill_d0a16 19 = .ok (.goto (-13), 3) := by decide +kernel
theorem dJ7_fill_d0a16_22 : decode cJ7_fill_d0a16 22 = .ok (.return_, 1) := by decide +kernel
theorem dJ3_checkIndex_8e157_0 : decode cJ3_checkIndex_8e157 0 = .ok (.iload_n 0, 1) := by decide +kernel
theorem dJ3_checkIndex_8e157_1 : decode cJ3_checkIndex_8e157 1 = .ok (.ifCond .lt 8, 3) := by decide +kernel
theorem dJ3_checkIndex_8e157_4 : decode cJ3_checkIndex_8e157 4 = .ok (.iload_n 0, 1) := by decide +kernel
theorem dJ3_checkIndex_8e157_5 : decode cJ3_checkIndex_8e157 5 = .ok (.iload_n 1, 1) := by decide +kernel
theorem dJ3_checkIndex_8e157_6 : decode cJ3_checkIndex_8e157 6 = .ok (.if_icmp .lt 10, 3) := by decide +kernel
theorem dJ3_checkIndex_8e157_9 : decode cJ3_checkIndex_8e157 9 = .ok (.aload_n 2, 1) := by decide +kernel
theorem dJ3_checkIndex_8e157_10 : decode cJ3_checkIndex_8e157 10 = .ok (.iload_n 0, 1) := by decide +kernel
theorem dJ3_checkIndex_8e157_11 : decode cJ3_checkIndex_8e157 11 = .ok (.iload_n 1, 1) := by decide +kernel
theorem dJ3_checkIndex_8e157_12 : decode cJ3_checkIndex_8e157 12 = .ok (.invokestatic 95, 3) := by decide +kernel
theorem dJ3_checkIndex_8e157_15 : decode cJ3_checkIndex_8e157 15 = .ok (.athrow, 1) := by decide +kernel
theorem dJ3_checkIndex_8e157_16 : decode cJ3_checkIndex_8e157 16 = .ok (.iload_n 0, 1) := by decide +kernel
theorem dJ3_checkIndex_8e157_17 : decode cJ3_checkIndex_8e157 17 = .ok (.ireturn, 1) := by decide +kernel
theorem dJ3_checkFromToIndex_8c36e_0 : decode cJ3_checkFromToIndex_8c36e 0 = .ok (.iload_n 0, 1) := by decide +kernel
theorem dJ3_checkFromToIndex_8c36e_1 : decode cJ3_checkFromToIndex_8c36e 1 = .ok (.ifCond .lt 13, 3) := by decide +kernel
theorem dJ3_checkFromToIndex_8c36e_4 : decode cJ3_checkFromToIndex_8c36e 4 = .ok (.iload_n 0, 1) := by decide +kernel
theorem dJ3_checkFromToIndex_8c36e_5 : decode cJ3_checkFromToIndex_8c36e 5 = .ok (.iload_n 1, 1) := by decide +kernel
theorem dJ3_checkFromToIndex_8c36e_6 : decode cJ3_checkFromToIndex_8c36e 6 = .ok (.if_icmp .gt 8, 3) := by decide +kernel
theorem dJ3_checkFromToIndex_8c36e_9 : decode cJ3_checkFromToIndex_8c36e 9 = .ok (.iload_n 1, 1) := by decide +kernel
theorem dJ3_checkFromToIndex_8c36e_10 : decode cJ3_checkFromToIndex_8c36e 10 = .ok (.iload_n 2, 1) := by decide +kernel
theorem dJ3_checkFromToIndex_8c36e_11 : decode cJ3_checkFromToIndex_8c36e 11 = .ok (.if_icmp .le 11, 3) := by decide +kernel
theorem dJ3_checkFromToIndex_8c36e_14 : decode cJ3_checkFromToIndex_8c36e 14 = .ok (.aload_n 3, 1) := by decide +kernel
theorem dJ3_checkFromToIndex_8c36e_15 : decode cJ3_checkFromToIndex_8c36e 15 = .ok (.iload_n 0, 1) := by decide +kernel
theorem dJ3_checkFromToIndex_8c36e_16 : decode cJ3_checkFromToIndex_8c36e 16 = .ok (.iload_n 1, 1) := by decide +kernel
theorem dJ3_checkFromToIndex_8c36e_17 : decode cJ3_checkFromToIndex_8c36e 17 = .ok (.iload_n 2, 1) := by decide +kernel
theorem dJ3_checkFromToIndex_8c36e_18 : decode cJ3_checkFromToIndex_8c36e 18 = .ok (.invokestatic 99, 3) := by decide +kernel
theorem dJ3_checkFromToIndex_8c36e_21 : decode cJ3_checkFromToIndex_8c36e 21 = .ok (.athrow, 1) := by decide +kernel
theorem dJ3_checkFromToIndex_8c36e_22 : decode cJ3_checkFromToIndex_8c36e 22 = .ok (.iload_n 0, 1) := by decide +kernel
theorem dJ3_checkFromToIndex_8c36e_23 : decode cJ3_checkFromToIndex_8c36e 23 = .ok (.ireturn, 1) := by decide +kernel
theorem dL_law_0 : decode cL_law 0 = .ok (.new 7, 3) := by decide +kernel
theorem dL_law_3 : decode cL_law 3 = .ok (.dup, 1) := by decide +kernel
theorem dL_law_4 : decode cL_law 4 = .ok (.invokespecial 9, 3) := by decide +kernel
theorem dL_law_7 : decode cL_law 7 = .ok (.astore_n 1, 1) := by decide +kernel
theorem dL_law_8 : decode cL_law 8 = .ok (.new 10, 3) := by decide +kernel
theorem dL_law_11 : decode cL_law 11 = .ok (.dup, 1) := by decide +kernel
theorem dL_law_12 : decode cL_law 12 = .ok (.invokespecial 12, 3) := by decide +kernel
theorem dL_law_15 : decode cL_law 15 = .ok (.astore_n 2, 1) := by decide +kernel
theorem dL_law_16 : decode cL_law 16 = .ok (.iconst 0, 1) := by decide +kernel
theorem dL_law_17 : decode cL_law 17 = .ok (.istore_n 3, 1) := by decide +kernel
theorem dL_law_18 : decode cL_law 18 = .ok (.iload_n 3, 1) := by decide +kernel
theorem dL_law_19 : decode cL_law 19 = .ok (.aload_n 0, 1) := by decide +kernel
theorem dL_law_20 : decode cL_law 20 = .ok (.arraylength, 1) := by decide +kernel
theorem dL_law_21 : decode cL_law 21 = .ok (.bipush 6, 2) := by decide +kernel
theorem dL_law_23 : decode cL_law 23 = .ok (.isub, 1) := by decide +kernel
theorem dL_law_24 : decode cL_law 24 = .ok (.if_icmp .gt 1368, 3) := by decide +kernel
theorem dL_law_27 : decode cL_law 27 = .ok (.aload_n 0, 1) := by decide +kernel
theorem dL_law_28 : decode cL_law 28 = .ok (.iload_n 3, 1) := by decide +kernel
theorem dL_law_29 : decode cL_law 29 = .ok (.iaload, 1) := by decide +kernel
theorem dL_law_30 : decode cL_law 30 = .ok (.bipush 63, 2) := by decide +kernel
theorem dL_law_32 : decode cL_law 32 = .ok (.iand, 1) := by decide +kernel
theorem dL_law_33 : decode cL_law 33 = .ok (.tableswitch 1353 0 32 #[147, 180, 223, 266, 325, 368, 401, 434, 467, 480, 503, 536, 596, 640, 684, 707, 740, 773, 796, 819, 863, 906, 949, 992, 1005, 1018, 1061, 1084, 1117, 1140, 1183, 1256, 1290], 147) := by decide +kernel
theorem dL_law_180 : decode cL_law 180 = .ok (.aload_n 1, 1) := by decide +kernel
theorem dL_law_181 : decode cL_law 181 = .ok (.aload_n 0, 1) := by decide +kernel
theorem dL_law_182 : decode cL_law 182 = .ok (.iload_n 3, 1) := by decide +kernel
theorem dL_law_183 : decode cL_law 183 = .ok (.iconst 1, 1) := by decide +kernel
theorem dL_law_184 : decode cL_law 184 = .ok (.iadd, 1) := by decide +kernel
theorem dL_law_185 : decode cL_law 185 = .ok (.iaload, 1) := by decide +kernel
theorem dL_law_186 : decode cL_law 186 = .ok (.aload_n 0, 1) := by decide +kernel
theorem dL_law_187 : decode cL_law 187 = .ok (.iload_n 3, 1) := by decide +kernel
theorem dL_law_188 : decode cL_law 188 = .ok (.iconst 2, 1) := by decide +kernel
theorem dL_law_189 : decode cL_law 189 = .ok (.iadd, 1) := by decide +kernel
theorem dL_law_190 : decode cL_law 190 = .ok (.iaload, 1) := by decide +kernel
theorem dL_law_191 : decode cL_law 191 = .ok (.invokevirtual 13, 3) := by decide +kernel
theorem dL_law_194 : decode cL_law 194 = .ok (.aload_n 2, 1) := by decide +kernel
theorem dL_law_195 : decode cL_law 195 = .ok (.aload_n 0, 1) := by decide +kernel
theorem dL_law_196 : decode cL_law 196 = .ok (.iload_n 3, 1) := by decide +kernel
theorem dL_law_197 : decode cL_law 197 = .ok (.iconst 1, 1) := by decide +kernel
theorem dL_law_198 : decode cL_law 198 = .ok (.iadd, 1) := by decide +kernel
theorem dL_law_199 : decode cL_law 199 = .ok (.iaload, 1) := by decide +kernel
theorem dL_law_200 : decode cL_law 200 = .ok (.aload_n 0, 1) := by decide +kernel
theorem dL_law_201 : decode cL_law 201 = .ok (.iload_n 3, 1) := by decide +kernel
theorem dL_law_202 : decode cL_law 202 = .ok (.iconst 2, 1) := by decide +kernel
theorem dL_law_203 : decode cL_law 203 = .ok (.iadd, 1) := by decide +kernel
theorem dL_law_204 : decode cL_law 204 = .ok (.iaload, 1) := by decide +kernel
theorem dL_law_205 : decode cL_law 205 = .ok (.invokevirtual 17, 3) := by decide +kernel
theorem dL_law_208 : decode cL_law 208 = .ok (.if_icmp .eq 1178, 3) := by decide +kernel
theorem dL_law_211 : decode cL_law 211 = .ok (.iconst 0, 1) := by decide +kernel
theorem dL_law_212 : decode cL_law 212 = .ok (.ireturn, 1) := by decide +kernel
theorem dL_law_213 : decode cL_law 213 = .ok (.aload_n 1, 1) := by decide +kernel
theorem dL_law_214 : decode cL_law 214 = .ok (.aload_n 0, 1) := by decide +kernel
theorem dL_law_215 : decode cL_law 215 = .ok (.iload_n 3, 1) := by decide +kernel
theorem dL_law_216 : decode cL_law 216 = .ok (.iconst 1, 1) := by decide +kernel
theorem dL_law_217 : decode cL_law 217 = .ok (.iadd, 1) := by decide +kernel
theorem dL_law_218 : decode cL_law 218 = .ok (.iaload, 1) := by decide +kernel
theorem dL_law_219 : decode cL_law 219 = .ok (.aload_n 0, 1) := by decide +kernel
theorem dL_law_220 : decode cL_law 220 = .ok (.iload_n 3, 1) := by decide +kernel
theorem dL_law_221 : decode cL_law 221 = .ok (.iconst 2, 1) := by decide +kernel
theorem dL_law_222 : decode cL_law 222 = .ok (.iadd, 1) := by decide +kernel
theorem dL_law_223 : decode cL_law 223 = .ok (.iaload, 1) := by decide +kernel
theorem dL_law_224 : decode cL_law 224 = .ok (.aload_n 0, 1) := by decide +kernel
theorem dL_law_225 : decode cL_law 225 = .ok (.iload_n 3, 1) := by decide +kernel
theorem dL_law_226 : decode cL_law 226 = .ok (.iconst 3, 1) := by decide +kernel
theorem dL_law_227 : decode cL_law 227 = .ok (.iadd, 1) := by decide +kernel
theorem dL_law_228 : decode cL_law 228 = .ok (.iaload, 1) := by decide +kernel
theorem dL_law_229 : decode cL_law 229 = .ok (.invokevirtual 18, 3) := by decide +kernel
theorem dL_law_232 : decode cL_law 232 = .ok (.aload_n 2, 1) := by decide +kernel
theorem dL_law_233 : decode cL_law 233 = .ok (.aload_n 0, 1) := by decide +kernel
theorem dL_law_234 : decode cL_law 234 = .ok (.iload_n 3, 1) := by decide +kernel
theorem dL_law_235 : decode cL_law 235 = .ok (.iconst 1, 1) := by decide +kernel
theorem dL_law_236 : decode cL_law 236 = .ok (.iadd, 1) := by decide +kernel
theorem dL_law_237 : decode cL_law 237 = .ok (.iaload, 1) := by decide +kernel
theorem dL_law_238 : decode cL_law 238 = .ok (.aload_n 0, 1) := by decide +kernel
theorem dL_law_239 : decode cL_law 239 = .ok (.iload_n 3, 1) := by decide +kernel
theorem dL_law_240 : decode cL_law 240 = .ok (.iconst 2, 1) := by decide +kernel
theorem dL_law_241 : decode cL_law 241 = .ok (.iadd, 1) := by decide +kernel
theorem dL_law_242 : decode cL_law 242 = .ok (.iaload, 1) := by decide +kernel
theorem dL_law_243 : decode cL_law 243 = .ok (.aload_n 0, 1) := by decide +kernel
theorem dL_law_244 : decode cL_law 244 = .ok (.iload_n 3, 1) := by decide +kernel
theorem dL_law_245 : decode cL_law 245 = .ok (.iconst 3, 1) := by decide +kernel
theorem dL_law_246 : decode cL_law 246 = .ok (.iadd, 1) := by decide +kernel
theorem dL_law_247 : decode cL_law 247 = .ok (.iaload, 1) := by decide +kernel
theorem dL_law_248 : decode cL_law 248 = .ok (.invokevirtual 22, 3) := by decide +kernel
theorem dL_law_251 : decode cL_law 251 = .ok (.if_icmp .eq 1135, 3) := by decide +kernel
theorem dL_law_254 : decode cL_law 254 = .ok (.iconst 0, 1) := by decide +kernel
theorem dL_law_255 : decode cL_law 255 = .ok (.ireturn, 1) := by decide +kernel
theorem dL_law_256 : decode cL_law 256 = .ok (.aload_n 1, 1) := by decide +kernel
theorem dL_law_257 : decode cL_law 257 = .ok (.aload_n 0, 1) := by decide +kernel
theorem dL_law_258 : decode cL_law 258 = .ok (.iload_n 3, 1) := by decide +kernel
theorem dL_law_259 : decode cL_law 259 = .ok (.iconst 1, 1) := by decide +kernel
theorem dL_law_260 : decode cL_law 260 = .ok (.iadd, 1) := by decide +kernel
theorem dL_law_261 : decode cL_law 261 = .ok (.iaload, 1) := by decide +kernel
theorem dL_law_262 : decode cL_law 262 = .ok (.aload_n 0, 1) := by decide +kernel
theorem dL_law_263 : decode cL_law 263 = .ok (.iload_n 3, 1) := by decide +kernel
theorem dL_law_264 : decode cL_law 264 = .ok (.iconst 2, 1) := by decide +kernel
theorem dL_law_265 : decode cL_law 265 = .ok (.iadd, 1) := by decide +kernel
theorem dL_law_266 : decode cL_law 266 = .ok (.iaload, 1) := by decide +kernel
theorem dL_law_267 : decode cL_law 267 = .ok (.aload_n 0, 1) := by decide +kernel
theorem dL_law_268 : decode cL_law 268 = .ok (.iload_n 3, 1) := by decide +kernel
theorem dL_law_269 : decode cL_law 269 = .ok (.iconst 3, 1) := by decide +kernel
theorem dL_law_270 : decode cL_law 270 = .ok (.iadd, 1) := by decide +kernel
theorem dL_law_271 : decode cL_law 271 = .ok (.iaload, 1) := by decide +kernel
theorem dL_law_272 : decode cL_law 272 = .ok (.invokevirtual 23, 3) := by decide +kernel
theorem dL_law_275 : decode cL_law 275 = .ok (.aload_n 2, 1) := by decide +kernel
theorem dL_law_276 : decode cL_law 276 = .ok (.aload_n 0, 1) := by decide +kernel
theorem dL_law_277 : decode cL_law 277 = .ok (.iload_n 3, 1) := by decide +kernel
theorem dL_law_278 : decode cL_law 278 = .ok (.iconst 1, 1) := by decide +kernel
theorem dL_law_279 : decode cL_law 279 = .ok (.iadd, 1) := by decide +kernel
theorem dL_law_280 : decode cL_law 280 = .ok (.iaload, 1) := by decide +kernel
theorem dL_law_281 : decode cL_law 281 = .ok (.aload_n 0, 1) := by decide +kernel
theorem dL_law_282 : decode cL_law 282 = .ok (.iload_n 3, 1) := by decide +kernel
theorem dL_law_283 : decode cL_law 283 = .ok (.iconst 2, 1) := by decide +kernel
theorem dL_law_284 : decode cL_law 284 = .ok (.iadd, 1) := by decide +kernel
theorem dL_law_285 : decode cL_law 285 = .ok (.iaload, 1) := by decide +kernel
theorem dL_law_286 : decode cL_law 286 = .ok (.aload_n 0, 1) := by decide +kernel
theorem dL_law_287 : decode cL_law 287 = .ok (.iload_n 3, 1) := by decide +kernel
theorem dL_law_288 : decode cL_law 288 = .ok (.iconst 3, 1) := by decide +kernel
theorem dL_law_289 : decode cL_law 289 = .ok (.iadd, 1) := by decide +kernel
theorem dL_law_290 : decode cL_law 290 = .ok (.iaload, 1) := by decide +kernel
theorem dL_law_291 : decode cL_law 291 = .ok (.invokevirtual 26, 3) := by decide +kernel
theorem dL_law_294 : decode cL_law 294 = .ok (.if_icmp .eq 1092, 3) := by decide +kernel
theorem dL_law_297 : decode cL_law 297 = .ok (.iconst 0, 1) := by decide +kernel
theorem dL_law_298 : decode cL_law 298 = .ok (.ireturn, 1) := by decide +kernel
theorem dL_law_299 : decode cL_law 299 = .ok (.aload_n 1, 1) := by decide +kernel
theorem dL_law_300 : decode cL_law 300 = .ok (.aload_n 0, 1) := by decide +kernel
theorem dL_law_301 : decode cL_law 301 = .ok (.iload_n 3, 1) := by decide +kernel
theorem dL_law_302 : decode cL_law 302 = .ok (.iconst 1, 1) := by decide +kernel
theorem dL_law_303 : decode cL_law 303 = .ok (.iadd, 1) := by decide +kernel
theorem dL_law_304 : decode cL_law 304 = .ok (.iaload, 1) := by decide +kernel
theorem dL_law_305 : decode cL_law 305 = .ok (.aload_n 0, 1) := by decide +kernel
theorem dL_law_306 : decode cL_law 306 = .ok (.iload_n 3, 1) := by decide +kernel
theorem dL_law_307 : decode cL_law 307 = .ok (.iconst 2, 1) := by decide +kernel
theorem dL_law_308 : decode cL_law 308 = .ok (.iadd, 1) := by decide +kernel
theorem dL_law_309 : decode cL_law 309 = .ok (.iaload, 1) := by decide +kernel
theorem dL_law_310 : decode cL_law 310 = .ok (.aload_n 0, 1) := by decide +kernel
theorem dL_law_311 : decode cL_law 311 = .ok (.iload_n 3, 1) := by decide +kernel
theorem dL_law_312 : decode cL_law 312 = .ok (.iconst 3, 1) := by decide +kernel
theorem dL_law_313 : decode cL_law 313 = .ok (.iadd, 1) := by decide +kernel
theorem dL_law_314 : decode cL_law 314 = .ok (.iaload, 1) := by decide +kernel
theorem dL_law_315 : decode cL_law 315 = .ok (.ifCond .eq 7, 3) := by decide +kernel
theorem dL_law_318 : decode cL_law 318 = .ok (.iconst 1, 1) := by decide +kernel
theorem dL_law_319 : decode cL_law 319 = .ok (.goto 4, 3) := by decide +kernel
theorem dL_law_322 : decode cL_law 322 = .ok (.iconst 0, 1) := by decide +kernel
theorem dL_law_323 : decode cL_law 323 = .ok (.invokevirtual 27, 3) := by decide +kernel
theorem dL_law_326 : decode cL_law 326 = .ok (.aload_n 2, 1) := by decide +kernel
theorem dL_law_327 : decode cL_law 327 = .ok (.aload_n 0, 1) := by decide +kernel
theorem dL_law_328 : decode cL_law 328 = .ok (.iload_n 3, 1) := by decide +kernel
theorem dL_law_329 : decode cL_law 329 = .ok (.iconst 1, 1) := by decide +kernel
theorem dL_law_330 : decode cL_law 330 = .ok (.iadd, 1) := by decide +kernel
theorem dL_law_331 : decode cL_law 331 = .ok (.iaload, 1) := by decide +kernel
theorem dL_law_332 : decode cL_law 332 = .ok (.aload_n 0, 1) := by decide +kernel
theorem dL_law_333 : decode cL_law 333 = .ok (.iload_n 3, 1) := by decide +kernel
theorem dL_law_334 : decode cL_law 334 = .ok (.iconst 2, 1) := by decide +kernel
theorem dL_law_335 : decode cL_law 335 = .ok (.iadd, 1) := by decide +kernel
theorem dL_law_336 : decode cL_law 336 = .ok (.iaload, 1) := by decide +kernel
theorem dL_law_337 : decode cL_law 337 = .ok (.aload_n 0, 1) := by decide +kernel
theorem dL_law_338 : decode cL_law 338 = .ok (.iload_n 3, 1) := by decide +kernel
theorem dL_law_339 : decode cL_law 339 = .ok (.iconst 3, 1) := by decide +kernel
theorem dL_law_340 : decode cL_law 340 = .ok (.iadd, 1) := by decide +kernel
theorem dL_law_341 : decode cL_law 341 = .ok (.iaload, 1) := by decide +kernel
theorem dL_law_342 : decode cL_law 342 = .ok (.ifCond .eq 7, 3) := by decide +kernel
theorem dL_law_345 : decode cL_law 345 = .ok (.iconst 1, 1) := by decide +kernel
theorem dL_law_346 : decode cL_law 346 = .ok (.goto 4, 3) := by decide +kernel
theorem dL_law_349 : decode cL_law 349 = .ok (.iconst 0, 1) := by decide +kernel
theorem dL_law_350 : decode cL_law 350 = .ok (.invokevirtual 31, 3) := by decide +kernel
theorem dL_law_353 : decode cL_law 353 = .ok (.if_icmp .eq 1033, 3) := by decide +kernel
theorem dL_law_356 : decode cL_law 356 = .ok (.iconst 0, 1) := by decide +kernel
theorem dL_law_357 : decode cL_law 357 = .ok (.ireturn, 1) := by decide +kernel
theorem dL_law_358 : decode cL_law 358 = .ok (.aload_n 1, 1) := by decide +kernel
theorem dL_law_359 : decode cL_law 359 = .ok (.aload_n 0, 1) := by decide +kernel
theorem dL_law_360 : decode cL_law 360 = .ok (.iload_n 3, 1) := by decide +kernel
theorem dL_law_361 : decode cL_law 361 = .ok (.iconst 1, 1) := by decide +kernel
theorem dL_law_362 : decode cL_law 362 = .ok (.iadd, 1) := by decide +kernel
theorem dL_law_363 : decode cL_law 363 = .ok (.iaload, 1) := by decide +kernel
theorem dL_law_364 : decode cL_law 364 = .ok (.aload_n 0, 1) := by decide +kernel
theorem dL_law_365 : decode cL_law 365 = .ok (.iload_n 3, 1) := by decide +kernel
theorem dL_law_366 : decode cL_law 366 = .ok (.iconst 2, 1) := by decide +kernel
theorem dL_law_367 : decode cL_law 367 = .ok (.iadd, 1) := by decide +kernel
theorem dL_law_368 : decode cL_law 368 = .ok (.iaload, 1) := by decide +kernel
theorem dL_law_369 : decode cL_law 369 = .ok (.aload_n 0, 1) := by decide +kernel
theorem dL_law_370 : decode cL_law 370 = .ok (.iload_n 3, 1) := by decide +kernel
theorem dL_law_371 : decode cL_law 371 = .ok (.iconst 3, 1) := by decide +kernel
theorem dL_law_372 : decode cL_law 372 = .ok (.iadd, 1) := by decide +kernel
theorem dL_law_373 : decode cL_law 373 = .ok (.iaload, 1) := by decide +kernel
theorem dL_law_374 : decode cL_law 374 = .ok (.invokevirtual 32, 3) := by decide +kernel
theorem dL_law_377 : decode cL_law 377 = .ok (.aload_n 2, 1) := by decide +kernel
theorem dL_law_378 : decode cL_law 378 = .ok (.aload_n 0, 1) := by decide +kernel
theorem dL_law_379 : decode cL_law 379 = .ok (.iload_n 3, 1) := by decide +kernel
theorem dL_law_380 : decode cL_law 380 = .ok (.iconst 1, 1) := by decide +kernel
theorem dL_law_381 : decode cL_law 381 = .ok (.iadd, 1) := by decide +kernel
theorem dL_law_382 : decode cL_law 382 = .ok (.iaload, 1) := by decide +kernel
theorem dL_law_383 : decode cL_law 383 = .ok (.aload_n 0, 1) := by decide +kernel
theorem dL_law_384 : decode cL_law 384 = .ok (.iload_n 3, 1) := by decide +kernel
theorem dL_law_385 : decode cL_law 385 = .ok (.iconst 2, 1) := by decide +kernel
theorem dL_law_386 : decode cL_law 386 = .ok (.iadd, 1) := by decide +kernel
theorem dL_law_387 : decode cL_law 387 = .ok (.iaload, 1) := by decide +kernel
theorem dL_law_388 : decode cL_law 388 = .ok (.aload_n 0, 1) := by decide +kernel
theorem dL_law_389 : decode cL_law 389 = .ok (.iload_n 3, 1) := by decide +kernel
theorem dL_law_390 : decode cL_law 390 = .ok (.iconst 3, 1) := by decide +kernel
theorem dL_law_391 : decode cL_law 391 = .ok (.iadd, 1) := by decide +kernel
theorem dL_law_392 : decode cL_law 392 = .ok (.iaload, 1) := by decide +kernel
theorem dL_law_393 : decode cL_law 393 = .ok (.invokevirtual 35, 3) := by decide +kernel
theorem dL_law_396 : decode cL_law 396 = .ok (.if_icmp .eq 990, 3) := by decide +kernel
theorem dL_law_399 : decode cL_law 399 = .ok (.iconst 0, 1) := by decide +kernel
theorem dL_law_400 : decode cL_law 400 = .ok (.ireturn, 1) := by decide +kernel
theorem dL_law_401 : decode cL_law 401 = .ok (.aload_n 1, 1) := by decide +kernel
theorem dL_law_402 : decode cL_law 402 = .ok (.aload_n 0, 1) := by decide +kernel
theorem dL_law_403 : decode cL_law 403 = .ok (.iload_n 3, 1) := by decide +kernel
theorem dL_law_404 : decode cL_law 404 = .ok (.iconst 1, 1) := by decide +kernel
theorem dL_law_405 : decode cL_law 405 = .ok (.iadd, 1) := by decide +kernel
theorem dL_law_406 : decode cL_law 406 = .ok (.iaload, 1) := by decide +kernel
theorem dL_law_407 : decode cL_law 407 = .ok (.aload_n 0, 1) := by decide +kernel
theorem dL_law_408 : decode cL_law 408 = .ok (.iload_n 3, 1) := by decide +kernel
theorem dL_law_409 : decode cL_law 409 = .ok (.iconst 2, 1) := by decide +kernel
theorem dL_law_410 : decode cL_law 410 = .ok (.iadd, 1) := by decide +kernel
theorem dL_law_411 : decode cL_law 411 = .ok (.iaload, 1) := by decide +kernel
theorem dL_law_412 : decode cL_law 412 = .ok (.invokevirtual 36, 3) := by decide +kernel
theorem dL_law_415 : decode cL_law 415 = .ok (.aload_n 2, 1) := by decide +kernel
theorem dL_law_416 : decode cL_law 416 = .ok (.aload_n 0, 1) := by decide +kernel
theorem dL_law_417 : decode cL_law 417 = .ok (.iload_n 3, 1) := by decide +kernel
theorem dL_law_418 : decode cL_law 418 = .ok (.iconst 1, 1) := by decide +kernel
theorem dL_law_419 : decode cL_law 419 = .ok (.iadd, 1) := by decide +kernel
theorem dL_law_420 : decode cL_law 420 = .ok (.iaload, 1) := by decide +kernel
theorem dL_law_421 : decode cL_law 421 = .ok (.aload_n 0, 1) := by decide +kernel
theorem dL_law_422 : decode cL_law 422 = .ok (.iload_n 3, 1) := by decide +kernel
theorem dL_law_423 : decode cL_law 423 = .ok (.iconst 2, 1) := by decide +kernel
theorem dL_law_424 : decode cL_law 424 = .ok (.iadd, 1) := by decide +kernel
theorem dL_law_425 : decode cL_law 425 = .ok (.iaload, 1) := by decide +kernel
theorem dL_law_426 : decode cL_law 426 = .ok (.invokevirtual 39, 3) := by decide +kernel
theorem dL_law_429 : decode cL_law 429 = .ok (.if_icmp .eq 957, 3) := by decide +kernel
theorem dL_law_432 : decode cL_law 432 = .ok (.iconst 0, 1) := by decide +kernel
theorem dL_law_433 : decode cL_law 433 = .ok (.ireturn, 1) := by decide +kernel
theorem dL_law_434 : decode cL_law 434 = .ok (.aload_n 1, 1) := by decide +kernel
theorem dL_law_435 : decode cL_law 435 = .ok (.aload_n 0, 1) := by decide +kernel
theorem dL_law_436 : decode cL_law 436 = .ok (.iload_n 3, 1) := by decide +kernel
theorem dL_law_437 : decode cL_law 437 = .ok (.iconst 1, 1) := by decide +kernel
theorem dL_law_438 : decode cL_law 438 = .ok (.iadd, 1) := by decide +kernel
theorem dL_law_439 : decode cL_law 439 = .ok (.iaload, 1) := by decide +kernel
theorem dL_law_440 : decode cL_law 440 = .ok (.aload_n 0, 1) := by decide +kernel
theorem dL_law_441 : decode cL_law 441 = .ok (.iload_n 3, 1) := by decide +kernel
theorem dL_law_442 : decode cL_law 442 = .ok (.iconst 2, 1) := by decide +kernel
theorem dL_law_443 : decode cL_law 443 = .ok (.iadd, 1) := by decide +kernel
theorem dL_law_444 : decode cL_law 444 = .ok (.iaload, 1) := by decide +kernel
theorem dL_law_445 : decode cL_law 445 = .ok (.invokevirtual 40, 3) := by decide +kernel
theorem dL_law_448 : decode cL_law 448 = .ok (.aload_n 2, 1) := by decide +kernel
theorem dL_law_449 : decode cL_law 449 = .ok (.aload_n 0, 1) := by decide +kernel
theorem dL_law_450 : decode cL_law 450 = .ok (.iload_n 3, 1) := by decide +kernel
theorem dL_law_451 : decode cL_law 451 = .ok (.iconst 1, 1) := by decide +kernel
theorem dL_law_452 : decode cL_law 452 = .ok (.iadd, 1) := by decide +kernel
theorem dL_law_453 : decode cL_law 453 = .ok (.iaload, 1) := by decide +kernel
theorem dL_law_454 : decode cL_law 454 = .ok (.aload_n 0, 1) := by decide +kernel
theorem dL_law_455 : decode cL_law 455 = .ok (.iload_n 3, 1) := by decide +kernel
theorem dL_law_456 : decode cL_law 456 = .ok (.iconst 2, 1) := by decide +kernel
theorem dL_law_457 : decode cL_law 457 = .ok (.iadd, 1) := by decide +kernel
theorem dL_law_458 : decode cL_law 458 = .ok (.iaload, 1) := by decide +kernel
theorem dL_law_459 : decode cL_law 459 = .ok (.invokevirtual 43, 3) := by decide +kernel
theorem dL_law_462 : decode cL_law 462 = .ok (.if_icmp .eq 924, 3) := by decide +kernel
theorem dL_law_465 : decode cL_law 465 = .ok (.iconst 0, 1) := by decide +kernel
theorem dL_law_466 : decode cL_law 466 = .ok (.ireturn, 1) := by decide +kernel
theorem dL_law_467 : decode cL_law 467 = .ok (.aload_n 1, 1) := by decide +kernel
theorem dL_law_468 : decode cL_law 468 = .ok (.aload_n 0, 1) := by decide +kernel
theorem dL_law_469 : decode cL_law 469 = .ok (.iload_n 3, 1) := by decide +kernel
theorem dL_law_470 : decode cL_law 470 = .ok (.iconst 1, 1) := by decide +kernel
theorem dL_law_471 : decode cL_law 471 = .ok (.iadd, 1) := by decide +kernel
theorem dL_law_472 : decode cL_law 472 = .ok (.iaload, 1) := by decide +kernel
theorem dL_law_473 : decode cL_law 473 = .ok (.aload_n 0, 1) := by decide +kernel
theorem dL_law_474 : decode cL_law 474 = .ok (.iload_n 3, 1) := by decide +kernel
theorem dL_law_475 : decode cL_law 475 = .ok (.iconst 2, 1) := by decide +kernel
theorem dL_law_476 : decode cL_law 476 = .ok (.iadd, 1) := by decide +kernel
theorem dL_law_477 : decode cL_law 477 = .ok (.iaload, 1) := by decide +kernel
theorem dL_law_478 : decode cL_law 478 = .ok (.invokevirtual 44, 3) := by decide +kernel
theorem dL_law_481 : decode cL_law 481 = .ok (.aload_n 2, 1) := by decide +kernel
theorem dL_law_482 : decode cL_law 482 = .ok (.aload_n 0, 1) := by decide +kernel
theorem dL_law_483 : decode cL_law 483 = .ok (.iload_n 3, 1) := by decide +kernel
theorem dL_law_484 : decode cL_law 484 = .ok (.iconst 1, 1) := by decide +kernel
theorem dL_law_485 : decode cL_law 485 = .ok (.iadd, 1) := by decide +kernel
theorem dL_law_486 : decode cL_law 486 = .ok (.iaload, 1) := by decide +kernel
theorem dL_law_487 : decode cL_law 487 = .ok (.aload_n 0, 1) := by decide +kernel
theorem dL_law_488 : decode cL_law 488 = .ok (.iload_n 3, 1) := by decide +kernel
theorem dL_law_489 : decode cL_law 489 = .ok (.iconst 2, 1) := by decide +kernel
theorem dL_law_490 : decode cL_law 490 = .ok (.iadd, 1) := by decide +kernel
theorem dL_law_491 : decode cL_law 491 = .ok (.iaload, 1) := by decide +kernel
theorem dL_law_492 : decode cL_law 492 = .ok (.invokevirtual 47, 3) := by decide +kernel
theorem dL_law_495 : decode cL_law 495 = .ok (.if_icmp .eq 891, 3) := by decide +kernel
theorem dL_law_498 : decode cL_law 498 = .ok (.iconst 0, 1) := by decide +kernel
theorem dL_law_499 : decode cL_law 499 = .ok (.ireturn, 1) := by decide +kernel
theorem dL_law_500 : decode cL_law 500 = .ok (.aload_n 1, 1) := by decide +kernel
theorem dL_law_501 : decode cL_law 501 = .ok (.invokevirtual 48, 3) := by decide +kernel
theorem dL_law_504 : decode cL_law 504 = .ok (.aload_n 2, 1) := by decide +kernel
theorem dL_law_505 : decode cL_law 505 = .ok (.invokevirtual 52, 3) := by decide +kernel
theorem dL_law_508 : decode cL_law 508 = .ok (.if_icmp .eq 878, 3) := by decide +kernel
theorem dL_law_511 : decode cL_law 511 = .ok (.iconst 0, 1) := by decide +kernel
theorem dL_law_512 : decode cL_law 512 = .ok (.ireturn, 1) := by decide +kernel
theorem dL_law_513 : decode cL_law 513 = .ok (.aload_n 1, 1) := by decide +kernel
theorem dL_law_514 : decode cL_law 514 = .ok (.aload_n 0, 1) := by decide +kernel
theorem dL_law_515 : decode cL_law 515 = .ok (.iload_n 3, 1) := by decide +kernel
theorem dL_law_516 : decode cL_law 516 = .ok (.iconst 1, 1) := by decide +kernel
theorem dL_law_517 : decode cL_law 517 = .ok (.iadd, 1) := by decide +kernel
theorem dL_law_518 : decode cL_law 518 = .ok (.iaload, 1) := by decide +kernel
theorem dL_law_519 : decode cL_law 519 = .ok (.invokevirtual 53, 3) := by decide +kernel
theorem dL_law_522 : decode cL_law 522 = .ok (.aload_n 2, 1) := by decide +kernel
theorem dL_law_523 : decode cL_law 523 = .ok (.aload_n 0, 1) := by decide +kernel
theorem dL_law_524 : decode cL_law 524 = .ok (.iload_n 3, 1) := by decide +kernel
theorem dL_law_525 : decode cL_law 525 = .ok (.iconst 1, 1) := by decide +kernel
theorem dL_law_526 : decode cL_law 526 = .ok (.iadd, 1) := by decide +kernel
theorem dL_law_527 : decode cL_law 527 = .ok (.iaload, 1) := by decide +kernel
theorem dL_law_528 : decode cL_law 528 = .ok (.invokevirtual 57, 3) := by decide +kernel
theorem dL_law_531 : decode cL_law 531 = .ok (.if_icmp .eq 855, 3) := by decide +kernel
theorem dL_law_534 : decode cL_law 534 = .ok (.iconst 0, 1) := by decide +kernel
theorem dL_law_535 : decode cL_law 535 = .ok (.ireturn, 1) := by decide +kernel
theorem dL_law_536 : decode cL_law 536 = .ok (.aload_n 1, 1) := by decide +kernel
theorem dL_law_537 : decode cL_law 537 = .ok (.aload_n 0, 1) := by decide +kernel
theorem dL_law_538 : decode cL_law 538 = .ok (.iload_n 3, 1) := by decide +kernel
theorem dL_law_539 : decode cL_law 539 = .ok (.iconst 1, 1) := by decide +kernel
theorem dL_law_540 : decode cL_law 540 = .ok (.iadd, 1) := by decide +kernel
theorem dL_law_541 : decode cL_law 541 = .ok (.iaload, 1) := by decide +kernel
theorem dL_law_542 : decode cL_law 542 = .ok (.aload_n 0, 1) := by decide +kernel
theorem dL_law_543 : decode cL_law 543 = .ok (.iload_n 3, 1) := by decide +kernel
theorem dL_law_544 : decode cL_law 544 = .ok (.iconst 2, 1) := by decide +kernel
theorem dL_law_545 : decode cL_law 545 = .ok (.iadd, 1) := by decide +kernel
theorem dL_law_546 : decode cL_law 546 = .ok (.iaload, 1) := by decide +kernel
theorem dL_law_547 : decode cL_law 547 = .ok (.invokevirtual 58, 3) := by decide +kernel
theorem dL_law_550 : decode cL_law 550 = .ok (.aload_n 2, 1) := by decide +kernel
theorem dL_law_551 : decode cL_law 551 = .ok (.aload_n 0, 1) := by decide +kernel
theorem dL_law_552 : decode cL_law 552 = .ok (.iload_n 3, 1) := by decide +kernel
theorem dL_law_553 : decode cL_law 553 = .ok (.iconst 1, 1) := by decide +kernel
theorem dL_law_554 : decode cL_law 554 = .ok (.iadd, 1) := by decide +kernel
theorem dL_law_555 : decode cL_law 555 = .ok (.iaload, 1) := by decide +kernel
theorem dL_law_556 : decode cL_law 556 = .ok (.aload_n 0, 1) := by decide +kernel
theorem dL_law_557 : decode cL_law 557 = .ok (.iload_n 3, 1) := by decide +kernel
theorem dL_law_558 : decode cL_law 558 = .ok (.iconst 2, 1) := by decide +kernel
theorem dL_law_559 : decode cL_law 559 = .ok (.iadd, 1) := by decide +kernel
theorem dL_law_560 : decode cL_law 560 = .ok (.iaload, 1) := by decide +kernel
theorem dL_law_561 : decode cL_law 561 = .ok (.invokevirtual 61, 3) := by decide +kernel
theorem dL_law_564 : decode cL_law 564 = .ok (.if_icmp .eq 822, 3) := by decide +kernel
theorem dL_law_567 : decode cL_law 567 = .ok (.iconst 0, 1) := by decide +kernel
theorem dL_law_568 : decode cL_law 568 = .ok (.ireturn, 1) := by decide +kernel
theorem dL_law_569 : decode cL_law 569 = .ok (.aload_n 1, 1) := by decide +kernel
theorem dL_law_570 : decode cL_law 570 = .ok (.aload_n 0, 1) := by decide +kernel
theorem dL_law_571 : decode cL_law 571 = .ok (.iload_n 3, 1) := by decide +kernel
theorem dL_law_572 : decode cL_law 572 = .ok (.iconst 1, 1) := by decide +kernel
theorem dL_law_573 : decode cL_law 573 = .ok (.iadd, 1) := by decide +kernel
theorem dL_law_574 : decode cL_law 574 = .ok (.iaload, 1) := by decide +kernel
theorem dL_law_575 : decode cL_law 575 = .ok (.aload_n 0, 1) := by decide +kernel
theorem dL_law_576 : decode cL_law 576 = .ok (.iload_n 3, 1) := by decide +kernel
theorem dL_law_577 : decode cL_law 577 = .ok (.iconst 2, 1) := by decide +kernel
theorem dL_law_578 : decode cL_law 578 = .ok (.iadd, 1) := by decide +kernel
theorem dL_law_579 : decode cL_law 579 = .ok (.iaload, 1) := by decide +kernel
theorem dL_law_580 : decode cL_law 580 = .ok (.ifCond .eq 7, 3) := by decide +kernel
theorem dL_law_583 : decode cL_law 583 = .ok (.iconst 1, 1) := by decide +kernel
theorem dL_law_584 : decode cL_law 584 = .ok (.goto 4, 3) := by decide +kernel
theorem dL_law_587 : decode cL_law 587 = .ok (.iconst 0, 1) := by decide +kernel
theorem dL_law_588 : decode cL_law 588 = .ok (.aload_n 0, 1) := by decide +kernel
theorem dL_law_589 : decode cL_law 589 = .ok (.iload_n 3, 1) := by decide +kernel
theorem dL_law_590 : decode cL_law 590 = .ok (.iconst 3, 1) := by decide +kernel
theorem dL_law_591 : decode cL_law 591 = .ok (.iadd, 1) := by decide +kernel
theorem dL_law_592 : decode cL_law 592 = .ok (.iaload, 1) := by decide +kernel
theorem dL_law_593 : decode cL_law 593 = .ok (.invokevirtual 62, 3) := by decide +kernel
theorem dL_law_596 : decode cL_law 596 = .ok (.aload_n 2, 1) := by decide +kernel
theorem dL_law_597 : decode cL_law 597 = .ok (.aload_n 0, 1) := by decide +kernel
theorem dL_law_598 : decode cL_law 598 = .ok (.iload_n 3, 1) := by decide +kernel
theorem dL_law_599 : decode cL_law 599 = .ok (.iconst 1, 1) := by decide +kernel
theorem dL_law_600 : decode cL_law 600 = .ok (.iadd, 1) := by decide +kernel
theorem dL_law_601 : decode cL_law 601 = .ok (.iaload, 1) := by decide +kernel
theorem dL_law_602 : decode cL_law 602 = .ok (.aload_n 0, 1) := by decide +kernel
theorem dL_law_603 : decode cL_law 603 = .ok (.iload_n 3, 1) := by decide +kernel
theorem dL_law_604 : decode cL_law 604 = .ok (.iconst 2, 1) := by decide +kernel
theorem dL_law_605 : decode cL_law 605 = .ok (.iadd, 1) := by decide +kernel
theorem dL_law_606 : decode cL_law 606 = .ok (.iaload, 1) := by decide +kernel
theorem dL_law_607 : decode cL_law 607 = .ok (.ifCond .eq 7, 3) := by decide +kernel
theorem dL_law_610 : decode cL_law 610 = .ok (.iconst 1, 1) := by decide +kernel
theorem dL_law_611 : decode cL_law 611 = .ok (.goto 4, 3) := by decide +kernel
theorem dL_law_614 : decode cL_law 614 = .ok (.iconst 0, 1) := by decide +kernel
theorem dL_law_615 : decode cL_law 615 = .ok (.aload_n 0, 1) := by decide +kernel
theorem dL_law_616 : decode cL_law 616 = .ok (.iload_n 3, 1) := by decide +kernel
theorem dL_law_617 : decode cL_law 617 = .ok (.iconst 3, 1) := by decide +kernel
theorem dL_law_618 : decode cL_law 618 = .ok (.iadd, 1) := by decide +kernel
theorem dL_law_619 : decode cL_law 619 = .ok (.iaload, 1) := by decide +kernel
theorem dL_law_620 : decode cL_law 620 = .ok (.invokevirtual 66, 3) := by decide +kernel
theorem dL_law_623 : decode cL_law 623 = .ok (.lcmp, 1) := by decide +kernel
theorem dL_law_624 : decode cL_law 624 = .ok (.ifCond .eq 762, 3) := by decide +kernel
theorem dL_law_627 : decode cL_law 627 = .ok (.iconst 0, 1) := by decide +kernel
theorem dL_law_628 : decode cL_law 628 = .ok (.ireturn, 1) := by decide +kernel
theorem dL_law_629 : decode cL_law 629 = .ok (.aload_n 1, 1) := by decide +kernel
theorem dL_law_630 : decode cL_law 630 = .ok (.aload_n 0, 1) := by decide +kernel
theorem dL_law_631 : decode cL_law 631 = .ok (.iload_n 3, 1) := by decide +kernel
theorem dL_law_632 : decode cL_law 632 = .ok (.iconst 1, 1) := by decide +kernel
theorem dL_law_633 : decode cL_law 633 = .ok (.iadd, 1) := by decide +kernel
theorem dL_law_634 : decode cL_law 634 = .ok (.iaload, 1) := by decide +kernel
theorem dL_law_635 : decode cL_law 635 = .ok (.aload_n 0, 1) := by decide +kernel
theorem dL_law_636 : decode cL_law 636 = .ok (.iload_n 3, 1) := by decide +kernel
theorem dL_law_637 : decode cL_law 637 = .ok (.iconst 2, 1) := by decide +kernel
theorem dL_law_638 : decode cL_law 638 = .ok (.iadd, 1) := by decide +kernel
theorem dL_law_639 : decode cL_law 639 = .ok (.iaload, 1) := by decide +kernel
theorem dL_law_640 : decode cL_law 640 = .ok (.aload_n 0, 1) := by decide +kernel
theorem dL_law_641 : decode cL_law 641 = .ok (.iload_n 3, 1) := by decide +kernel
theorem dL_law_642 : decode cL_law 642 = .ok (.iconst 3, 1) := by decide +kernel
theorem dL_law_643 : decode cL_law 643 = .ok (.iadd, 1) := by decide +kernel
theorem dL_law_644 : decode cL_law 644 = .ok (.iaload, 1) := by decide +kernel
theorem dL_law_645 : decode cL_law 645 = .ok (.invokevirtual 67, 3) := by decide +kernel
theorem dL_law_648 : decode cL_law 648 = .ok (.aload_n 2, 1) := by decide +kernel
theorem dL_law_649 : decode cL_law 649 = .ok (.aload_n 0, 1) := by decide +kernel
theorem dL_law_650 : decode cL_law 650 = .ok (.iload_n 3, 1) := by decide +kernel
theorem dL_law_651 : decode cL_law 651 = .ok (.iconst 1, 1) := by decide +kernel
theorem dL_law_652 : decode cL_law 652 = .ok (.iadd, 1) := by decide +kernel
theorem dL_law_653 : decode cL_law 653 = .ok (.iaload, 1) := by decide +kernel
theorem dL_law_654 : decode cL_law 654 = .ok (.aload_n 0, 1) := by decide +kernel
theorem dL_law_655 : decode cL_law 655 = .ok (.iload_n 3, 1) := by decide +kernel
theorem dL_law_656 : decode cL_law 656 = .ok (.iconst 2, 1) := by decide +kernel
theorem dL_law_657 : decode cL_law 657 = .ok (.iadd, 1) := by decide +kernel
theorem dL_law_658 : decode cL_law 658 = .ok (.iaload, 1) := by decide +kernel
theorem dL_law_659 : decode cL_law 659 = .ok (.aload_n 0, 1) := by decide +kernel
theorem dL_law_660 : decode cL_law 660 = .ok (.iload_n 3, 1) := by decide +kernel
theorem dL_law_661 : decode cL_law 661 = .ok (.iconst 3, 1) := by decide +kernel
theorem dL_law_662 : decode cL_law 662 = .ok (.iadd, 1) := by decide +kernel
theorem dL_law_663 : decode cL_law 663 = .ok (.iaload, 1) := by decide +kernel
theorem dL_law_664 : decode cL_law 664 = .ok (.invokevirtual 71, 3) := by decide +kernel
theorem dL_law_667 : decode cL_law 667 = .ok (.lcmp, 1) := by decide +kernel
theorem dL_law_668 : decode cL_law 668 = .ok (.ifCond .eq 718, 3) := by decide +kernel
theorem dL_law_671 : decode cL_law 671 = .ok (.iconst 0, 1) := by decide +kernel
theorem dL_law_672 : decode cL_law 672 = .ok (.ireturn, 1) := by decide +kernel
theorem dL_law_673 : decode cL_law 673 = .ok (.aload_n 1, 1) := by decide +kernel
theorem dL_law_674 : decode cL_law 674 = .ok (.aload_n 0, 1) := by decide +kernel
theorem dL_law_675 : decode cL_law 675 = .ok (.iload_n 3, 1) := by decide +kernel
theorem dL_law_676 : decode cL_law 676 = .ok (.iconst 1, 1) := by decide +kernel
theorem dL_law_677 : decode cL_law 677 = .ok (.iadd, 1) := by decide +kernel
theorem dL_law_678 : decode cL_law 678 = .ok (.iaload, 1) := by decide +kernel
theorem dL_law_679 : decode cL_law 679 = .ok (.aload_n 0, 1) := by decide +kernel
theorem dL_law_680 : decode cL_law 680 = .ok (.iload_n 3, 1) := by decide +kernel
theorem dL_law_681 : decode cL_law 681 = .ok (.iconst 2, 1) := by decide +kernel
theorem dL_law_682 : decode cL_law 682 = .ok (.iadd, 1) := by decide +kernel
theorem dL_law_683 : decode cL_law 683 = .ok (.iaload, 1) := by decide +kernel
theorem dL_law_684 : decode cL_law 684 = .ok (.aload_n 0, 1) := by decide +kernel
theorem dL_law_685 : decode cL_law 685 = .ok (.iload_n 3, 1) := by decide +kernel
theorem dL_law_686 : decode cL_law 686 = .ok (.iconst 3, 1) := by decide +kernel
theorem dL_law_687 : decode cL_law 687 = .ok (.iadd, 1) := by decide +kernel
theorem dL_law_688 : decode cL_law 688 = .ok (.iaload, 1) := by decide +kernel
theorem dL_law_689 : decode cL_law 689 = .ok (.invokevirtual 72, 3) := by decide +kernel
theorem dL_law_692 : decode cL_law 692 = .ok (.aload_n 2, 1) := by decide +kernel
theorem dL_law_693 : decode cL_law 693 = .ok (.aload_n 0, 1) := by decide +kernel
theorem dL_law_694 : decode cL_law 694 = .ok (.iload_n 3, 1) := by decide +kernel
theorem dL_law_695 : decode cL_law 695 = .ok (.iconst 1, 1) := by decide +kernel
theorem dL_law_696 : decode cL_law 696 = .ok (.iadd, 1) := by decide +kernel
theorem dL_law_697 : decode cL_law 697 = .ok (.iaload, 1) := by decide +kernel
theorem dL_law_698 : decode cL_law 698 = .ok (.aload_n 0, 1) := by decide +kernel
theorem dL_law_699 : decode cL_law 699 = .ok (.iload_n 3, 1) := by decide +kernel
theorem dL_law_700 : decode cL_law 700 = .ok (.iconst 2, 1) := by decide +kernel
theorem dL_law_701 : decode cL_law 701 = .ok (.iadd, 1) := by decide +kernel
theorem dL_law_702 : decode cL_law 702 = .ok (.iaload, 1) := by decide +kernel
theorem dL_law_703 : decode cL_law 703 = .ok (.aload_n 0, 1) := by decide +kernel
theorem dL_law_704 : decode cL_law 704 = .ok (.iload_n 3, 1) := by decide +kernel
theorem dL_law_705 : decode cL_law 705 = .ok (.iconst 3, 1) := by decide +kernel
theorem dL_law_706 : decode cL_law 706 = .ok (.iadd, 1) := by decide +kernel
theorem dL_law_707 : decode cL_law 707 = .ok (.iaload, 1) := by decide +kernel
theorem dL_law_708 : decode cL_law 708 = .ok (.invokevirtual 75, 3) := by decide +kernel
theorem dL_law_711 : decode cL_law 711 = .ok (.lcmp, 1) := by decide +kernel
theorem dL_law_712 : decode cL_law 712 = .ok (.ifCond .eq 674, 3) := by decide +kernel
theorem dL_law_715 : decode cL_law 715 = .ok (.iconst 0, 1) := by decide +kernel
theorem dL_law_716 : decode cL_law 716 = .ok (.ireturn, 1) := by decide +kernel
theorem dL_law_717 : decode cL_law 717 = .ok (.aload_n 1, 1) := by decide +kernel
theorem dL_law_718 : decode cL_law 718 = .ok (.aload_n 0, 1) := by decide +kernel
theorem dL_law_719 : decode cL_law 719 = .ok (.iload_n 3, 1) := by decide +kernel
theorem dL_law_720 : decode cL_law 720 = .ok (.iconst 1, 1) := by decide +kernel
theorem dL_law_721 : decode cL_law 721 = .ok (.iadd, 1) := by decide +kernel
theorem dL_law_722 : decode cL_law 722 = .ok (.iaload, 1) := by decide +kernel
theorem dL_law_723 : decode cL_law 723 = .ok (.invokevirtual 76, 3) := by decide +kernel
theorem dL_law_726 : decode cL_law 726 = .ok (.aload_n 2, 1) := by decide +kernel
theorem dL_law_727 : decode cL_law 727 = .ok (.aload_n 0, 1) := by decide +kernel
theorem dL_law_728 : decode cL_law 728 = .ok (.iload_n 3, 1) := by decide +kernel
theorem dL_law_729 : decode cL_law 729 = .ok (.iconst 1, 1) := by decide +kernel
theorem dL_law_730 : decode cL_law 730 = .ok (.iadd, 1) := by decide +kernel
theorem dL_law_731 : decode cL_law 731 = .ok (.iaload, 1) := by decide +kernel
theorem dL_law_732 : decode cL_law 732 = .ok (.invokevirtual 79, 3) := by decide +kernel
theorem dL_law_735 : decode cL_law 735 = .ok (.if_icmp .eq 651, 3) := by decide +kernel
theorem dL_law_738 : decode cL_law 738 = .ok (.iconst 0, 1) := by decide +kernel
theorem dL_law_739 : decode cL_law 739 = .ok (.ireturn, 1) := by decide +kernel
theorem dL_law_740 : decode cL_law 740 = .ok (.aload_n 1, 1) := by decide +kernel
theorem dL_law_741 : decode cL_law 741 = .ok (.aload_n 0, 1) := by decide +kernel
theorem dL_law_742 : decode cL_law 742 = .ok (.iload_n 3, 1) := by decide +kernel
theorem dL_law_743 : decode cL_law 743 = .ok (.iconst 1, 1) := by decide +kernel
theorem dL_law_744 : decode cL_law 744 = .ok (.iadd, 1) := by decide +kernel
theorem dL_law_745 : decode cL_law 745 = .ok (.iaload, 1) := by decide +kernel
theorem dL_law_746 : decode cL_law 746 = .ok (.aload_n 0, 1) := by decide +kernel
theorem dL_law_747 : decode cL_law 747 = .ok (.iload_n 3, 1) := by decide +kernel
theorem dL_law_748 : decode cL_law 748 = .ok (.iconst 2, 1) := by decide +kernel
theorem dL_law_749 : decode cL_law 749 = .ok (.iadd, 1) := by decide +kernel
theorem dL_law_750 : decode cL_law 750 = .ok (.iaload, 1) := by decide +kernel
theorem dL_law_751 : decode cL_law 751 = .ok (.invokevirtual 80, 3) := by decide +kernel
theorem dL_law_754 : decode cL_law 754 = .ok (.aload_n 2, 1) := by decide +kernel
theorem dL_law_755 : decode cL_law 755 = .ok (.aload_n 0, 1) := by decide +kernel
theorem dL_law_756 : decode cL_law 756 = .ok (.iload_n 3, 1) := by decide +kernel
theorem dL_law_757 : decode cL_law 757 = .ok (.iconst 1, 1) := by decide +kernel
theorem dL_law_758 : decode cL_law 758 = .ok (.iadd, 1) := by decide +kernel
theorem dL_law_759 : decode cL_law 759 = .ok (.iaload, 1) := by decide +kernel
theorem dL_law_760 : decode cL_law 760 = .ok (.aload_n 0, 1) := by decide +kernel
theorem dL_law_761 : decode cL_law 761 = .ok (.iload_n 3, 1) := by decide +kernel
theorem dL_law_762 : decode cL_law 762 = .ok (.iconst 2, 1) := by decide +kernel
theorem dL_law_763 : decode cL_law 763 = .ok (.iadd, 1) := by decide +kernel
theorem dL_law_764 : decode cL_law 764 = .ok (.iaload, 1) := by decide +kernel
theorem dL_law_765 : decode cL_law 765 = .ok (.invokevirtual 83, 3) := by decide +kernel
theorem dL_law_768 : decode cL_law 768 = .ok (.if_icmp .eq 618, 3) := by decide +kernel
theorem dL_law_771 : decode cL_law 771 = .ok (.iconst 0, 1) := by decide +kernel
theorem dL_law_772 : decode cL_law 772 = .ok (.ireturn, 1) := by decide +kernel
theorem dL_law_773 : decode cL_law 773 = .ok (.aload_n 1, 1) := by decide +kernel
theorem dL_law_774 : decode cL_law 774 = .ok (.aload_n 0, 1) := by decide +kernel
theorem dL_law_775 : decode cL_law 775 = .ok (.iload_n 3, 1) := by decide +kernel
theorem dL_law_776 : decode cL_law 776 = .ok (.iconst 1, 1) := by decide +kernel
theorem dL_law_777 : decode cL_law 777 = .ok (.iadd, 1) := by decide +kernel
theorem dL_law_778 : decode cL_law 778 = .ok (.iaload, 1) := by decide +kernel
theorem dL_law_779 : decode cL_law 779 = .ok (.aload_n 0, 1) := by decide +kernel
theorem dL_law_780 : decode cL_law 780 = .ok (.iload_n 3, 1) := by decide +kernel
theorem dL_law_781 : decode cL_law 781 = .ok (.iconst 2, 1) := by decide +kernel
theorem dL_law_782 : decode cL_law 782 = .ok (.iadd, 1) := by decide +kernel
theorem dL_law_783 : decode cL_law 783 = .ok (.iaload, 1) := by decide +kernel
theorem dL_law_784 : decode cL_law 784 = .ok (.invokevirtual 84, 3) := by decide +kernel
theorem dL_law_787 : decode cL_law 787 = .ok (.aload_n 2, 1) := by decide +kernel
theorem dL_law_788 : decode cL_law 788 = .ok (.aload_n 0, 1) := by decide +kernel
theorem dL_law_789 : decode cL_law 789 = .ok (.iload_n 3, 1) := by decide +kernel
theorem dL_law_790 : decode cL_law 790 = .ok (.iconst 1, 1) := by decide +kernel
theorem dL_law_791 : decode cL_law 791 = .ok (.iadd, 1) := by decide +kernel
theorem dL_law_792 : decode cL_law 792 = .ok (.iaload, 1) := by decide +kernel
theorem dL_law_793 : decode cL_law 793 = .ok (.aload_n 0, 1) := by decide +kernel
theorem dL_law_794 : decode cL_law 794 = .ok (.iload_n 3, 1) := by decide +kernel
theorem dL_law_795 : decode cL_law 795 = .ok (.iconst 2, 1) := by decide +kernel
theorem dL_law_796 : decode cL_law 796 = .ok (.iadd, 1) := by decide +kernel
theorem dL_law_797 : decode cL_law 797 = .ok (.iaload, 1) := by decide +kernel
theorem dL_law_798 : decode cL_law 798 = .ok (.invokevirtual 87, 3) := by decide +kernel
theorem dL_law_801 : decode cL_law 801 = .ok (.if_icmp .eq 585, 3) := by decide +kernel
theorem dL_law_804 : decode cL_law 804 = .ok (.iconst 0, 1) := by decide +kernel
theorem dL_law_805 : decode cL_law 805 = .ok (.ireturn, 1) := by decide +kernel
theorem dL_law_806 : decode cL_law 806 = .ok (.aload_n 1, 1) := by decide +kernel
theorem dL_law_807 : decode cL_law 807 = .ok (.aload_n 0, 1) := by decide +kernel
theorem dL_law_808 : decode cL_law 808 = .ok (.iload_n 3, 1) := by decide +kernel
theorem dL_law_809 : decode cL_law 809 = .ok (.iconst 1, 1) := by decide +kernel
theorem dL_law_810 : decode cL_law 810 = .ok (.iadd, 1) := by decide +kernel
theorem dL_law_811 : decode cL_law 811 = .ok (.iaload, 1) := by decide +kernel
theorem dL_law_812 : decode cL_law 812 = .ok (.invokevirtual 88, 3) := by decide +kernel
theorem dL_law_815 : decode cL_law 815 = .ok (.aload_n 2, 1) := by decide +kernel
theorem dL_law_816 : decode cL_law 816 = .ok (.aload_n 0, 1) := by decide +kernel
theorem dL_law_817 : decode cL_law 817 = .ok (.iload_n 3, 1) := by decide +kernel
theorem dL_law_818 : decode cL_law 818 = .ok (.iconst 1, 1) := by decide +kernel
theorem dL_law_819 : decode cL_law 819 = .ok (.iadd, 1) := by decide +kernel
theorem dL_law_820 : decode cL_law 820 = .ok (.iaload, 1) := by decide +kernel
theorem dL_law_821 : decode cL_law 821 = .ok (.invokevirtual 91, 3) := by decide +kernel
theorem dL_law_824 : decode cL_law 824 = .ok (.if_icmp .eq 562, 3) := by decide +kernel
theorem dL_law_827 : decode cL_law 827 = .ok (.iconst 0, 1) := by decide +kernel
theorem dL_law_828 : decode cL_law 828 = .ok (.ireturn, 1) := by decide +kernel
theorem dL_law_829 : decode cL_law 829 = .ok (.aload_n 1, 1) := by decide +kernel
theorem dL_law_830 : decode cL_law 830 = .ok (.aload_n 0, 1) := by decide +kernel
theorem dL_law_831 : decode cL_law 831 = .ok (.iload_n 3, 1) := by decide +kernel
theorem dL_law_832 : decode cL_law 832 = .ok (.iconst 1, 1) := by decide +kernel
theorem dL_law_833 : decode cL_law 833 = .ok (.iadd, 1) := by decide +kernel
theorem dL_law_834 : decode cL_law 834 = .ok (.iaload, 1) := by decide +kernel
theorem dL_law_835 : decode cL_law 835 = .ok (.invokevirtual 92, 3) := by decide +kernel
theorem dL_law_838 : decode cL_law 838 = .ok (.aload_n 2, 1) := by decide +kernel
theorem dL_law_839 : decode cL_law 839 = .ok (.aload_n 0, 1) := by decide +kernel
theorem dL_law_840 : decode cL_law 840 = .ok (.iload_n 3, 1) := by decide +kernel
theorem dL_law_841 : decode cL_law 841 = .ok (.iconst 1, 1) := by decide +kernel
theorem dL_law_842 : decode cL_law 842 = .ok (.iadd, 1) := by decide +kernel
theorem dL_law_843 : decode cL_law 843 = .ok (.iaload, 1) := by decide +kernel
theorem dL_law_844 : decode cL_law 844 = .ok (.invokevirtual 95, 3) := by decide +kernel
theorem dL_law_847 : decode cL_law 847 = .ok (.if_icmp .eq 539, 3) := by decide +kernel
theorem dL_law_850 : decode cL_law 850 = .ok (.iconst 0, 1) := by decide +kernel
theorem dL_law_851 : decode cL_law 851 = .ok (.ireturn, 1) := by decide +kernel
theorem dL_law_852 : decode cL_law 852 = .ok (.aload_n 1, 1) := by decide +kernel
theorem dL_law_853 : decode cL_law 853 = .ok (.aload_n 0, 1) := by decide +kernel
theorem dL_law_854 : decode cL_law 854 = .ok (.iload_n 3, 1) := by decide +kernel
theorem dL_law_855 : decode cL_law 855 = .ok (.iconst 1, 1) := by decide +kernel
theorem dL_law_856 : decode cL_law 856 = .ok (.iadd, 1) := by decide +kernel
theorem dL_law_857 : decode cL_law 857 = .ok (.iaload, 1) := by decide +kernel
theorem dL_law_858 : decode cL_law 858 = .ok (.aload_n 0, 1) := by decide +kernel
theorem dL_law_859 : decode cL_law 859 = .ok (.iload_n 3, 1) := by decide +kernel
theorem dL_law_860 : decode cL_law 860 = .ok (.iconst 2, 1) := by decide +kernel
theorem dL_law_861 : decode cL_law 861 = .ok (.iadd, 1) := by decide +kernel
theorem dL_law_862 : decode cL_law 862 = .ok (.iaload, 1) := by decide +kernel
theorem dL_law_863 : decode cL_law 863 = .ok (.aload_n 0, 1) := by decide +kernel
theorem dL_law_864 : decode cL_law 864 = .ok (.iload_n 3, 1) := by decide +kernel
theorem dL_law_865 : decode cL_law 865 = .ok (.iconst 3, 1) := by decide +kernel
theorem dL_law_866 : decode cL_law 866 = .ok (.iadd, 1) := by decide +kernel
theorem dL_law_867 : decode cL_law 867 = .ok (.iaload, 1) := by decide +kernel
theorem dL_law_868 : decode cL_law 868 = .ok (.invokevirtual 96, 3) := by decide +kernel
theorem dL_law_871 : decode cL_law 871 = .ok (.aload_n 2, 1) := by decide +kernel
theorem dL_law_872 : decode cL_law 872 = .ok (.aload_n 0, 1) := by decide +kernel
theorem dL_law_873 : decode cL_law 873 = .ok (.iload_n 3, 1) := by decide +kernel
theorem dL_law_874 : decode cL_law 874 = .ok (.iconst 1, 1) := by decide +kernel
theorem dL_law_875 : decode cL_law 875 = .ok (.iadd, 1) := by decide +kernel
theorem dL_law_876 : decode cL_law 876 = .ok (.iaload, 1) := by decide +kernel
theorem dL_law_877 : decode cL_law 877 = .ok (.aload_n 0, 1) := by decide +kernel
theorem dL_law_878 : decode cL_law 878 = .ok (.iload_n 3, 1) := by decide +kernel
theorem dL_law_879 : decode cL_law 879 = .ok (.iconst 2, 1) := by decide +kernel
theorem dL_law_880 : decode cL_law 880 = .ok (.iadd, 1) := by decide +kernel
theorem dL_law_881 : decode cL_law 881 = .ok (.iaload, 1) := by decide +kernel
theorem dL_law_882 : decode cL_law 882 = .ok (.aload_n 0, 1) := by decide +kernel
theorem dL_law_883 : decode cL_law 883 = .ok (.iload_n 3, 1) := by decide +kernel
theorem dL_law_884 : decode cL_law 884 = .ok (.iconst 3, 1) := by decide +kernel
theorem dL_law_885 : decode cL_law 885 = .ok (.iadd, 1) := by decide +kernel
theorem dL_law_886 : decode cL_law 886 = .ok (.iaload, 1) := by decide +kernel
theorem dL_law_887 : decode cL_law 887 = .ok (.invokevirtual 99, 3) := by decide +kernel
theorem dL_law_890 : decode cL_law 890 = .ok (.lcmp, 1) := by decide +kernel
theorem dL_law_891 : decode cL_law 891 = .ok (.ifCond .eq 495, 3) := by decide +kernel
theorem dL_law_894 : decode cL_law 894 = .ok (.iconst 0, 1) := by decide +kernel
theorem dL_law_895 : decode cL_law 895 = .ok (.ireturn, 1) := by decide +kernel
theorem dL_law_896 : decode cL_law 896 = .ok (.aload_n 1, 1) := by decide +kernel
theorem dL_law_897 : decode cL_law 897 = .ok (.aload_n 0, 1) := by decide +kernel
theorem dL_law_898 : decode cL_law 898 = .ok (.iload_n 3, 1) := by decide +kernel
theorem dL_law_899 : decode cL_law 899 = .ok (.iconst 1, 1) := by decide +kernel
theorem dL_law_900 : decode cL_law 900 = .ok (.iadd, 1) := by decide +kernel
theorem dL_law_901 : decode cL_law 901 = .ok (.iaload, 1) := by decide +kernel
theorem dL_law_902 : decode cL_law 902 = .ok (.aload_n 0, 1) := by decide +kernel
theorem dL_law_903 : decode cL_law 903 = .ok (.iload_n 3, 1) := by decide +kernel
theorem dL_law_904 : decode cL_law 904 = .ok (.iconst 2, 1) := by decide +kernel
theorem dL_law_905 : decode cL_law 905 = .ok (.iadd, 1) := by decide +kernel
theorem dL_law_906 : decode cL_law 906 = .ok (.iaload, 1) := by decide +kernel
theorem dL_law_907 : decode cL_law 907 = .ok (.aload_n 0, 1) := by decide +kernel
theorem dL_law_908 : decode cL_law 908 = .ok (.iload_n 3, 1) := by decide +kernel
theorem dL_law_909 : decode cL_law 909 = .ok (.iconst 3, 1) := by decide +kernel
theorem dL_law_910 : decode cL_law 910 = .ok (.iadd, 1) := by decide +kernel
theorem dL_law_911 : decode cL_law 911 = .ok (.iaload, 1) := by decide +kernel
theorem dL_law_912 : decode cL_law 912 = .ok (.invokevirtual 100, 3) := by decide +kernel
theorem dL_law_915 : decode cL_law 915 = .ok (.aload_n 2, 1) := by decide +kernel
theorem dL_law_916 : decode cL_law 916 = .ok (.aload_n 0, 1) := by decide +kernel
theorem dL_law_917 : decode cL_law 917 = .ok (.iload_n 3, 1) := by decide +kernel
theorem dL_law_918 : decode cL_law 918 = .ok (.iconst 1, 1) := by decide +kernel
theorem dL_law_919 : decode cL_law 919 = .ok (.iadd, 1) := by decide +kernel
theorem dL_law_920 : decode cL_law 920 = .ok (.iaload, 1) := by decide +kernel
theorem dL_law_921 : decode cL_law 921 = .ok (.aload_n 0, 1) := by decide +kernel
theorem dL_law_922 : decode cL_law 922 = .ok (.iload_n 3, 1) := by decide +kernel
theorem dL_law_923 : decode cL_law 923 = .ok (.iconst 2, 1) := by decide +kernel
theorem dL_law_924 : decode cL_law 924 = .ok (.iadd, 1) := by decide +kernel
theorem dL_law_925 : decode cL_law 925 = .ok (.iaload, 1) := by decide +kernel
theorem dL_law_926 : decode cL_law 926 = .ok (.aload_n 0, 1) := by decide +kernel
theorem dL_law_927 : decode cL_law 927 = .ok (.iload_n 3, 1) := by decide +kernel
theorem dL_law_928 : decode cL_law 928 = .ok (.iconst 3, 1) := by decide +kernel
theorem dL_law_929 : decode cL_law 929 = .ok (.iadd, 1) := by decide +kernel
theorem dL_law_930 : decode cL_law 930 = .ok (.iaload, 1) := by decide +kernel
theorem dL_law_931 : decode cL_law 931 = .ok (.invokevirtual 103, 3) := by decide +kernel
theorem dL_law_934 : decode cL_law 934 = .ok (.if_icmp .eq 452, 3) := by decide +kernel
theorem dL_law_937 : decode cL_law 937 = .ok (.iconst 0, 1) := by decide +kernel
theorem dL_law_938 : decode cL_law 938 = .ok (.ireturn, 1) := by decide +kernel
theorem dL_law_939 : decode cL_law 939 = .ok (.aload_n 1, 1) := by decide +kernel
theorem dL_law_940 : decode cL_law 940 = .ok (.aload_n 0, 1) := by decide +kernel
theorem dL_law_941 : decode cL_law 941 = .ok (.iload_n 3, 1) := by decide +kernel
theorem dL_law_942 : decode cL_law 942 = .ok (.iconst 1, 1) := by decide +kernel
theorem dL_law_943 : decode cL_law 943 = .ok (.iadd, 1) := by decide +kernel
theorem dL_law_944 : decode cL_law 944 = .ok (.iaload, 1) := by decide +kernel
theorem dL_law_945 : decode cL_law 945 = .ok (.aload_n 0, 1) := by decide +kernel
theorem dL_law_946 : decode cL_law 946 = .ok (.iload_n 3, 1) := by decide +kernel
theorem dL_law_947 : decode cL_law 947 = .ok (.iconst 2, 1) := by decide +kernel
theorem dL_law_948 : decode cL_law 948 = .ok (.iadd, 1) := by decide +kernel
theorem dL_law_949 : decode cL_law 949 = .ok (.iaload, 1) := by decide +kernel
theorem dL_law_950 : decode cL_law 950 = .ok (.aload_n 0, 1) := by decide +kernel
theorem dL_law_951 : decode cL_law 951 = .ok (.iload_n 3, 1) := by decide +kernel
theorem dL_law_952 : decode cL_law 952 = .ok (.iconst 3, 1) := by decide +kernel
theorem dL_law_953 : decode cL_law 953 = .ok (.iadd, 1) := by decide +kernel
theorem dL_law_954 : decode cL_law 954 = .ok (.iaload, 1) := by decide +kernel
theorem dL_law_955 : decode cL_law 955 = .ok (.invokevirtual 104, 3) := by decide +kernel
theorem dL_law_958 : decode cL_law 958 = .ok (.aload_n 2, 1) := by decide +kernel
theorem dL_law_959 : decode cL_law 959 = .ok (.aload_n 0, 1) := by decide +kernel
theorem dL_law_960 : decode cL_law 960 = .ok (.iload_n 3, 1) := by decide +kernel
theorem dL_law_961 : decode cL_law 961 = .ok (.iconst 1, 1) := by decide +kernel
theorem dL_law_962 : decode cL_law 962 = .ok (.iadd, 1) := by decide +kernel
theorem dL_law_963 : decode cL_law 963 = .ok (.iaload, 1) := by decide +kernel
theorem dL_law_964 : decode cL_law 964 = .ok (.aload_n 0, 1) := by decide +kernel
theorem dL_law_965 : decode cL_law 965 = .ok (.iload_n 3, 1) := by decide +kernel
theorem dL_law_966 : decode cL_law 966 = .ok (.iconst 2, 1) := by decide +kernel
theorem dL_law_967 : decode cL_law 967 = .ok (.iadd, 1) := by decide +kernel
theorem dL_law_968 : decode cL_law 968 = .ok (.iaload, 1) := by decide +kernel
theorem dL_law_969 : decode cL_law 969 = .ok (.aload_n 0, 1) := by decide +kernel
theorem dL_law_970 : decode cL_law 970 = .ok (.iload_n 3, 1) := by decide +kernel
theorem dL_law_971 : decode cL_law 971 = .ok (.iconst 3, 1) := by decide +kernel
theorem dL_law_972 : decode cL_law 972 = .ok (.iadd, 1) := by decide +kernel
theorem dL_law_973 : decode cL_law 973 = .ok (.iaload, 1) := by decide +kernel
theorem dL_law_974 : decode cL_law 974 = .ok (.invokevirtual 107, 3) := by decide +kernel
theorem dL_law_977 : decode cL_law 977 = .ok (.if_icmp .eq 409, 3) := by decide +kernel
theorem dL_law_980 : decode cL_law 980 = .ok (.iconst 0, 1) := by decide +kernel
theorem dL_law_981 : decode cL_law 981 = .ok (.ireturn, 1) := by decide +kernel
theorem dL_law_982 : decode cL_law 982 = .ok (.aload_n 1, 1) := by decide +kernel
theorem dL_law_983 : decode cL_law 983 = .ok (.aload_n 0, 1) := by decide +kernel
theorem dL_law_984 : decode cL_law 984 = .ok (.iload_n 3, 1) := by decide +kernel
theorem dL_law_985 : decode cL_law 985 = .ok (.iconst 1, 1) := by decide +kernel
theorem dL_law_986 : decode cL_law 986 = .ok (.iadd, 1) := by decide +kernel
theorem dL_law_987 : decode cL_law 987 = .ok (.iaload, 1) := by decide +kernel
theorem dL_law_988 : decode cL_law 988 = .ok (.aload_n 0, 1) := by decide +kernel
theorem dL_law_989 : decode cL_law 989 = .ok (.iload_n 3, 1) := by decide +kernel
theorem dL_law_990 : decode cL_law 990 = .ok (.iconst 2, 1) := by decide +kernel
theorem dL_law_991 : decode cL_law 991 = .ok (.iadd, 1) := by decide +kernel
theorem dL_law_992 : decode cL_law 992 = .ok (.iaload, 1) := by decide +kernel
theorem dL_law_993 : decode cL_law 993 = .ok (.aload_n 0, 1) := by decide +kernel
theorem dL_law_994 : decode cL_law 994 = .ok (.iload_n 3, 1) := by decide +kernel
theorem dL_law_995 : decode cL_law 995 = .ok (.iconst 3, 1) := by decide +kernel
theorem dL_law_996 : decode cL_law 996 = .ok (.iadd, 1) := by decide +kernel
theorem dL_law_997 : decode cL_law 997 = .ok (.iaload, 1) := by decide +kernel
theorem dL_law_998 : decode cL_law 998 = .ok (.invokevirtual 108, 3) := by decide +kernel
theorem dL_law_1001 : decode cL_law 1001 = .ok (.aload_n 2, 1) := by decide +kernel
theorem dL_law_1002 : decode cL_law 1002 = .ok (.aload_n 0, 1) := by decide +kernel
theorem dL_law_1003 : decode cL_law 1003 = .ok (.iload_n 3, 1) := by decide +kernel
theorem dL_law_1004 : decode cL_law 1004 = .ok (.iconst 1, 1) := by decide +kernel
theorem dL_law_1005 : decode cL_law 1005 = .ok (.iadd, 1) := by decide +kernel
theorem dL_law_1006 : decode cL_law 1006 = .ok (.iaload, 1) := by decide +kernel
theorem dL_law_1007 : decode cL_law 1007 = .ok (.aload_n 0, 1) := by decide +kernel
theorem dL_law_1008 : decode cL_law 1008 = .ok (.iload_n 3, 1) := by decide +kernel
theorem dL_law_1009 : decode cL_law 1009 = .ok (.iconst 2, 1) := by decide +kernel
theorem dL_law_1010 : decode cL_law 1010 = .ok (.iadd, 1) := by decide +kernel
theorem dL_law_1011 : decode cL_law 1011 = .ok (.iaload, 1) := by decide +kernel
theorem dL_law_1012 : decode cL_law 1012 = .ok (.aload_n 0, 1) := by decide +kernel
theorem dL_law_1013 : decode cL_law 1013 = .ok (.iload_n 3, 1) := by decide +kernel
theorem dL_law_1014 : decode cL_law 1014 = .ok (.iconst 3, 1) := by decide +kernel
theorem dL_law_1015 : decode cL_law 1015 = .ok (.iadd, 1) := by decide +kernel
theorem dL_law_1016 : decode cL_law 1016 = .ok (.iaload, 1) := by decide +kernel
theorem dL_law_1017 : decode cL_law 1017 = .ok (.invokevirtual 111, 3) := by decide +kernel
theorem dL_law_1020 : decode cL_law 1020 = .ok (.if_icmp .eq 366, 3) := by decide +kernel
theorem dL_law_1023 : decode cL_law 1023 = .ok (.iconst 0, 1) := by decide +kernel
theorem dL_law_1024 : decode cL_law 1024 = .ok (.ireturn, 1) := by decide +kernel
theorem dL_law_1025 : decode cL_law 1025 = .ok (.aload_n 1, 1) := by decide +kernel
theorem dL_law_1026 : decode cL_law 1026 = .ok (.invokevirtual 112, 3) := by decide +kernel
theorem dL_law_1029 : decode cL_law 1029 = .ok (.aload_n 2, 1) := by decide +kernel
theorem dL_law_1030 : decode cL_law 1030 = .ok (.invokevirtual 115, 3) := by decide +kernel
theorem dL_law_1033 : decode cL_law 1033 = .ok (.if_icmp .eq 353, 3) := by decide +kernel
theorem dL_law_1036 : decode cL_law 1036 = .ok (.iconst 0, 1) := by decide +kernel
theorem dL_law_1037 : decode cL_law 1037 = .ok (.ireturn, 1) := by decide +kernel
theorem dL_law_1038 : decode cL_law 1038 = .ok (.aload_n 1, 1) := by decide +kernel
theorem dL_law_1039 : decode cL_law 1039 = .ok (.invokevirtual 116, 3) := by decide +kernel
theorem dL_law_1042 : decode cL_law 1042 = .ok (.aload_n 2, 1) := by decide +kernel
theorem dL_law_1043 : decode cL_law 1043 = .ok (.invokevirtual 119, 3) := by decide +kernel
theorem dL_law_1046 : decode cL_law 1046 = .ok (.if_icmp .eq 340, 3) := by decide +kernel
theorem dL_law_1049 : decode cL_law 1049 = .ok (.iconst 0, 1) := by decide +kernel
theorem dL_law_1050 : decode cL_law 1050 = .ok (.ireturn, 1) := by decide +kernel
theorem dL_law_1051 : decode cL_law 1051 = .ok (.aload_n 1, 1) := by decide +kernel
theorem dL_law_1052 : decode cL_law 1052 = .ok (.aload_n 0, 1) := by decide +kernel
theorem dL_law_1053 : decode cL_law 1053 = .ok (.iload_n 3, 1) := by decide +kernel
theorem dL_law_1054 : decode cL_law 1054 = .ok (.iconst 1, 1) := by decide +kernel
theorem dL_law_1055 : decode cL_law 1055 = .ok (.iadd, 1) := by decide +kernel
theorem dL_law_1056 : decode cL_law 1056 = .ok (.iaload, 1) := by decide +kernel
theorem dL_law_1057 : decode cL_law 1057 = .ok (.aload_n 0, 1) := by decide +kernel
theorem dL_law_1058 : decode cL_law 1058 = .ok (.iload_n 3, 1) := by decide +kernel
theorem dL_law_1059 : decode cL_law 1059 = .ok (.iconst 2, 1) := by decide +kernel
theorem dL_law_1060 : decode cL_law 1060 = .ok (.iadd, 1) := by decide +kernel
theorem dL_law_1061 : decode cL_law 1061 = .ok (.iaload, 1) := by decide +kernel
theorem dL_law_1062 : decode cL_law 1062 = .ok (.aload_n 0, 1) := by decide +kernel
theorem dL_law_1063 : decode cL_law 1063 = .ok (.iload_n 3, 1) := by decide +kernel
theorem dL_law_1064 : decode cL_law 1064 = .ok (.iconst 3, 1) := by decide +kernel
theorem dL_law_1065 : decode cL_law 1065 = .ok (.iadd, 1) := by decide +kernel
theorem dL_law_1066 : decode cL_law 1066 = .ok (.iaload, 1) := by decide +kernel
theorem dL_law_1067 : decode cL_law 1067 = .ok (.invokevirtual 120, 3) := by decide +kernel
theorem dL_law_1070 : decode cL_law 1070 = .ok (.aload_n 2, 1) := by decide +kernel
theorem dL_law_1071 : decode cL_law 1071 = .ok (.aload_n 0, 1) := by decide +kernel
theorem dL_law_1072 : decode cL_law 1072 = .ok (.iload_n 3, 1) := by decide +kernel
theorem dL_law_1073 : decode cL_law 1073 = .ok (.iconst 1, 1) := by decide +kernel
theorem dL_law_1074 : decode cL_law 1074 = .ok (.iadd, 1) := by decide +kernel
theorem dL_law_1075 : decode cL_law 1075 = .ok (.iaload, 1) := by decide +kernel
theorem dL_law_1076 : decode cL_law 1076 = .ok (.aload_n 0, 1) := by decide +kernel
theorem dL_law_1077 : decode cL_law 1077 = .ok (.iload_n 3, 1) := by decide +kernel
theorem dL_law_1078 : decode cL_law 1078 = .ok (.iconst 2, 1) := by decide +kernel
theorem dL_law_1079 : decode cL_law 1079 = .ok (.iadd, 1) := by decide +kernel
theorem dL_law_1080 : decode cL_law 1080 = .ok (.iaload, 1) := by decide +kernel
theorem dL_law_1081 : decode cL_law 1081 = .ok (.aload_n 0, 1) := by decide +kernel
theorem dL_law_1082 : decode cL_law 1082 = .ok (.iload_n 3, 1) := by decide +kernel
theorem dL_law_1083 : decode cL_law 1083 = .ok (.iconst 3, 1) := by decide +kernel
theorem dL_law_1084 : decode cL_law 1084 = .ok (.iadd, 1) := by decide +kernel
theorem dL_law_1085 : decode cL_law 1085 = .ok (.iaload, 1) := by decide +kernel
theorem dL_law_1086 : decode cL_law 1086 = .ok (.invokevirtual 123, 3) := by decide +kernel
theorem dL_law_1089 : decode cL_law 1089 = .ok (.if_icmp .eq 297, 3) := by decide +kernel
theorem dL_law_1092 : decode cL_law 1092 = .ok (.iconst 0, 1) := by decide +kernel
theorem dL_law_1093 : decode cL_law 1093 = .ok (.ireturn, 1) := by decide +kernel
theorem dL_law_1094 : decode cL_law 1094 = .ok (.aload_n 1, 1) := by decide +kernel
theorem dL_law_1095 : decode cL_law 1095 = .ok (.aload_n 0, 1) := by decide +kernel
theorem dL_law_1096 : decode cL_law 1096 = .ok (.iload_n 3, 1) := by decide +kernel
theorem dL_law_1097 : decode cL_law 1097 = .ok (.iconst 1, 1) := by decide +kernel
theorem dL_law_1098 : decode cL_law 1098 = .ok (.iadd, 1) := by decide +kernel
theorem dL_law_1099 : decode cL_law 1099 = .ok (.iaload, 1) := by decide +kernel
theorem dL_law_1100 : decode cL_law 1100 = .ok (.invokevirtual 124, 3) := by decide +kernel
theorem dL_law_1103 : decode cL_law 1103 = .ok (.aload_n 2, 1) := by decide +kernel
theorem dL_law_1104 : decode cL_law 1104 = .ok (.aload_n 0, 1) := by decide +kernel
theorem dL_law_1105 : decode cL_law 1105 = .ok (.iload_n 3, 1) := by decide +kernel
theorem dL_law_1106 : decode cL_law 1106 = .ok (.iconst 1, 1) := by decide +kernel
theorem dL_law_1107 : decode cL_law 1107 = .ok (.iadd, 1) := by decide +kernel
theorem dL_law_1108 : decode cL_law 1108 = .ok (.iaload, 1) := by decide +kernel
theorem dL_law_1109 : decode cL_law 1109 = .ok (.invokevirtual 127, 3) := by decide +kernel
theorem dL_law_1112 : decode cL_law 1112 = .ok (.if_icmp .eq 274, 3) := by decide +kernel
theorem dL_law_1115 : decode cL_law 1115 = .ok (.iconst 0, 1) := by decide +kernel
theorem dL_law_1116 : decode cL_law 1116 = .ok (.ireturn, 1) := by decide +kernel
theorem dL_law_1117 : decode cL_law 1117 = .ok (.aload_n 1, 1) := by decide +kernel
theorem dL_law_1118 : decode cL_law 1118 = .ok (.aload_n 0, 1) := by decide +kernel
theorem dL_law_1119 : decode cL_law 1119 = .ok (.iload_n 3, 1) := by decide +kernel
theorem dL_law_1120 : decode cL_law 1120 = .ok (.iconst 1, 1) := by decide +kernel
theorem dL_law_1121 : decode cL_law 1121 = .ok (.iadd, 1) := by decide +kernel
theorem dL_law_1122 : decode cL_law 1122 = .ok (.iaload, 1) := by decide +kernel
theorem dL_law_1123 : decode cL_law 1123 = .ok (.aload_n 0, 1) := by decide +kernel
theorem dL_law_1124 : decode cL_law 1124 = .ok (.iload_n 3, 1) := by decide +kernel
theorem dL_law_1125 : decode cL_law 1125 = .ok (.iconst 2, 1) := by decide +kernel
theorem dL_law_1126 : decode cL_law 1126 = .ok (.iadd, 1) := by decide +kernel
theorem dL_law_1127 : decode cL_law 1127 = .ok (.iaload, 1) := by decide +kernel
theorem dL_law_1128 : decode cL_law 1128 = .ok (.invokevirtual 128, 3) := by decide +kernel
theorem dL_law_1131 : decode cL_law 1131 = .ok (.aload_n 2, 1) := by decide +kernel
theorem dL_law_1132 : decode cL_law 1132 = .ok (.aload_n 0, 1) := by decide +kernel
theorem dL_law_1133 : decode cL_law 1133 = .ok (.iload_n 3, 1) := by decide +kernel
theorem dL_law_1134 : decode cL_law 1134 = .ok (.iconst 1, 1) := by decide +kernel
theorem dL_law_1135 : decode cL_law 1135 = .ok (.iadd, 1) := by decide +kernel
theorem dL_law_1136 : decode cL_law 1136 = .ok (.iaload, 1) := by decide +kernel
theorem dL_law_1137 : decode cL_law 1137 = .ok (.aload_n 0, 1) := by decide +kernel
theorem dL_law_1138 : decode cL_law 1138 = .ok (.iload_n 3, 1) := by decide +kernel
theorem dL_law_1139 : decode cL_law 1139 = .ok (.iconst 2, 1) := by decide +kernel
theorem dL_law_1140 : decode cL_law 1140 = .ok (.iadd, 1) := by decide +kernel
theorem dL_law_1141 : decode cL_law 1141 = .ok (.iaload, 1) := by decide +kernel
theorem dL_law_1142 : decode cL_law 1142 = .ok (.invokevirtual 131, 3) := by decide +kernel
theorem dL_law_1145 : decode cL_law 1145 = .ok (.if_icmp .eq 241, 3) := by decide +kernel
theorem dL_law_1148 : decode cL_law 1148 = .ok (.iconst 0, 1) := by decide +kernel
theorem dL_law_1149 : decode cL_law 1149 = .ok (.ireturn, 1) := by decide +kernel
theorem dL_law_1150 : decode cL_law 1150 = .ok (.aload_n 1, 1) := by decide +kernel
theorem dL_law_1151 : decode cL_law 1151 = .ok (.aload_n 0, 1) := by decide +kernel
theorem dL_law_1152 : decode cL_law 1152 = .ok (.iload_n 3, 1) := by decide +kernel
theorem dL_law_1153 : decode cL_law 1153 = .ok (.iconst 1, 1) := by decide +kernel
theorem dL_law_1154 : decode cL_law 1154 = .ok (.iadd, 1) := by decide +kernel
theorem dL_law_1155 : decode cL_law 1155 = .ok (.iaload, 1) := by decide +kernel
theorem dL_law_1156 : decode cL_law 1156 = .ok (.invokevirtual 132, 3) := by decide +kernel
theorem dL_law_1159 : decode cL_law 1159 = .ok (.aload_n 2, 1) := by decide +kernel
theorem dL_law_1160 : decode cL_law 1160 = .ok (.aload_n 0, 1) := by decide +kernel
theorem dL_law_1161 : decode cL_law 1161 = .ok (.iload_n 3, 1) := by decide +kernel
theorem dL_law_1162 : decode cL_law 1162 = .ok (.iconst 1, 1) := by decide +kernel
theorem dL_law_1163 : decode cL_law 1163 = .ok (.iadd, 1) := by decide +kernel
theorem dL_law_1164 : decode cL_law 1164 = .ok (.iaload, 1) := by decide +kernel
theorem dL_law_1165 : decode cL_law 1165 = .ok (.invokevirtual 135, 3) := by decide +kernel
theorem dL_law_1168 : decode cL_law 1168 = .ok (.if_icmp .eq 218, 3) := by decide +kernel
theorem dL_law_1171 : decode cL_law 1171 = .ok (.iconst 0, 1) := by decide +kernel
theorem dL_law_1172 : decode cL_law 1172 = .ok (.ireturn, 1) := by decide +kernel
theorem dL_law_1173 : decode cL_law 1173 = .ok (.aload_n 1, 1) := by decide +kernel
theorem dL_law_1174 : decode cL_law 1174 = .ok (.aload_n 0, 1) := by decide +kernel
theorem dL_law_1175 : decode cL_law 1175 = .ok (.iload_n 3, 1) := by decide +kernel
theorem dL_law_1176 : decode cL_law 1176 = .ok (.iconst 1, 1) := by decide +kernel
theorem dL_law_1177 : decode cL_law 1177 = .ok (.iadd, 1) := by decide +kernel
theorem dL_law_1178 : decode cL_law 1178 = .ok (.iaload, 1) := by decide +kernel
theorem dL_law_1179 : decode cL_law 1179 = .ok (.aload_n 0, 1) := by decide +kernel
theorem dL_law_1180 : decode cL_law 1180 = .ok (.iload_n 3, 1) := by decide +kernel
theorem dL_law_1181 : decode cL_law 1181 = .ok (.iconst 2, 1) := by decide +kernel
theorem dL_law_1182 : decode cL_law 1182 = .ok (.iadd, 1) := by decide +kernel
theorem dL_law_1183 : decode cL_law 1183 = .ok (.iaload, 1) := by decide +kernel
theorem dL_law_1184 : decode cL_law 1184 = .ok (.aload_n 0, 1) := by decide +kernel
theorem dL_law_1185 : decode cL_law 1185 = .ok (.iload_n 3, 1) := by decide +kernel
theorem dL_law_1186 : decode cL_law 1186 = .ok (.iconst 3, 1) := by decide +kernel
theorem dL_law_1187 : decode cL_law 1187 = .ok (.iadd, 1) := by decide +kernel
theorem dL_law_1188 : decode cL_law 1188 = .ok (.iaload, 1) := by decide +kernel
theorem dL_law_1189 : decode cL_law 1189 = .ok (.invokevirtual 136, 3) := by decide +kernel
theorem dL_law_1192 : decode cL_law 1192 = .ok (.aload_n 2, 1) := by decide +kernel
theorem dL_law_1193 : decode cL_law 1193 = .ok (.aload_n 0, 1) := by decide +kernel
theorem dL_law_1194 : decode cL_law 1194 = .ok (.iload_n 3, 1) := by decide +kernel
theorem dL_law_1195 : decode cL_law 1195 = .ok (.iconst 1, 1) := by decide +kernel
theorem dL_law_1196 : decode cL_law 1196 = .ok (.iadd, 1) := by decide +kernel
theorem dL_law_1197 : decode cL_law 1197 = .ok (.iaload, 1) := by decide +kernel
theorem dL_law_1198 : decode cL_law 1198 = .ok (.aload_n 0, 1) := by decide +kernel
theorem dL_law_1199 : decode cL_law 1199 = .ok (.iload_n 3, 1) := by decide +kernel
theorem dL_law_1200 : decode cL_law 1200 = .ok (.iconst 2, 1) := by decide +kernel
theorem dL_law_1201 : decode cL_law 1201 = .ok (.iadd, 1) := by decide +kernel
theorem dL_law_1202 : decode cL_law 1202 = .ok (.iaload, 1) := by decide +kernel
theorem dL_law_1203 : decode cL_law 1203 = .ok (.aload_n 0, 1) := by decide +kernel
theorem dL_law_1204 : decode cL_law 1204 = .ok (.iload_n 3, 1) := by decide +kernel
theorem dL_law_1205 : decode cL_law 1205 = .ok (.iconst 3, 1) := by decide +kernel
theorem dL_law_1206 : decode cL_law 1206 = .ok (.iadd, 1) := by decide +kernel
theorem dL_law_1207 : decode cL_law 1207 = .ok (.iaload, 1) := by decide +kernel
theorem dL_law_1208 : decode cL_law 1208 = .ok (.invokevirtual 139, 3) := by decide +kernel
theorem dL_law_1211 : decode cL_law 1211 = .ok (.if_icmp .eq 175, 3) := by decide +kernel
theorem dL_law_1214 : decode cL_law 1214 = .ok (.iconst 0, 1) := by decide +kernel
theorem dL_law_1215 : decode cL_law 1215 = .ok (.ireturn, 1) := by decide +kernel
theorem dL_law_1216 : decode cL_law 1216 = .ok (.aload_n 1, 1) := by decide +kernel
theorem dL_law_1217 : decode cL_law 1217 = .ok (.aload_n 0, 1) := by decide +kernel
theorem dL_law_1218 : decode cL_law 1218 = .ok (.iload_n 3, 1) := by decide +kernel
theorem dL_law_1219 : decode cL_law 1219 = .ok (.iconst 1, 1) := by decide +kernel
theorem dL_law_1220 : decode cL_law 1220 = .ok (.iadd, 1) := by decide +kernel
theorem dL_law_1221 : decode cL_law 1221 = .ok (.iaload, 1) := by decide +kernel
theorem dL_law_1222 : decode cL_law 1222 = .ok (.aload_n 0, 1) := by decide +kernel
theorem dL_law_1223 : decode cL_law 1223 = .ok (.iload_n 3, 1) := by decide +kernel
theorem dL_law_1224 : decode cL_law 1224 = .ok (.iconst 2, 1) := by decide +kernel
theorem dL_law_1225 : decode cL_law 1225 = .ok (.iadd, 1) := by decide +kernel
theorem dL_law_1226 : decode cL_law 1226 = .ok (.iaload, 1) := by decide +kernel
theorem dL_law_1227 : decode cL_law 1227 = .ok (.aload_n 0, 1) := by decide +kernel
theorem dL_law_1228 : decode cL_law 1228 = .ok (.iload_n 3, 1) := by decide +kernel
theorem dL_law_1229 : decode cL_law 1229 = .ok (.iconst 3, 1) := by decide +kernel
theorem dL_law_1230 : decode cL_law 1230 = .ok (.iadd, 1) := by decide +kernel
theorem dL_law_1231 : decode cL_law 1231 = .ok (.iaload, 1) := by decide +kernel
theorem dL_law_1232 : decode cL_law 1232 = .ok (.i2l, 1) := by decide +kernel
theorem dL_law_1233 : decode cL_law 1233 = .ok (.bipush 32, 2) := by decide +kernel
theorem dL_law_1235 : decode cL_law 1235 = .ok (.lshl, 1) := by decide +kernel
theorem dL_law_1236 : decode cL_law 1236 = .ok (.aload_n 0, 1) := by decide +kernel
theorem dL_law_1237 : decode cL_law 1237 = .ok (.iload_n 3, 1) := by decide +kernel
theorem dL_law_1238 : decode cL_law 1238 = .ok (.iconst 4, 1) := by decide +kernel
theorem dL_law_1239 : decode cL_law 1239 = .ok (.iadd, 1) := by decide +kernel
theorem dL_law_1240 : decode cL_law 1240 = .ok (.iaload, 1) := by decide +kernel
theorem dL_law_1241 : decode cL_law 1241 = .ok (.i2l, 1) := by decide +kernel
theorem dL_law_1242 : decode cL_law 1242 = .ok (.ldc2_w 140, 3) := by decide +kernel
theorem dL_law_1245 : decode cL_law 1245 = .ok (.land, 1) := by decide +kernel
theorem dL_law_1246 : decode cL_law 1246 = .ok (.lor, 1) := by decide +kernel
theorem dL_law_1247 : decode cL_law 1247 = .ok (.invokevirtual 142, 3) := by decide +kernel
theorem dL_law_1250 : decode cL_law 1250 = .ok (.aload_n 2, 1) := by decide +kernel
theorem dL_law_1251 : decode cL_law 1251 = .ok (.aload_n 0, 1) := by decide +kernel
theorem dL_law_1252 : decode cL_law 1252 = .ok (.iload_n 3, 1) := by decide +kernel
theorem dL_law_1253 : decode cL_law 1253 = .ok (.iconst 1, 1) := by decide +kernel
theorem dL_law_1254 : decode cL_law 1254 = .ok (.iadd, 1) := by decide +kernel
theorem dL_law_1255 : decode cL_law 1255 = .ok (.iaload, 1) := by decide +kernel
theorem dL_law_1256 : decode cL_law 1256 = .ok (.aload_n 0, 1) := by decide +kernel
theorem dL_law_1257 : decode cL_law 1257 = .ok (.iload_n 3, 1) := by decide +kernel
theorem dL_law_1258 : decode cL_law 1258 = .ok (.iconst 2, 1) := by decide +kernel
theorem dL_law_1259 : decode cL_law 1259 = .ok (.iadd, 1) := by decide +kernel
theorem dL_law_1260 : decode cL_law 1260 = .ok (.iaload, 1) := by decide +kernel
theorem dL_law_1261 : decode cL_law 1261 = .ok (.aload_n 0, 1) := by decide +kernel
theorem dL_law_1262 : decode cL_law 1262 = .ok (.iload_n 3, 1) := by decide +kernel
theorem dL_law_1263 : decode cL_law 1263 = .ok (.iconst 3, 1) := by decide +kernel
theorem dL_law_1264 : decode cL_law 1264 = .ok (.iadd, 1) := by decide +kernel
theorem dL_law_1265 : decode cL_law 1265 = .ok (.iaload, 1) := by decide +kernel
theorem dL_law_1266 : decode cL_law 1266 = .ok (.i2l, 1) := by decide +kernel
theorem dL_law_1267 : decode cL_law 1267 = .ok (.bipush 32, 2) := by decide +kernel
theorem dL_law_1269 : decode cL_law 1269 = .ok (.lshl, 1) := by decide +kernel
theorem dL_law_1270 : decode cL_law 1270 = .ok (.aload_n 0, 1) := by decide +kernel
theorem dL_law_1271 : decode cL_law 1271 = .ok (.iload_n 3, 1) := by decide +kernel
theorem dL_law_1272 : decode cL_law 1272 = .ok (.iconst 4, 1) := by decide +kernel
theorem dL_law_1273 : decode cL_law 1273 = .ok (.iadd, 1) := by decide +kernel
theorem dL_law_1274 : decode cL_law 1274 = .ok (.iaload, 1) := by decide +kernel
theorem dL_law_1275 : decode cL_law 1275 = .ok (.i2l, 1) := by decide +kernel
theorem dL_law_1276 : decode cL_law 1276 = .ok (.ldc2_w 140, 3) := by decide +kernel
theorem dL_law_1279 : decode cL_law 1279 = .ok (.land, 1) := by decide +kernel
theorem dL_law_1280 : decode cL_law 1280 = .ok (.lor, 1) := by decide +kernel
theorem dL_law_1281 : decode cL_law 1281 = .ok (.invokevirtual 146, 3) := by decide +kernel
theorem dL_law_1284 : decode cL_law 1284 = .ok (.if_icmp .eq 102, 3) := by decide +kernel
theorem dL_law_1287 : decode cL_law 1287 = .ok (.iconst 0, 1) := by decide +kernel
theorem dL_law_1288 : decode cL_law 1288 = .ok (.ireturn, 1) := by decide +kernel
theorem dL_law_1289 : decode cL_law 1289 = .ok (.aload_n 1, 1) := by decide +kernel
theorem dL_law_1290 : decode cL_law 1290 = .ok (.aload_n 0, 1) := by decide +kernel
theorem dL_law_1291 : decode cL_law 1291 = .ok (.iload_n 3, 1) := by decide +kernel
theorem dL_law_1292 : decode cL_law 1292 = .ok (.iconst 1, 1) := by decide +kernel
theorem dL_law_1293 : decode cL_law 1293 = .ok (.iadd, 1) := by decide +kernel
theorem dL_law_1294 : decode cL_law 1294 = .ok (.iaload, 1) := by decide +kernel
theorem dL_law_1295 : decode cL_law 1295 = .ok (.aload_n 0, 1) := by decide +kernel
theorem dL_law_1296 : decode cL_law 1296 = .ok (.iload_n 3, 1) := by decide +kernel
theorem dL_law_1297 : decode cL_law 1297 = .ok (.iconst 2, 1) := by decide +kernel
theorem dL_law_1298 : decode cL_law 1298 = .ok (.iadd, 1) := by decide +kernel
theorem dL_law_1299 : decode cL_law 1299 = .ok (.iaload, 1) := by decide +kernel
theorem dL_law_1300 : decode cL_law 1300 = .ok (.invokevirtual 147, 3) := by decide +kernel
theorem dL_law_1303 : decode cL_law 1303 = .ok (.aload_n 2, 1) := by decide +kernel
theorem dL_law_1304 : decode cL_law 1304 = .ok (.aload_n 0, 1) := by decide +kernel
theorem dL_law_1305 : decode cL_law 1305 = .ok (.iload_n 3, 1) := by decide +kernel
theorem dL_law_1306 : decode cL_law 1306 = .ok (.iconst 1, 1) := by decide +kernel
theorem dL_law_1307 : decode cL_law 1307 = .ok (.iadd, 1) := by decide +kernel
theorem dL_law_1308 : decode cL_law 1308 = .ok (.iaload, 1) := by decide +kernel
theorem dL_law_1309 : decode cL_law 1309 = .ok (.aload_n 0, 1) := by decide +kernel
theorem dL_law_1310 : decode cL_law 1310 = .ok (.iload_n 3, 1) := by decide +kernel
theorem dL_law_1311 : decode cL_law 1311 = .ok (.iconst 2, 1) := by decide +kernel
theorem dL_law_1312 : decode cL_law 1312 = .ok (.iadd, 1) := by decide +kernel
theorem dL_law_1313 : decode cL_law 1313 = .ok (.iaload, 1) := by decide +kernel
theorem dL_law_1314 : decode cL_law 1314 = .ok (.invokevirtual 151, 3) := by decide +kernel
theorem dL_law_1317 : decode cL_law 1317 = .ok (.lcmp, 1) := by decide +kernel
theorem dL_law_1318 : decode cL_law 1318 = .ok (.ifCond .eq 68, 3) := by decide +kernel
theorem dL_law_1321 : decode cL_law 1321 = .ok (.iconst 0, 1) := by decide +kernel
theorem dL_law_1322 : decode cL_law 1322 = .ok (.ireturn, 1) := by decide +kernel
theorem dL_law_1323 : decode cL_law 1323 = .ok (.aload_n 1, 1) := by decide +kernel
theorem dL_law_1324 : decode cL_law 1324 = .ok (.aload_n 0, 1) := by decide +kernel
theorem dL_law_1325 : decode cL_law 1325 = .ok (.iload_n 3, 1) := by decide +kernel
theorem dL_law_1326 : decode cL_law 1326 = .ok (.iconst 1, 1) := by decide +kernel
theorem dL_law_1327 : decode cL_law 1327 = .ok (.iadd, 1) := by decide +kernel
theorem dL_law_1328 : decode cL_law 1328 = .ok (.iaload, 1) := by decide +kernel
theorem dL_law_1329 : decode cL_law 1329 = .ok (.aload_n 0, 1) := by decide +kernel
theorem dL_law_1330 : decode cL_law 1330 = .ok (.iload_n 3, 1) := by decide +kernel
theorem dL_law_1331 : decode cL_law 1331 = .ok (.iconst 2, 1) := by decide +kernel
theorem dL_law_1332 : decode cL_law 1332 = .ok (.iadd, 1) := by decide +kernel
theorem dL_law_1333 : decode cL_law 1333 = .ok (.iaload, 1) := by decide +kernel
theorem dL_law_1334 : decode cL_law 1334 = .ok (.aload_n 0, 1) := by decide +kernel
theorem dL_law_1335 : decode cL_law 1335 = .ok (.iload_n 3, 1) := by decide +kernel
theorem dL_law_1336 : decode cL_law 1336 = .ok (.iconst 3, 1) := by decide +kernel
theorem dL_law_1337 : decode cL_law 1337 = .ok (.iadd, 1) := by decide +kernel
theorem dL_law_1338 : decode cL_law 1338 = .ok (.iaload, 1) := by decide +kernel
theorem dL_law_1339 : decode cL_law 1339 = .ok (.aload_n 0, 1) := by decide +kernel
theorem dL_law_1340 : decode cL_law 1340 = .ok (.iload_n 3, 1) := by decide +kernel
theorem dL_law_1341 : decode cL_law 1341 = .ok (.iconst 4, 1) := by decide +kernel
theorem dL_law_1342 : decode cL_law 1342 = .ok (.iadd, 1) := by decide +kernel
theorem dL_law_1343 : decode cL_law 1343 = .ok (.iaload, 1) := by decide +kernel
theorem dL_law_1344 : decode cL_law 1344 = .ok (.aload_n 0, 1) := by decide +kernel
theorem dL_law_1345 : decode cL_law 1345 = .ok (.iload_n 3, 1) := by decide +kernel
theorem dL_law_1346 : decode cL_law 1346 = .ok (.iconst 5, 1) := by decide +kernel
theorem dL_law_1347 : decode cL_law 1347 = .ok (.iadd, 1) := by decide +kernel
theorem dL_law_1348 : decode cL_law 1348 = .ok (.iaload, 1) := by decide +kernel
theorem dL_law_1349 : decode cL_law 1349 = .ok (.invokevirtual 152, 3) := by decide +kernel
theorem dL_law_1352 : decode cL_law 1352 = .ok (.aload_n 2, 1) := by decide +kernel
theorem dL_law_1353 : decode cL_law 1353 = .ok (.aload_n 0, 1) := by decide +kernel
theorem dL_law_1354 : decode cL_law 1354 = .ok (.iload_n 3, 1) := by decide +kernel
theorem dL_law_1355 : decode cL_law 1355 = .ok (.iconst 1, 1) := by decide +kernel
theorem dL_law_1356 : decode cL_law 1356 = .ok (.iadd, 1) := by decide +kernel
theorem dL_law_1357 : decode cL_law 1357 = .ok (.iaload, 1) := by decide +kernel
theorem dL_law_1358 : decode cL_law 1358 = .ok (.aload_n 0, 1) := by decide +kernel
theorem dL_law_1359 : decode cL_law 1359 = .ok (.iload_n 3, 1) := by decide +kernel
theorem dL_law_1360 : decode cL_law 1360 = .ok (.iconst 2, 1) := by decide +kernel
theorem dL_law_1361 : decode cL_law 1361 = .ok (.iadd, 1) := by decide +kernel
theorem dL_law_1362 : decode cL_law 1362 = .ok (.iaload, 1) := by decide +kernel
theorem dL_law_1363 : decode cL_law 1363 = .ok (.aload_n 0, 1) := by decide +kernel
theorem dL_law_1364 : decode cL_law 1364 = .ok (.iload_n 3, 1) := by decide +kernel
theorem dL_law_1365 : decode cL_law 1365 = .ok (.iconst 3, 1) := by decide +kernel
theorem dL_law_1366 : decode cL_law 1366 = .ok (.iadd, 1) := by decide +kernel
theorem dL_law_1367 : decode cL_law 1367 = .ok (.iaload, 1) := by decide +kernel
theorem dL_law_1368 : decode cL_law 1368 = .ok (.aload_n 0, 1) := by decide +kernel
theorem dL_law_1369 : decode cL_law 1369 = .ok (.iload_n 3, 1) := by decide +kernel
theorem dL_law_1370 : decode cL_law 1370 = .ok (.iconst 4, 1) := by decide +kernel
theorem dL_law_1371 : decode cL_law 1371 = .ok (.iadd, 1) := by decide +kernel
theorem dL_law_1372 : decode cL_law 1372 = .ok (.iaload, 1) := by decide +kernel
theorem dL_law_1373 : decode cL_law 1373 = .ok (.aload_n 0, 1) := by decide +kernel
theorem dL_law_1374 : decode cL_law 1374 = .ok (.iload_n 3, 1) := by decide +kernel
theorem dL_law_1375 : decode cL_law 1375 = .ok (.iconst 5, 1) := by decide +kernel
theorem dL_law_1376 : decode cL_law 1376 = .ok (.iadd, 1) := by decide +kernel
theorem dL_law_1377 : decode cL_law 1377 = .ok (.iaload, 1) := by decide +kernel
theorem dL_law_1378 : decode cL_law 1378 = .ok (.invokevirtual 156, 3) := by decide +kernel
theorem dL_law_1381 : decode cL_law 1381 = .ok (.if_icmp .eq 5, 3) := by decide +kernel
theorem dL_law_1384 : decode cL_law 1384 = .ok (.iconst 0, 1) := by decide +kernel
theorem dL_law_1385 : decode cL_law 1385 = .ok (.ireturn, 1) := by decide +kernel
theorem dL_law_1386 : decode cL_law 1386 = .ok (.iinc 3 6, 3) := by decide +kernel
theorem dL_law_1389 : decode cL_law 1389 = .ok (.goto (-1371), 3) := by decide +kernel
theorem dL_law_1392 : decode cL_law 1392 = .ok (.iconst 1, 1) := by decide +kernel
theorem dL_law_1393 : decode cL_law 1393 = .ok (.ireturn, 1) := by decide +kernel
