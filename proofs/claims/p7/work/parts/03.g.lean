section
theorem dX1_init_0 : decode cX1_init 0 = .ok (.aload_n 0, 1) := by decide +kernel
theorem dX1_init_1 : decode cX1_init 1 = .ok (.invokespecial 3, 3) := by decide +kernel
theorem dX1_init_4 : decode cX1_init 4 = .ok (.aload_n 0, 1) := by decide +kernel
theorem dX1_init_5 : decode cX1_init 5 = .ok (.new 9, 3) := by decide +kernel
theorem dX1_init_8 : decode cX1_init 8 = .ok (.dup, 1) := by decide +kernel
theorem dX1_init_9 : decode cX1_init 9 = .ok (.invokespecial 11, 3) := by decide +kernel
theorem dX1_init_12 : decode cX1_init 12 = .ok (.putfield 12, 3) := by decide +kernel
theorem dX1_init_15 : decode cX1_init 15 = .ok (.aload_n 0, 1) := by decide +kernel
theorem dX1_init_16 : decode cX1_init 16 = .ok (.new 9, 3) := by decide +kernel
theorem dX1_init_19 : decode cX1_init 19 = .ok (.dup, 1) := by decide +kernel
theorem dX1_init_20 : decode cX1_init 20 = .ok (.invokespecial 11, 3) := by decide +kernel
theorem dX1_init_23 : decode cX1_init 23 = .ok (.putfield 18, 3) := by decide +kernel
theorem dX1_init_26 : decode cX1_init 26 = .ok (.aload_n 0, 1) := by decide +kernel
theorem dX1_init_27 : decode cX1_init 27 = .ok (.bipush 40, 2) := by decide +kernel
theorem dX1_init_29 : decode cX1_init 29 = .ok (.anewarray 9, 3) := by decide +kernel
theorem dX1_init_32 : decode cX1_init 32 = .ok (.putfield 21, 3) := by decide +kernel
theorem dX1_init_35 : decode cX1_init 35 = .ok (.aload_n 0, 1) := by decide +kernel
theorem dX1_init_36 : decode cX1_init 36 = .ok (.new 9, 3) := by decide +kernel
theorem dX1_init_39 : decode cX1_init 39 = .ok (.dup, 1) := by decide +kernel
theorem dX1_init_40 : decode cX1_init 40 = .ok (.invokespecial 11, 3) := by decide +kernel
theorem dX1_init_43 : decode cX1_init 43 = .ok (.putfield 25, 3) := by decide +kernel
theorem dX1_init_46 : decode cX1_init 46 = .ok (.aload_n 0, 1) := by decide +kernel
theorem dX1_init_47 : decode cX1_init 47 = .ok (.bipush 40, 2) := by decide +kernel
theorem dX1_init_49 : decode cX1_init 49 = .ok (.newarray .int, 2) := by decide +kernel
theorem dX1_init_51 : decode cX1_init 51 = .ok (.putfield 28, 3) := by decide +kernel
theorem dX1_init_54 : decode cX1_init 54 = .ok (.aload_n 0, 1) := by decide +kernel
theorem dX1_init_55 : decode cX1_init 55 = .ok (.bipush 9, 2) := by decide +kernel
theorem dX1_init_57 : decode cX1_init 57 = .ok (.newarray .int, 2) := by decide +kernel
theorem dX1_init_59 : decode cX1_init 59 = .ok (.putfield 32, 3) := by decide +kernel
theorem dX1_init_62 : decode cX1_init 62 = .ok (.aload_n 0, 1) := by decide +kernel
theorem dX1_init_63 : decode cX1_init 63 = .ok (.iconst 2, 1) := by decide +kernel
theorem dX1_init_64 : decode cX1_init 64 = .ok (.putfield 35, 3) := by decide +kernel
theorem dX1_init_67 : decode cX1_init 67 = .ok (.aload_n 0, 1) := by decide +kernel
theorem dX1_init_68 : decode cX1_init 68 = .ok (.iconst 1, 1) := by decide +kernel
theorem dX1_init_69 : decode cX1_init 69 = .ok (.putfield 39, 3) := by decide +kernel
theorem dX1_init_72 : decode cX1_init 72 = .ok (.iconst 0, 1) := by decide +kernel
theorem dX1_init_73 : decode cX1_init 73 = .ok (.istore_n 1, 1) := by decide +kernel
theorem dX1_init_74 : decode cX1_init 74 = .ok (.iload_n 1, 1) := by decide +kernel
theorem dX1_init_75 : decode cX1_init 75 = .ok (.bipush 40, 2) := by decide +kernel
theorem dX1_init_77 : decode cX1_init 77 = .ok (.if_icmp .ge 22, 3) := by decide +kernel
theorem dX1_init_80 : decode cX1_init 80 = .ok (.aload_n 0, 1) := by decide +kernel
theorem dX1_init_81 : decode cX1_init 81 = .ok (.getfield 21, 3) := by decide +kernel
theorem dX1_init_84 : decode cX1_init 84 = .ok (.iload_n 1, 1) := by decide +kernel
theorem dX1_init_85 : decode cX1_init 85 = .ok (.new 9, 3) := by decide +kernel
theorem dX1_init_88 : decode cX1_init 88 = .ok (.dup, 1) := by decide +kernel
theorem dX1_init_89 : decode cX1_init 89 = .ok (.invokespecial 11, 3) := by decide +kernel
theorem dX1_init_92 : decode cX1_init 92 = .ok (.aastore, 1) := by decide +kernel
theorem dX1_init_93 : decode cX1_init 93 = .ok (.iinc 1 1, 3) := by decide +kernel
theorem dX1_init_96 : decode cX1_init 96 = .ok (.goto (-22), 3) := by decide +kernel
theorem dX1_init_99 : decode cX1_init 99 = .ok (.return_, 1) := by decide +kernel
theorem dX1_clear_0 : decode cX1_clear 0 = .ok (.aload_n 0, 1) := by decide +kernel
theorem dX1_clear_1 : decode cX1_clear 1 = .ok (.getfield 12, 3) := by decide +kernel
theorem dX1_clear_4 : decode cX1_clear 4 = .ok (.invokevirtual 42, 3) := by decide +kernel
theorem dX1_clear_7 : decode cX1_clear 7 = .ok (.aload_n 0, 1) := by decide +kernel
theorem dX1_clear_8 : decode cX1_clear 8 = .ok (.getfield 18, 3) := by decide +kernel
theorem dX1_clear_11 : decode cX1_clear 11 = .ok (.invokevirtual 42, 3) := by decide +kernel
theorem dX1_clear_14 : decode cX1_clear 14 = .ok (.iconst 0, 1) := by decide +kernel
theorem dX1_clear_15 : decode cX1_clear 15 = .ok (.istore_n 1, 1) := by decide +kernel
theorem dX1_clear_16 : decode cX1_clear 16 = .ok (.iload_n 1, 1) := by decide +kernel
theorem dX1_clear_17 : decode cX1_clear 17 = .ok (.bipush 40, 2) := by decide +kernel
theorem dX1_clear_19 : decode cX1_clear 19 = .ok (.if_icmp .ge 25, 3) := by decide +kernel
theorem dX1_clear_22 : decode cX1_clear 22 = .ok (.aload_n 0, 1) := by decide +kernel
theorem dX1_clear_23 : decode cX1_clear 23 = .ok (.getfield 21, 3) := by decide +kernel
theorem dX1_clear_26 : decode cX1_clear 26 = .ok (.iload_n 1, 1) := by decide +kernel
theorem dX1_clear_27 : decode cX1_clear 27 = .ok (.aaload, 1) := by decide +kernel
theorem dX1_clear_28 : decode cX1_clear 28 = .ok (.invokevirtual 42, 3) := by decide +kernel
theorem dX1_clear_31 : decode cX1_clear 31 = .ok (.aload_n 0, 1) := by decide +kernel
theorem dX1_clear_32 : decode cX1_clear 32 = .ok (.getfield 28, 3) := by decide +kernel
theorem dX1_clear_35 : decode cX1_clear 35 = .ok (.iload_n 1, 1) := by decide +kernel
theorem dX1_clear_36 : decode cX1_clear 36 = .ok (.iconst 0, 1) := by decide +kernel
theorem dX1_clear_37 : decode cX1_clear 37 = .ok (.iastore, 1) := by decide +kernel
theorem dX1_clear_38 : decode cX1_clear 38 = .ok (.iinc 1 1, 3) := by decide +kernel
theorem dX1_clear_41 : decode cX1_clear 41 = .ok (.goto (-25), 3) := by decide +kernel
theorem dX1_clear_44 : decode cX1_clear 44 = .ok (.iconst 0, 1) := by decide +kernel
theorem dX1_clear_45 : decode cX1_clear 45 = .ok (.istore_n 1, 1) := by decide +kernel
theorem dX1_clear_46 : decode cX1_clear 46 = .ok (.iload_n 1, 1) := by decide +kernel
theorem dX1_clear_47 : decode cX1_clear 47 = .ok (.bipush 9, 2) := by decide +kernel
theorem dX1_clear_49 : decode cX1_clear 49 = .ok (.if_icmp .ge 16, 3) := by decide +kernel
theorem dX1_clear_52 : decode cX1_clear 52 = .ok (.aload_n 0, 1) := by decide +kernel
theorem dX1_clear_53 : decode cX1_clear 53 = .ok (.getfield 32, 3) := by decide +kernel
theorem dX1_clear_56 : decode cX1_clear 56 = .ok (.iload_n 1, 1) := by decide +kernel
theorem dX1_clear_57 : decode cX1_clear 57 = .ok (.iconst 0, 1) := by decide +kernel
theorem dX1_clear_58 : decode cX1_clear 58 = .ok (.iastore, 1) := by decide +kernel
theorem dX1_clear_59 : decode cX1_clear 59 = .ok (.iinc 1 1, 3) := by decide +kernel
theorem dX1_clear_62 : decode cX1_clear 62 = .ok (.goto (-16), 3) := by decide +kernel
theorem dX1_clear_65 : decode cX1_clear 65 = .ok (.aload_n 0, 1) := by decide +kernel
theorem dX1_clear_66 : decode cX1_clear 66 = .ok (.iconst 2, 1) := by decide +kernel
theorem dX1_clear_67 : decode cX1_clear 67 = .ok (.putfield 35, 3) := by decide +kernel
theorem dX1_clear_70 : decode cX1_clear 70 = .ok (.aload_n 0, 1) := by decide +kernel
theorem dX1_clear_71 : decode cX1_clear 71 = .ok (.iconst 0, 1) := by decide +kernel
theorem dX1_clear_72 : decode cX1_clear 72 = .ok (.putfield 45, 3) := by decide +kernel
theorem dX1_clear_75 : decode cX1_clear 75 = .ok (.aload_n 0, 1) := by decide +kernel
theorem dX1_clear_76 : decode cX1_clear 76 = .ok (.iconst 1, 1) := by decide +kernel
theorem dX1_clear_77 : decode cX1_clear 77 = .ok (.putfield 39, 3) := by decide +kernel
theorem dX1_clear_80 : decode cX1_clear 80 = .ok (.aload_n 0, 1) := by decide +kernel
theorem dX1_clear_81 : decode cX1_clear 81 = .ok (.iconst 0, 1) := by decide +kernel
theorem dX1_clear_82 : decode cX1_clear 82 = .ok (.putfield 48, 3) := by decide +kernel
theorem dX1_clear_85 : decode cX1_clear 85 = .ok (.return_, 1) := by decide +kernel
theorem dX1_becomeLetterA_0 : decode cX1_becomeLetterA 0 = .ok (.aload_n 0, 1) := by decide +kernel
theorem dX1_becomeLetterA_1 : decode cX1_becomeLetterA 1 = .ok (.invokevirtual 51, 3) := by decide +kernel
theorem dX1_becomeLetterA_4 : decode cX1_becomeLetterA 4 = .ok (.aload_n 0, 1) := by decide +kernel
theorem dX1_becomeLetterA_5 : decode cX1_becomeLetterA 5 = .ok (.getfield 12, 3) := by decide +kernel
theorem dX1_becomeLetterA_8 : decode cX1_becomeLetterA 8 = .ok (.iconst 0, 1) := by decide +kernel
theorem dX1_becomeLetterA_9 : decode cX1_becomeLetterA 9 = .ok (.invokevirtual 52, 3) := by decide +kernel
theorem dX1_becomeLetterA_12 : decode cX1_becomeLetterA 12 = .ok (.aload_n 0, 1) := by decide +kernel
theorem dX1_becomeLetterA_13 : decode cX1_becomeLetterA 13 = .ok (.getfield 18, 3) := by decide +kernel
theorem dX1_becomeLetterA_16 : decode cX1_becomeLetterA 16 = .ok (.iconst 0, 1) := by decide +kernel
theorem dX1_becomeLetterA_17 : decode cX1_becomeLetterA 17 = .ok (.invokevirtual 52, 3) := by decide +kernel
theorem dX1_becomeLetterA_20 : decode cX1_becomeLetterA 20 = .ok (.return_, 1) := by decide +kernel
theorem dX1_beginWith_0 : decode cX1_beginWith 0 = .ok (.aload_n 1, 1) := by decide +kernel
theorem dX1_beginWith_1 : decode cX1_beginWith 1 = .ok (.aload_n 0, 1) := by decide +kernel
theorem dX1_beginWith_2 : decode cX1_beginWith 2 = .ok (.getfield 18, 3) := by decide +kernel
theorem dX1_beginWith_5 : decode cX1_beginWith 5 = .ok (.invokevirtual 56, 3) := by decide +kernel
theorem dX1_beginWith_8 : decode cX1_beginWith 8 = .ok (.aload_n 0, 1) := by decide +kernel
theorem dX1_beginWith_9 : decode cX1_beginWith 9 = .ok (.aload_n 0, 1) := by decide +kernel
theorem dX1_beginWith_10 : decode cX1_beginWith 10 = .ok (.invokevirtual 62, 3) := by decide +kernel
theorem dX1_beginWith_13 : decode cX1_beginWith 13 = .ok (.putfield 48, 3) := by decide +kernel
theorem dX1_beginWith_16 : decode cX1_beginWith 16 = .ok (.return_, 1) := by decide +kernel
theorem dX1_takeFrom_0 : decode cX1_takeFrom 0 = .ok (.aload_n 0, 1) := by decide +kernel
theorem dX1_takeFrom_1 : decode cX1_takeFrom 1 = .ok (.getfield 12, 3) := by decide +kernel
theorem dX1_takeFrom_4 : decode cX1_takeFrom 4 = .ok (.aload_n 1, 1) := by decide +kernel
theorem dX1_takeFrom_5 : decode cX1_takeFrom 5 = .ok (.getfield 12, 3) := by decide +kernel
theorem dX1_takeFrom_8 : decode cX1_takeFrom 8 = .ok (.invokevirtual 66, 3) := by decide +kernel
theorem dX1_takeFrom_11 : decode cX1_takeFrom 11 = .ok (.aload_n 0, 1) := by decide +kernel
theorem dX1_takeFrom_12 : decode cX1_takeFrom 12 = .ok (.getfield 18, 3) := by decide +kernel
theorem dX1_takeFrom_15 : decode cX1_takeFrom 15 = .ok (.aload_n 1, 1) := by decide +kernel
theorem dX1_takeFrom_16 : decode cX1_takeFrom 16 = .ok (.getfield 18, 3) := by decide +kernel
theorem dX1_takeFrom_19 : decode cX1_takeFrom 19 = .ok (.invokevirtual 66, 3) := by decide +kernel
theorem dX1_takeFrom_22 : decode cX1_takeFrom 22 = .ok (.iconst 0, 1) := by decide +kernel
theorem dX1_takeFrom_23 : decode cX1_takeFrom 23 = .ok (.istore_n 2, 1) := by decide +kernel
theorem dX1_takeFrom_24 : decode cX1_takeFrom 24 = .ok (.iload_n 2, 1) := by decide +kernel
theorem dX1_takeFrom_25 : decode cX1_takeFrom 25 = .ok (.bipush 40, 2) := by decide +kernel
theorem dX1_takeFrom_27 : decode cX1_takeFrom 27 = .ok (.if_icmp .ge 36, 3) := by decide +kernel
theorem dX1_takeFrom_30 : decode cX1_takeFrom 30 = .ok (.aload_n 0, 1) := by decide +kernel
theorem dX1_takeFrom_31 : decode cX1_takeFrom 31 = .ok (.getfield 21, 3) := by decide +kernel
theorem dX1_takeFrom_34 : decode cX1_takeFrom 34 = .ok (.iload_n 2, 1) := by decide +kernel
theorem dX1_takeFrom_35 : decode cX1_takeFrom 35 = .ok (.aaload, 1) := by decide +kernel
theorem dX1_takeFrom_36 : decode cX1_takeFrom 36 = .ok (.aload_n 1, 1) := by decide +kernel
theorem dX1_takeFrom_37 : decode cX1_takeFrom 37 = .ok (.getfield 21, 3) := by decide +kernel
theorem dX1_takeFrom_40 : decode cX1_takeFrom 40 = .ok (.iload_n 2, 1) := by decide +kernel
theorem dX1_takeFrom_41 : decode cX1_takeFrom 41 = .ok (.aaload, 1) := by decide +kernel
theorem dX1_takeFrom_42 : decode cX1_takeFrom 42 = .ok (.invokevirtual 66, 3) := by decide +kernel
theorem dX1_takeFrom_45 : decode cX1_takeFrom 45 = .ok (.aload_n 0, 1) := by decide +kernel
theorem dX1_takeFrom_46 : decode cX1_takeFrom 46 = .ok (.getfield 28, 3) := by decide +kernel
theorem dX1_takeFrom_49 : decode cX1_takeFrom 49 = .ok (.iload_n 2, 1) := by decide +kernel
theorem dX1_takeFrom_50 : decode cX1_takeFrom 50 = .ok (.aload_n 1, 1) := by decide +kernel
theorem dX1_takeFrom_51 : decode cX1_takeFrom 51 = .ok (.getfield 28, 3) := by decide +kernel
theorem dX1_takeFrom_54 : decode cX1_takeFrom 54 = .ok (.iload_n 2, 1) := by decide +kernel
theorem dX1_takeFrom_55 : decode cX1_takeFrom 55 = .ok (.iaload, 1) := by decide +kernel
theorem dX1_takeFrom_56 : decode cX1_takeFrom 56 = .ok (.iastore, 1) := by decide +kernel
theorem dX1_takeFrom_57 : decode cX1_takeFrom 57 = .ok (.iinc 2 1, 3) := by decide +kernel
theorem dX1_takeFrom_60 : decode cX1_takeFrom 60 = .ok (.goto (-36), 3) := by decide +kernel
theorem dX1_takeFrom_63 : decode cX1_takeFrom 63 = .ok (.iconst 0, 1) := by decide +kernel
theorem dX1_takeFrom_64 : decode cX1_takeFrom 64 = .ok (.istore_n 2, 1) := by decide +kernel
theorem dX1_takeFrom_65 : decode cX1_takeFrom 65 = .ok (.iload_n 2, 1) := by decide +kernel
theorem dX1_takeFrom_66 : decode cX1_takeFrom 66 = .ok (.bipush 9, 2) := by decide +kernel
theorem dX1_takeFrom_68 : decode cX1_takeFrom 68 = .ok (.if_icmp .ge 21, 3) := by decide +kernel
theorem dX1_takeFrom_71 : decode cX1_takeFrom 71 = .ok (.aload_n 0, 1) := by decide +kernel
theorem dX1_takeFrom_72 : decode cX1_takeFrom 72 = .ok (.getfield 32, 3) := by decide +kernel
theorem dX1_takeFrom_75 : decode cX1_takeFrom 75 = .ok (.iload_n 2, 1) := by decide +kernel
theorem dX1_takeFrom_76 : decode cX1_takeFrom 76 = .ok (.aload_n 1, 1) := by decide +kernel
theorem dX1_takeFrom_77 : decode cX1_takeFrom 77 = .ok (.getfield 32, 3) := by decide +kernel
theorem dX1_takeFrom_80 : decode cX1_takeFrom 80 = .ok (.iload_n 2, 1) := by decide +kernel
theorem dX1_takeFrom_81 : decode cX1_takeFrom 81 = .ok (.iaload, 1) := by decide +kernel
theorem dX1_takeFrom_82 : decode cX1_takeFrom 82 = .ok (.iastore, 1) := by decide +kernel
theorem dX1_takeFrom_83 : decode cX1_takeFrom 83 = .ok (.iinc 2 1, 3) := by decide +kernel
theorem dX1_takeFrom_86 : decode cX1_takeFrom 86 = .ok (.goto (-21), 3) := by decide +kernel
theorem dX1_takeFrom_89 : decode cX1_takeFrom 89 = .ok (.aload_n 0, 1) := by decide +kernel
theorem dX1_takeFrom_90 : decode cX1_takeFrom 90 = .ok (.aload_n 1, 1) := by decide +kernel
theorem dX1_takeFrom_91 : decode cX1_takeFrom 91 = .ok (.getfield 35, 3) := by decide +kernel
theorem dX1_takeFrom_94 : decode cX1_takeFrom 94 = .ok (.putfield 35, 3) := by decide +kernel
theorem dX1_takeFrom_97 : decode cX1_takeFrom 97 = .ok (.aload_n 0, 1) := by decide +kernel
theorem dX1_takeFrom_98 : decode cX1_takeFrom 98 = .ok (.aload_n 1, 1) := by decide +kernel
theorem dX1_takeFrom_99 : decode cX1_takeFrom 99 = .ok (.getfield 45, 3) := by decide +kernel
theorem dX1_takeFrom_102 : decode cX1_takeFrom 102 = .ok (.putfield 45, 3) := by decide +kernel
theorem dX1_takeFrom_105 : decode cX1_takeFrom 105 = .ok (.aload_n 0, 1) := by decide +kernel
theorem dX1_takeFrom_106 : decode cX1_takeFrom 106 = .ok (.aload_n 1, 1) := by decide +kernel
theorem dX1_takeFrom_107 : decode cX1_takeFrom 107 = .ok (.getfield 39, 3) := by decide +kernel
theorem dX1_takeFrom_110 : decode cX1_takeFrom 110 = .ok (.putfield 39, 3) := by decide +kernel
theorem dX1_takeFrom_113 : decode cX1_takeFrom 113 = .ok (.aload_n 0, 1) := by decide +kernel
theorem dX1_takeFrom_114 : decode cX1_takeFrom 114 = .ok (.aload_n 1, 1) := by decide +kernel
theorem dX1_takeFrom_115 : decode cX1_takeFrom 115 = .ok (.getfield 48, 3) := by decide +kernel
theorem dX1_takeFrom_118 : decode cX1_takeFrom 118 = .ok (.putfield 48, 3) := by decide +kernel
theorem dX1_takeFrom_121 : decode cX1_takeFrom 121 = .ok (.return_, 1) := by decide +kernel
theorem dX1_startRow_0 : decode cX1_startRow 0 = .ok (.aload_n 0, 1) := by decide +kernel
theorem dX1_startRow_1 : decode cX1_startRow 1 = .ok (.getfield 12, 3) := by decide +kernel
theorem dX1_startRow_4 : decode cX1_startRow 4 = .ok (.areturn, 1) := by decide +kernel
theorem dX1_toldText_0 : decode cX1_toldText 0 = .ok (.aload_n 0, 1) := by decide +kernel
theorem dX1_toldText_1 : decode cX1_toldText 1 = .ok (.getfield 18, 3) := by decide +kernel
theorem dX1_toldText_4 : decode cX1_toldText 4 = .ok (.areturn, 1) := by decide +kernel
theorem dX1_body_0 : decode cX1_body 0 = .ok (.iload_n 1, 1) := by decide +kernel
theorem dX1_body_1 : decode cX1_body 1 = .ok (.ifCond .lt 18, 3) := by decide +kernel
theorem dX1_body_4 : decode cX1_body 4 = .ok (.iload_n 1, 1) := by decide +kernel
theorem dX1_body_5 : decode cX1_body 5 = .ok (.bipush 40, 2) := by decide +kernel
theorem dX1_body_7 : decode cX1_body 7 = .ok (.if_icmp .ge 12, 3) := by decide +kernel
theorem dX1_body_10 : decode cX1_body 10 = .ok (.aload_n 0, 1) := by decide +kernel
theorem dX1_body_11 : decode cX1_body 11 = .ok (.getfield 21, 3) := by decide +kernel
theorem dX1_body_14 : decode cX1_body 14 = .ok (.iload_n 1, 1) := by decide +kernel
theorem dX1_body_15 : decode cX1_body 15 = .ok (.aaload, 1) := by decide +kernel
theorem dX1_body_16 : decode cX1_body 16 = .ok (.goto 7, 3) := by decide +kernel
theorem dX1_body_19 : decode cX1_body 19 = .ok (.aload_n 0, 1) := by decide +kernel
theorem dX1_body_20 : decode cX1_body 20 = .ok (.getfield 25, 3) := by decide +kernel
theorem dX1_body_23 : decode cX1_body 23 = .ok (.areturn, 1) := by decide +kernel
theorem dX1_hasRule_0 : decode cX1_hasRule 0 = .ok (.aload_n 0, 1) := by decide +kernel
theorem dX1_hasRule_1 : decode cX1_hasRule 1 = .ok (.iload_n 1, 1) := by decide +kernel
theorem dX1_hasRule_2 : decode cX1_hasRule 2 = .ok (.invokevirtual 69, 3) := by decide +kernel
theorem dX1_hasRule_5 : decode cX1_hasRule 5 = .ok (.invokevirtual 73, 3) := by decide +kernel
theorem dX1_hasRule_8 : decode cX1_hasRule 8 = .ok (.ifCond .le 7, 3) := by decide +kernel
theorem dX1_hasRule_11 : decode cX1_hasRule 11 = .ok (.iconst 1, 1) := by decide +kernel
theorem dX1_hasRule_12 : decode cX1_hasRule 12 = .ok (.goto 4, 3) := by decide +kernel
theorem dX1_hasRule_15 : decode cX1_hasRule 15 = .ok (.iconst 0, 1) := by decide +kernel
theorem dX1_hasRule_16 : decode cX1_hasRule 16 = .ok (.ireturn, 1) := by decide +kernel
theorem dX1_hasSymbol_0 : decode cX1_hasSymbol 0 = .ok (.iload_n 1, 1) := by decide +kernel
theorem dX1_hasSymbol_1 : decode cX1_hasSymbol 1 = .ok (.invokestatic 76, 3) := by decide +kernel
theorem dX1_hasSymbol_4 : decode cX1_hasSymbol 4 = .ok (.ifCond .ne 14, 3) := by decide +kernel
theorem dX1_hasSymbol_7 : decode cX1_hasSymbol 7 = .ok (.aload_n 0, 1) := by decide +kernel
theorem dX1_hasSymbol_8 : decode cX1_hasSymbol 8 = .ok (.iload_n 1, 1) := by decide +kernel
theorem dX1_hasSymbol_9 : decode cX1_hasSymbol 9 = .ok (.bipush 26, 2) := by decide +kernel
theorem dX1_hasSymbol_11 : decode cX1_hasSymbol 11 = .ok (.isub, 1) := by decide +kernel
theorem dX1_hasSymbol_12 : decode cX1_hasSymbol 12 = .ok (.invokevirtual 80, 3) := by decide +kernel
theorem dX1_hasSymbol_15 : decode cX1_hasSymbol 15 = .ok (.ifCond .eq 7, 3) := by decide +kernel
theorem dX1_hasSymbol_18 : decode cX1_hasSymbol 18 = .ok (.iconst 1, 1) := by decide +kernel
theorem dX1_hasSymbol_19 : decode cX1_hasSymbol 19 = .ok (.goto 4, 3) := by decide +kernel
theorem dX1_hasSymbol_22 : decode cX1_hasSymbol 22 = .ok (.iconst 0, 1) := by decide +kernel
theorem dX1_hasSymbol_23 : decode cX1_hasSymbol 23 = .ok (.ireturn, 1) := by decide +kernel
theorem dX1_lengthOf_0 : decode cX1_lengthOf 0 = .ok (.iload_n 1, 1) := by decide +kernel
theorem dX1_lengthOf_1 : decode cX1_lengthOf 1 = .ok (.ifCond .lt 9, 3) := by decide +kernel
theorem dX1_lengthOf_4 : decode cX1_lengthOf 4 = .ok (.iload_n 1, 1) := by decide +kernel
theorem dX1_lengthOf_5 : decode cX1_lengthOf 5 = .ok (.bipush 66, 2) := by decide +kernel
theorem dX1_lengthOf_7 : decode cX1_lengthOf 7 = .ok (.if_icmp .lt 5, 3) := by decide +kernel
theorem dX1_lengthOf_10 : decode cX1_lengthOf 10 = .ok (.iconst 0, 1) := by decide +kernel
theorem dX1_lengthOf_11 : decode cX1_lengthOf 11 = .ok (.ireturn, 1) := by decide +kernel
theorem dX1_lengthOf_12 : decode cX1_lengthOf 12 = .ok (.iload_n 1, 1) := by decide +kernel
theorem dX1_lengthOf_13 : decode cX1_lengthOf 13 = .ok (.bipush 26, 2) := by decide +kernel
theorem dX1_lengthOf_15 : decode cX1_lengthOf 15 = .ok (.if_icmp .ge 7, 3) := by decide +kernel
theorem dX1_lengthOf_18 : decode cX1_lengthOf 18 = .ok (.iconst 1, 1) := by decide +kernel
theorem dX1_lengthOf_19 : decode cX1_lengthOf 19 = .ok (.goto 12, 3) := by decide +kernel
theorem dX1_lengthOf_22 : decode cX1_lengthOf 22 = .ok (.aload_n 0, 1) := by decide +kernel
theorem dX1_lengthOf_23 : decode cX1_lengthOf 23 = .ok (.getfield 28, 3) := by decide +kernel
theorem dX1_lengthOf_26 : decode cX1_lengthOf 26 = .ok (.iload_n 1, 1) := by decide +kernel
theorem dX1_lengthOf_27 : decode cX1_lengthOf 27 = .ok (.bipush 26, 2) := by decide +kernel
theorem dX1_lengthOf_29 : decode cX1_lengthOf 29 = .ok (.isub, 1) := by decide +kernel
theorem dX1_lengthOf_30 : decode cX1_lengthOf 30 = .ok (.iaload, 1) := by decide +kernel
theorem dX1_lengthOf_31 : decode cX1_lengthOf 31 = .ok (.ireturn, 1) := by decide +kernel
theorem dX1_putLength_0 : decode cX1_putLength 0 = .ok (.iload_n 1, 1) := by decide +kernel
theorem dX1_putLength_1 : decode cX1_putLength 1 = .ok (.ifCond .lt 16, 3) := by decide +kernel
theorem dX1_putLength_4 : decode cX1_putLength 4 = .ok (.iload_n 1, 1) := by decide +kernel
theorem dX1_putLength_5 : decode cX1_putLength 5 = .ok (.bipush 40, 2) := by decide +kernel
theorem dX1_putLength_7 : decode cX1_putLength 7 = .ok (.if_icmp .ge 10, 3) := by decide +kernel
theorem dX1_putLength_10 : decode cX1_putLength 10 = .ok (.aload_n 0, 1) := by decide +kernel
theorem dX1_putLength_11 : decode cX1_putLength 11 = .ok (.getfield 28, 3) := by decide +kernel
theorem dX1_putLength_14 : decode cX1_putLength 14 = .ok (.iload_n 1, 1) := by decide +kernel
theorem dX1_putLength_15 : decode cX1_putLength 15 = .ok (.iload_n 2, 1) := by decide +kernel
theorem dX1_putLength_16 : decode cX1_putLength 16 = .ok (.iastore, 1) := by decide +kernel
theorem dX1_putLength_17 : decode cX1_putLength 17 = .ok (.return_, 1) := by decide +kernel
theorem dX1_number_0 : decode cX1_number 0 = .ok (.iload_n 1, 1) := by decide +kernel
theorem dX1_number_1 : decode cX1_number 1 = .ok (.lookupswitch 37 #[(4, 27), (5, 32)], 27) := by decide +kernel
theorem dX1_number_28 : decode cX1_number 28 = .ok (.aload_n 0, 1) := by decide +kernel
theorem dX1_number_29 : decode cX1_number 29 = .ok (.getfield 35, 3) := by decide +kernel
theorem dX1_number_32 : decode cX1_number 32 = .ok (.ireturn, 1) := by decide +kernel
theorem dX1_number_33 : decode cX1_number 33 = .ok (.aload_n 0, 1) := by decide +kernel
theorem dX1_number_34 : decode cX1_number 34 = .ok (.getfield 45, 3) := by decide +kernel
theorem dX1_number_37 : decode cX1_number 37 = .ok (.ireturn, 1) := by decide +kernel
theorem dX1_number_38 : decode cX1_number 38 = .ok (.aload_n 0, 1) := by decide +kernel
theorem dX1_number_39 : decode cX1_number 39 = .ok (.getfield 39, 3) := by decide +kernel
theorem dX1_number_42 : decode cX1_number 42 = .ok (.ireturn, 1) := by decide +kernel
theorem dX1_putNumber_0 : decode cX1_putNumber 0 = .ok (.iload_n 1, 1) := by decide +kernel
theorem dX1_putNumber_1 : decode cX1_putNumber 1 = .ok (.lookupswitch 43 #[(4, 27), (5, 35)], 27) := by decide +kernel
theorem dX1_putNumber_28 : decode cX1_putNumber 28 = .ok (.aload_n 0, 1) := by decide +kernel
theorem dX1_putNumber_29 : decode cX1_putNumber 29 = .ok (.iload_n 2, 1) := by decide +kernel
theorem dX1_putNumber_30 : decode cX1_putNumber 30 = .ok (.putfield 35, 3) := by decide +kernel
theorem dX1_putNumber_33 : decode cX1_putNumber 33 = .ok (.goto 16, 3) := by decide +kernel
theorem dX1_putNumber_36 : decode cX1_putNumber 36 = .ok (.aload_n 0, 1) := by decide +kernel
theorem dX1_putNumber_37 : decode cX1_putNumber 37 = .ok (.iload_n 2, 1) := by decide +kernel
theorem dX1_putNumber_38 : decode cX1_putNumber 38 = .ok (.putfield 45, 3) := by decide +kernel
theorem dX1_putNumber_41 : decode cX1_putNumber 41 = .ok (.goto 8, 3) := by decide +kernel
theorem dX1_putNumber_44 : decode cX1_putNumber 44 = .ok (.aload_n 0, 1) := by decide +kernel
theorem dX1_putNumber_45 : decode cX1_putNumber 45 = .ok (.iload_n 2, 1) := by decide +kernel
theorem dX1_putNumber_46 : decode cX1_putNumber 46 = .ok (.putfield 39, 3) := by decide +kernel
theorem dX1_putNumber_49 : decode cX1_putNumber 49 = .ok (.return_, 1) := by decide +kernel
theorem dX1_accountOf_0 : decode cX1_accountOf 0 = .ok (.iload_n 1, 1) := by decide +kernel
theorem dX1_accountOf_1 : decode cX1_accountOf 1 = .ok (.ifCond .lt 18, 3) := by decide +kernel
theorem dX1_accountOf_4 : decode cX1_accountOf 4 = .ok (.iload_n 1, 1) := by decide +kernel
theorem dX1_accountOf_5 : decode cX1_accountOf 5 = .ok (.bipush 9, 2) := by decide +kernel
theorem dX1_accountOf_7 : decode cX1_accountOf 7 = .ok (.if_icmp .ge 12, 3) := by decide +kernel
theorem dX1_accountOf_10 : decode cX1_accountOf 10 = .ok (.aload_n 0, 1) := by decide +kernel
theorem dX1_accountOf_11 : decode cX1_accountOf 11 = .ok (.getfield 32, 3) := by decide +kernel
theorem dX1_accountOf_14 : decode cX1_accountOf 14 = .ok (.iload_n 1, 1) := by decide +kernel
theorem dX1_accountOf_15 : decode cX1_accountOf 15 = .ok (.iaload, 1) := by decide +kernel
theorem dX1_accountOf_16 : decode cX1_accountOf 16 = .ok (.goto 4, 3) := by decide +kernel
theorem dX1_accountOf_19 : decode cX1_accountOf 19 = .ok (.iconst 0, 1) := by decide +kernel
theorem dX1_accountOf_20 : decode cX1_accountOf 20 = .ok (.ireturn, 1) := by decide +kernel
theorem dX1_addTo_0 : decode cX1_addTo 0 = .ok (.iload_n 1, 1) := by decide +kernel
theorem dX1_addTo_1 : decode cX1_addTo 1 = .ok (.ifCond .lt 19, 3) := by decide +kernel
theorem dX1_addTo_4 : decode cX1_addTo 4 = .ok (.iload_n 1, 1) := by decide +kernel
theorem dX1_addTo_5 : decode cX1_addTo 5 = .ok (.bipush 9, 2) := by decide +kernel
theorem dX1_addTo_7 : decode cX1_addTo 7 = .ok (.if_icmp .ge 13, 3) := by decide +kernel
theorem dX1_addTo_10 : decode cX1_addTo 10 = .ok (.aload_n 0, 1) := by decide +kernel
theorem dX1_addTo_11 : decode cX1_addTo 11 = .ok (.getfield 32, 3) := by decide +kernel
theorem dX1_addTo_14 : decode cX1_addTo 14 = .ok (.iload_n 1, 1) := by decide +kernel
theorem dX1_addTo_15 : decode cX1_addTo 15 = .ok (.dup2, 1) := by decide +kernel
theorem dX1_addTo_16 : decode cX1_addTo 16 = .ok (.iaload, 1) := by decide +kernel
theorem dX1_addTo_17 : decode cX1_addTo 17 = .ok (.iload_n 2, 1) := by decide +kernel
theorem dX1_addTo_18 : decode cX1_addTo 18 = .ok (.iadd, 1) := by decide +kernel
theorem dX1_addTo_19 : decode cX1_addTo 19 = .ok (.iastore, 1) := by decide +kernel
theorem dX1_addTo_20 : decode cX1_addTo 20 = .ok (.return_, 1) := by decide +kernel
theorem dX1_rulesAtFirst_0 : decode cX1_rulesAtFirst 0 = .ok (.aload_n 0, 1) := by decide +kernel
theorem dX1_rulesAtFirst_1 : decode cX1_rulesAtFirst 1 = .ok (.getfield 48, 3) := by decide +kernel
theorem dX1_rulesAtFirst_4 : decode cX1_rulesAtFirst 4 = .ok (.ireturn, 1) := by decide +kernel
theorem dX1_manyRules_0 : decode cX1_manyRules 0 = .ok (.iconst 0, 1) := by decide +kernel
theorem dX1_manyRules_1 : decode cX1_manyRules 1 = .ok (.istore_n 1, 1) := by decide +kernel
theorem dX1_manyRules_2 : decode cX1_manyRules 2 = .ok (.iconst 0, 1) := by decide +kernel
theorem dX1_manyRules_3 : decode cX1_manyRules 3 = .ok (.istore_n 2, 1) := by decide +kernel
theorem dX1_manyRules_4 : decode cX1_manyRules 4 = .ok (.iload_n 2, 1) := by decide +kernel
theorem dX1_manyRules_5 : decode cX1_manyRules 5 = .ok (.bipush 40, 2) := by decide +kernel
theorem dX1_manyRules_7 : decode cX1_manyRules 7 = .ok (.if_icmp .ge 29, 3) := by decide +kernel
theorem dX1_manyRules_10 : decode cX1_manyRules 10 = .ok (.iload_n 1, 1) := by decide +kernel
theorem dX1_manyRules_11 : decode cX1_manyRules 11 = .ok (.aload_n 0, 1) := by decide +kernel
theorem dX1_manyRules_12 : decode cX1_manyRules 12 = .ok (.getfield 21, 3) := by decide +kernel
theorem dX1_manyRules_15 : decode cX1_manyRules 15 = .ok (.iload_n 2, 1) := by decide +kernel
theorem dX1_manyRules_16 : decode cX1_manyRules 16 = .ok (.aaload, 1) := by decide +kernel
theorem dX1_manyRules_17 : decode cX1_manyRules 17 = .ok (.invokevirtual 73, 3) := by decide +kernel
theorem dX1_manyRules_20 : decode cX1_manyRules 20 = .ok (.ifCond .le 7, 3) := by decide +kernel
theorem dX1_manyRules_23 : decode cX1_manyRules 23 = .ok (.iconst 1, 1) := by decide +kernel
theorem dX1_manyRules_24 : decode cX1_manyRules 24 = .ok (.goto 4, 3) := by decide +kernel
theorem dX1_manyRules_27 : decode cX1_manyRules 27 = .ok (.iconst 0, 1) := by decide +kernel
theorem dX1_manyRules_28 : decode cX1_manyRules 28 = .ok (.iadd, 1) := by decide +kernel
theorem dX1_manyRules_29 : decode cX1_manyRules 29 = .ok (.istore_n 1, 1) := by decide +kernel
theorem dX1_manyRules_30 : decode cX1_manyRules 30 = .ok (.iinc 2 1, 3) := by decide +kernel
theorem dX1_manyRules_33 : decode cX1_manyRules 33 = .ok (.goto (-29), 3) := by decide +kernel
theorem dX1_manyRules_36 : decode cX1_manyRules 36 = .ok (.iload_n 1, 1) := by decide +kernel
theorem dX1_manyRules_37 : decode cX1_manyRules 37 = .ok (.ireturn, 1) := by decide +kernel
theorem dX1_totalSize_0 : decode cX1_totalSize 0 = .ok (.aload_n 0, 1) := by decide +kernel
theorem dX1_totalSize_1 : decode cX1_totalSize 1 = .ok (.getfield 12, 3) := by decide +kernel
theorem dX1_totalSize_4 : decode cX1_totalSize 4 = .ok (.invokevirtual 73, 3) := by decide +kernel
theorem dX1_totalSize_7 : decode cX1_totalSize 7 = .ok (.istore_n 1, 1) := by decide +kernel
theorem dX1_totalSize_8 : decode cX1_totalSize 8 = .ok (.iconst 0, 1) := by decide +kernel
theorem dX1_totalSize_9 : decode cX1_totalSize 9 = .ok (.istore_n 2, 1) := by decide +kernel
theorem dX1_totalSize_10 : decode cX1_totalSize 10 = .ok (.iload_n 2, 1) := by decide +kernel
theorem dX1_totalSize_11 : decode cX1_totalSize 11 = .ok (.bipush 40, 2) := by decide +kernel
theorem dX1_totalSize_13 : decode cX1_totalSize 13 = .ok (.if_icmp .ge 21, 3) := by decide +kernel
theorem dX1_totalSize_16 : decode cX1_totalSize 16 = .ok (.iload_n 1, 1) := by decide +kernel
theorem dX1_totalSize_17 : decode cX1_totalSize 17 = .ok (.aload_n 0, 1) := by decide +kernel
theorem dX1_totalSize_18 : decode cX1_totalSize 18 = .ok (.getfield 21, 3) := by decide +kernel
theorem dX1_totalSize_21 : decode cX1_totalSize 21 = .ok (.iload_n 2, 1) := by decide +kernel
theorem dX1_totalSize_22 : decode cX1_totalSize 22 = .ok (.aaload, 1) := by decide +kernel
theorem dX1_totalSize_23 : decode cX1_totalSize 23 = .ok (.invokevirtual 73, 3) := by decide +kernel
theorem dX1_totalSize_26 : decode cX1_totalSize 26 = .ok (.iadd, 1) := by decide +kernel
theorem dX1_totalSize_27 : decode cX1_totalSize 27 = .ok (.istore_n 1, 1) := by decide +kernel
theorem dX1_totalSize_28 : decode cX1_totalSize 28 = .ok (.iinc 2 1, 3) := by decide +kernel
theorem dX1_totalSize_31 : decode cX1_totalSize 31 = .ok (.goto (-21), 3) := by decide +kernel
theorem dX1_totalSize_34 : decode cX1_totalSize 34 = .ok (.iload_n 1, 1) := by decide +kernel
theorem dX1_totalSize_35 : decode cX1_totalSize 35 = .ok (.ireturn, 1) := by decide +kernel
theorem dX1_longestBody_0 : decode cX1_longestBody 0 = .ok (.iconst 0, 1) := by decide +kernel
theorem dX1_longestBody_1 : decode cX1_longestBody 1 = .ok (.istore_n 1, 1) := by decide +kernel
theorem dX1_longestBody_2 : decode cX1_longestBody 2 = .ok (.iconst 0, 1) := by decide +kernel
theorem dX1_longestBody_3 : decode cX1_longestBody 3 = .ok (.istore_n 2, 1) := by decide +kernel
theorem dX1_longestBody_4 : decode cX1_longestBody 4 = .ok (.iload_n 2, 1) := by decide +kernel
theorem dX1_longestBody_5 : decode cX1_longestBody 5 = .ok (.bipush 40, 2) := by decide +kernel
theorem dX1_longestBody_7 : decode cX1_longestBody 7 = .ok (.if_icmp .ge 23, 3) := by decide +kernel
theorem dX1_longestBody_10 : decode cX1_longestBody 10 = .ok (.iload_n 1, 1) := by decide +kernel
theorem dX1_longestBody_11 : decode cX1_longestBody 11 = .ok (.aload_n 0, 1) := by decide +kernel
theorem dX1_longestBody_12 : decode cX1_longestBody 12 = .ok (.getfield 21, 3) := by decide +kernel
theorem dX1_longestBody_15 : decode cX1_longestBody 15 = .ok (.iload_n 2, 1) := by decide +kernel
theorem dX1_longestBody_16 : decode cX1_longestBody 16 = .ok (.aaload, 1) := by decide +kernel
theorem dX1_longestBody_17 : decode cX1_longestBody 17 = .ok (.invokevirtual 73, 3) := by decide +kernel
theorem dX1_longestBody_20 : decode cX1_longestBody 20 = .ok (.invokestatic 83, 3) := by decide +kernel
theorem dX1_longestBody_23 : decode cX1_longestBody 23 = .ok (.istore_n 1, 1) := by decide +kernel
theorem dX1_longestBody_24 : decode cX1_longestBody 24 = .ok (.iinc 2 1, 3) := by decide +kernel
theorem dX1_longestBody_27 : decode cX1_longestBody 27 = .ok (.goto (-23), 3) := by decide +kernel
theorem dX1_longestBody_30 : decode cX1_longestBody 30 = .ok (.iload_n 1, 1) := by decide +kernel
theorem dX1_longestBody_31 : decode cX1_longestBody 31 = .ok (.ireturn, 1) := by decide +kernel
theorem dX1_textLength_0 : decode cX1_textLength 0 = .ok (.iconst 0, 1) := by decide +kernel
theorem dX1_textLength_1 : decode cX1_textLength 1 = .ok (.istore_n 1, 1) := by decide +kernel
theorem dX1_textLength_2 : decode cX1_textLength 2 = .ok (.iconst 0, 1) := by decide +kernel
theorem dX1_textLength_3 : decode cX1_textLength 3 = .ok (.istore_n 2, 1) := by decide +kernel
theorem dX1_textLength_4 : decode cX1_textLength 4 = .ok (.iload_n 2, 1) := by decide +kernel
theorem dX1_textLength_5 : decode cX1_textLength 5 = .ok (.aload_n 0, 1) := by decide +kernel
theorem dX1_textLength_6 : decode cX1_textLength 6 = .ok (.getfield 12, 3) := by decide +kernel
theorem dX1_textLength_9 : decode cX1_textLength 9 = .ok (.invokevirtual 73, 3) := by decide +kernel
theorem dX1_textLength_12 : decode cX1_textLength 12 = .ok (.if_icmp .ge 24, 3) := by decide +kernel
theorem dX1_textLength_15 : decode cX1_textLength 15 = .ok (.iload_n 1, 1) := by decide +kernel
theorem dX1_textLength_16 : decode cX1_textLength 16 = .ok (.aload_n 0, 1) := by decide +kernel
theorem dX1_textLength_17 : decode cX1_textLength 17 = .ok (.aload_n 0, 1) := by decide +kernel
theorem dX1_textLength_18 : decode cX1_textLength 18 = .ok (.getfield 12, 3) := by decide +kernel
theorem dX1_textLength_21 : decode cX1_textLength 21 = .ok (.iload_n 2, 1) := by decide +kernel
theorem dX1_textLength_22 : decode cX1_textLength 22 = .ok (.invokevirtual 89, 3) := by decide +kernel
theorem dX1_textLength_25 : decode cX1_textLength 25 = .ok (.invokevirtual 93, 3) := by decide +kernel
theorem dX1_textLength_28 : decode cX1_textLength 28 = .ok (.iadd, 1) := by decide +kernel
theorem dX1_textLength_29 : decode cX1_textLength 29 = .ok (.istore_n 1, 1) := by decide +kernel
theorem dX1_textLength_30 : decode cX1_textLength 30 = .ok (.iinc 2 1, 3) := by decide +kernel
theorem dX1_textLength_33 : decode cX1_textLength 33 = .ok (.goto (-29), 3) := by decide +kernel
theorem dX1_textLength_36 : decode cX1_textLength 36 = .ok (.iload_n 1, 1) := by decide +kernel
theorem dX1_textLength_37 : decode cX1_textLength 37 = .ok (.ireturn, 1) := by decide +kernel
theorem dX1_usesOf_0 : decode cX1_usesOf 0 = .ok (.aload_n 0, 1) := by decide +kernel
theorem dX1_usesOf_1 : decode cX1_usesOf 1 = .ok (.getfield 12, 3) := by decide +kernel
theorem dX1_usesOf_4 : decode cX1_usesOf 4 = .ok (.bipush 26, 2) := by decide +kernel
theorem dX1_usesOf_6 : decode cX1_usesOf 6 = .ok (.iload_n 1, 1) := by decide +kernel
theorem dX1_usesOf_7 : decode cX1_usesOf 7 = .ok (.iadd, 1) := by decide +kernel
theorem dX1_usesOf_8 : decode cX1_usesOf 8 = .ok (.invokevirtual 96, 3) := by decide +kernel
theorem dX1_usesOf_11 : decode cX1_usesOf 11 = .ok (.istore_n 2, 1) := by decide +kernel
theorem dX1_usesOf_12 : decode cX1_usesOf 12 = .ok (.iconst 0, 1) := by decide +kernel
theorem dX1_usesOf_13 : decode cX1_usesOf 13 = .ok (.istore_n 3, 1) := by decide +kernel
theorem dX1_usesOf_14 : decode cX1_usesOf 14 = .ok (.iload_n 3, 1) := by decide +kernel
theorem dX1_usesOf_15 : decode cX1_usesOf 15 = .ok (.bipush 40, 2) := by decide +kernel
theorem dX1_usesOf_17 : decode cX1_usesOf 17 = .ok (.if_icmp .ge 25, 3) := by decide +kernel
theorem dX1_usesOf_20 : decode cX1_usesOf 20 = .ok (.iload_n 2, 1) := by decide +kernel
theorem dX1_usesOf_21 : decode cX1_usesOf 21 = .ok (.aload_n 0, 1) := by decide +kernel
theorem dX1_usesOf_22 : decode cX1_usesOf 22 = .ok (.getfield 21, 3) := by decide +kernel
theorem dX1_usesOf_25 : decode cX1_usesOf 25 = .ok (.iload_n 3, 1) := by decide +kernel
theorem dX1_usesOf_26 : decode cX1_usesOf 26 = .ok (.aaload, 1) := by decide +kernel
theorem dX1_usesOf_27 : decode cX1_usesOf 27 = .ok (.bipush 26, 2) := by decide +kernel
theorem dX1_usesOf_29 : decode cX1_usesOf 29 = .ok (.iload_n 1, 1) := by decide +kernel
theorem dX1_usesOf_30 : decode cX1_usesOf 30 = .ok (.iadd, 1) := by decide +kernel
theorem dX1_usesOf_31 : decode cX1_usesOf 31 = .ok (.invokevirtual 96, 3) := by decide +kernel
theorem dX1_usesOf_34 : decode cX1_usesOf 34 = .ok (.iadd, 1) := by decide +kernel
theorem dX1_usesOf_35 : decode cX1_usesOf 35 = .ok (.istore_n 2, 1) := by decide +kernel
theorem dX1_usesOf_36 : decode cX1_usesOf 36 = .ok (.iinc 3 1, 3) := by decide +kernel
theorem dX1_usesOf_39 : decode cX1_usesOf 39 = .ok (.goto (-25), 3) := by decide +kernel
theorem dX1_usesOf_42 : decode cX1_usesOf 42 = .ok (.iload_n 2, 1) := by decide +kernel
theorem dX1_usesOf_43 : decode cX1_usesOf 43 = .ok (.ireturn, 1) := by decide +kernel
theorem dX1_lowestFree_0 : decode cX1_lowestFree 0 = .ok (.iconst 0, 1) := by decide +kernel
theorem dX1_lowestFree_1 : decode cX1_lowestFree 1 = .ok (.istore_n 1, 1) := by decide +kernel
theorem dX1_lowestFree_2 : decode cX1_lowestFree 2 = .ok (.iload_n 1, 1) := by decide +kernel
theorem dX1_lowestFree_3 : decode cX1_lowestFree 3 = .ok (.bipush 40, 2) := by decide +kernel
theorem dX1_lowestFree_5 : decode cX1_lowestFree 5 = .ok (.if_icmp .ge 23, 3) := by decide +kernel
theorem dX1_lowestFree_8 : decode cX1_lowestFree 8 = .ok (.aload_n 0, 1) := by decide +kernel
theorem dX1_lowestFree_9 : decode cX1_lowestFree 9 = .ok (.getfield 21, 3) := by decide +kernel
theorem dX1_lowestFree_12 : decode cX1_lowestFree 12 = .ok (.iload_n 1, 1) := by decide +kernel
theorem dX1_lowestFree_13 : decode cX1_lowestFree 13 = .ok (.aaload, 1) := by decide +kernel
theorem dX1_lowestFree_14 : decode cX1_lowestFree 14 = .ok (.invokevirtual 73, 3) := by decide +kernel
theorem dX1_lowestFree_17 : decode cX1_lowestFree 17 = .ok (.ifCond .ne 5, 3) := by decide +kernel
theorem dX1_lowestFree_20 : decode cX1_lowestFree 20 = .ok (.iload_n 1, 1) := by decide +kernel
theorem dX1_lowestFree_21 : decode cX1_lowestFree 21 = .ok (.ireturn, 1) := by decide +kernel
theorem dX1_lowestFree_22 : decode cX1_lowestFree 22 = .ok (.iinc 1 1, 3) := by decide +kernel
theorem dX1_lowestFree_25 : decode cX1_lowestFree 25 = .ok (.goto (-23), 3) := by decide +kernel
theorem dX1_lowestFree_28 : decode cX1_lowestFree 28 = .ok (.iconst (-1), 1) := by decide +kernel
theorem dX1_lowestFree_29 : decode cX1_lowestFree 29 = .ok (.ireturn, 1) := by decide +kernel
theorem dX1_placeOver_0 : decode cX1_placeOver 0 = .ok (.iconst 0, 1) := by decide +kernel
theorem dX1_placeOver_1 : decode cX1_placeOver 1 = .ok (.istore_n 3, 1) := by decide +kernel
theorem dX1_placeOver_2 : decode cX1_placeOver 2 = .ok (.iconst 0, 1) := by decide +kernel
theorem dX1_placeOver_3 : decode cX1_placeOver 3 = .ok (.istore 4, 2) := by decide +kernel
theorem dX1_placeOver_5 : decode cX1_placeOver 5 = .ok (.iload 4, 2) := by decide +kernel
theorem dX1_placeOver_7 : decode cX1_placeOver 7 = .ok (.aload_n 1, 1) := by decide +kernel
theorem dX1_placeOver_8 : decode cX1_placeOver 8 = .ok (.invokevirtual 73, 3) := by decide +kernel
theorem dX1_placeOver_11 : decode cX1_placeOver 11 = .ok (.if_icmp .ge 30, 3) := by decide +kernel
theorem dX1_placeOver_14 : decode cX1_placeOver 14 = .ok (.iload_n 3, 1) := by decide +kernel
theorem dX1_placeOver_15 : decode cX1_placeOver 15 = .ok (.aload_n 0, 1) := by decide +kernel
theorem dX1_placeOver_16 : decode cX1_placeOver 16 = .ok (.aload_n 1, 1) := by decide +kernel
theorem dX1_placeOver_17 : decode cX1_placeOver 17 = .ok (.iload 4, 2) := by decide +kernel
theorem dX1_placeOver_19 : decode cX1_placeOver 19 = .ok (.invokevirtual 89, 3) := by decide +kernel
theorem dX1_placeOver_22 : decode cX1_placeOver 22 = .ok (.invokevirtual 93, 3) := by decide +kernel
theorem dX1_placeOver_25 : decode cX1_placeOver 25 = .ok (.iadd, 1) := by decide +kernel
theorem dX1_placeOver_26 : decode cX1_placeOver 26 = .ok (.istore_n 3, 1) := by decide +kernel
theorem dX1_placeOver_27 : decode cX1_placeOver 27 = .ok (.iload_n 2, 1) := by decide +kernel
theorem dX1_placeOver_28 : decode cX1_placeOver 28 = .ok (.iload_n 3, 1) := by decide +kernel
theorem dX1_placeOver_29 : decode cX1_placeOver 29 = .ok (.if_icmp .ge 6, 3) := by decide +kernel
theorem dX1_placeOver_32 : decode cX1_placeOver 32 = .ok (.iload 4, 2) := by decide +kernel
theorem dX1_placeOver_34 : decode cX1_placeOver 34 = .ok (.ireturn, 1) := by decide +kernel
theorem dX1_placeOver_35 : decode cX1_placeOver 35 = .ok (.iinc 4 1, 3) := by decide +kernel
theorem dX1_placeOver_38 : decode cX1_placeOver 38 = .ok (.goto (-33), 3) := by decide +kernel
theorem dX1_placeOver_41 : decode cX1_placeOver 41 = .ok (.aload_n 1, 1) := by decide +kernel
theorem dX1_placeOver_42 : decode cX1_placeOver 42 = .ok (.invokevirtual 73, 3) := by decide +kernel
theorem dX1_placeOver_45 : decode cX1_placeOver 45 = .ok (.iconst 1, 1) := by decide +kernel
theorem dX1_placeOver_46 : decode cX1_placeOver 46 = .ok (.isub, 1) := by decide +kernel
theorem dX1_placeOver_47 : decode cX1_placeOver 47 = .ok (.ireturn, 1) := by decide +kernel
theorem dX1_letterOfText_0 : decode cX1_letterOfText 0 = .ok (.aload_n 0, 1) := by decide +kernel
theorem dX1_letterOfText_1 : decode cX1_letterOfText 1 = .ok (.getfield 12, 3) := by decide +kernel
theorem dX1_letterOfText_4 : decode cX1_letterOfText 4 = .ok (.astore_n 2, 1) := by decide +kernel
theorem dX1_letterOfText_5 : decode cX1_letterOfText 5 = .ok (.iload_n 1, 1) := by decide +kernel
theorem dX1_letterOfText_6 : decode cX1_letterOfText 6 = .ok (.istore_n 3, 1) := by decide +kernel
theorem dX1_letterOfText_7 : decode cX1_letterOfText 7 = .ok (.iconst 0, 1) := by decide +kernel
theorem dX1_letterOfText_8 : decode cX1_letterOfText 8 = .ok (.istore 4, 2) := by decide +kernel
theorem dX1_letterOfText_10 : decode cX1_letterOfText 10 = .ok (.iload 4, 2) := by decide +kernel
theorem dX1_letterOfText_12 : decode cX1_letterOfText 12 = .ok (.bipush 40, 2) := by decide +kernel
theorem dX1_letterOfText_14 : decode cX1_letterOfText 14 = .ok (.if_icmp .gt 74, 3) := by decide +kernel
theorem dX1_letterOfText_17 : decode cX1_letterOfText 17 = .ok (.aload_n 0, 1) := by decide +kernel
theorem dX1_letterOfText_18 : decode cX1_letterOfText 18 = .ok (.aload_n 2, 1) := by decide +kernel
theorem dX1_letterOfText_19 : decode cX1_letterOfText 19 = .ok (.iload_n 3, 1) := by decide +kernel
theorem dX1_letterOfText_20 : decode cX1_letterOfText 20 = .ok (.invokevirtual 99, 3) := by decide +kernel
theorem dX1_letterOfText_23 : decode cX1_letterOfText 23 = .ok (.istore 5, 2) := by decide +kernel
theorem dX1_letterOfText_25 : decode cX1_letterOfText 25 = .ok (.iconst 0, 1) := by decide +kernel
theorem dX1_letterOfText_26 : decode cX1_letterOfText 26 = .ok (.istore 6, 2) := by decide +kernel
theorem dX1_letterOfText_28 : decode cX1_letterOfText 28 = .ok (.iload 6, 2) := by decide +kernel
theorem dX1_letterOfText_30 : decode cX1_letterOfText 30 = .ok (.iload 5, 2) := by decide +kernel
theorem dX1_letterOfText_32 : decode cX1_letterOfText 32 = .ok (.if_icmp .ge 22, 3) := by decide +kernel
theorem dX1_letterOfText_35 : decode cX1_letterOfText 35 = .ok (.iload_n 3, 1) := by decide +kernel
theorem dX1_letterOfText_36 : decode cX1_letterOfText 36 = .ok (.aload_n 0, 1) := by decide +kernel
theorem dX1_letterOfText_37 : decode cX1_letterOfText 37 = .ok (.aload_n 2, 1) := by decide +kernel
theorem dX1_letterOfText_38 : decode cX1_letterOfText 38 = .ok (.iload 6, 2) := by decide +kernel
theorem dX1_letterOfText_40 : decode cX1_letterOfText 40 = .ok (.invokevirtual 89, 3) := by decide +kernel
theorem dX1_letterOfText_43 : decode cX1_letterOfText 43 = .ok (.invokevirtual 93, 3) := by decide +kernel
theorem dX1_letterOfText_46 : decode cX1_letterOfText 46 = .ok (.isub, 1) := by decide +kernel
theorem dX1_letterOfText_47 : decode cX1_letterOfText 47 = .ok (.istore_n 3, 1) := by decide +kernel
theorem dX1_letterOfText_48 : decode cX1_letterOfText 48 = .ok (.iinc 6 1, 3) := by decide +kernel
theorem dX1_letterOfText_51 : decode cX1_letterOfText 51 = .ok (.goto (-23), 3) := by decide +kernel
theorem dX1_letterOfText_54 : decode cX1_letterOfText 54 = .ok (.aload_n 2, 1) := by decide +kernel
theorem dX1_letterOfText_55 : decode cX1_letterOfText 55 = .ok (.iload 5, 2) := by decide +kernel
theorem dX1_letterOfText_57 : decode cX1_letterOfText 57 = .ok (.invokevirtual 89, 3) := by decide +kernel
theorem dX1_letterOfText_60 : decode cX1_letterOfText 60 = .ok (.istore 6, 2) := by decide +kernel
theorem dX1_letterOfText_62 : decode cX1_letterOfText 62 = .ok (.iload 6, 2) := by decide +kernel
theorem dX1_letterOfText_64 : decode cX1_letterOfText 64 = .ok (.bipush 26, 2) := by decide +kernel
theorem dX1_letterOfText_66 : decode cX1_letterOfText 66 = .ok (.if_icmp .ge 6, 3) := by decide +kernel
theorem dX1_letterOfText_69 : decode cX1_letterOfText 69 = .ok (.iload 6, 2) := by decide +kernel
theorem dX1_letterOfText_71 : decode cX1_letterOfText 71 = .ok (.ireturn, 1) := by decide +kernel
theorem dX1_letterOfText_72 : decode cX1_letterOfText 72 = .ok (.aload_n 0, 1) := by decide +kernel
theorem dX1_letterOfText_73 : decode cX1_letterOfText 73 = .ok (.iload 6, 2) := by decide +kernel
theorem dX1_letterOfText_75 : decode cX1_letterOfText 75 = .ok (.bipush 26, 2) := by decide +kernel
theorem dX1_letterOfText_77 : decode cX1_letterOfText 77 = .ok (.isub, 1) := by decide +kernel
theorem dX1_letterOfText_78 : decode cX1_letterOfText 78 = .ok (.invokevirtual 69, 3) := by decide +kernel
theorem dX1_letterOfText_81 : decode cX1_letterOfText 81 = .ok (.astore_n 2, 1) := by decide +kernel
theorem dX1_letterOfText_82 : decode cX1_letterOfText 82 = .ok (.iinc 4 1, 3) := by decide +kernel
theorem dX1_letterOfText_85 : decode cX1_letterOfText 85 = .ok (.goto (-75), 3) := by decide +kernel
theorem dX1_letterOfText_88 : decode cX1_letterOfText 88 = .ok (.iconst (-1), 1) := by decide +kernel
theorem dX1_letterOfText_89 : decode cX1_letterOfText 89 = .ok (.ireturn, 1) := by decide +kernel
theorem dX1_join_0 : decode cX1_join 0 = .ok (.aload_n 0, 1) := by decide +kernel
theorem dX1_join_1 : decode cX1_join 1 = .ok (.iload_n 1, 1) := by decide +kernel
theorem dX1_join_2 : decode cX1_join 2 = .ok (.iload_n 2, 1) := by decide +kernel
theorem dX1_join_3 : decode cX1_join 3 = .ok (.invokevirtual 103, 3) := by decide +kernel
theorem dX1_join_6 : decode cX1_join 6 = .ok (.istore_n 3, 1) := by decide +kernel
theorem dX1_join_7 : decode cX1_join 7 = .ok (.iload_n 3, 1) := by decide +kernel
theorem dX1_join_8 : decode cX1_join 8 = .ok (.iconst (-1), 1) := by decide +kernel
theorem dX1_join_9 : decode cX1_join 9 = .ok (.if_icmp .ne 10, 3) := by decide +kernel
theorem dX1_join_12 : decode cX1_join 12 = .ok (.aload_n 0, 1) := by decide +kernel
theorem dX1_join_13 : decode cX1_join 13 = .ok (.invokevirtual 106, 3) := by decide +kernel
theorem dX1_join_16 : decode cX1_join 16 = .ok (.goto 4, 3) := by decide +kernel
theorem dX1_join_19 : decode cX1_join 19 = .ok (.iload_n 3, 1) := by decide +kernel
theorem dX1_join_20 : decode cX1_join 20 = .ok (.istore 4, 2) := by decide +kernel
theorem dX1_join_22 : decode cX1_join 22 = .ok (.iload 4, 2) := by decide +kernel
theorem dX1_join_24 : decode cX1_join 24 = .ok (.iconst (-1), 1) := by decide +kernel
theorem dX1_join_25 : decode cX1_join 25 = .ok (.if_icmp .ne 5, 3) := by decide +kernel
theorem dX1_join_28 : decode cX1_join 28 = .ok (.iconst (-1), 1) := by decide +kernel
theorem dX1_join_29 : decode cX1_join 29 = .ok (.ireturn, 1) := by decide +kernel
theorem dX1_join_30 : decode cX1_join 30 = .ok (.aload_n 0, 1) := by decide +kernel
theorem dX1_join_31 : decode cX1_join 31 = .ok (.getfield 12, 3) := by decide +kernel
theorem dX1_join_34 : decode cX1_join 34 = .ok (.iload_n 1, 1) := by decide +kernel
theorem dX1_join_35 : decode cX1_join 35 = .ok (.iload_n 2, 1) := by decide +kernel
theorem dX1_join_36 : decode cX1_join 36 = .ok (.bipush 26, 2) := by decide +kernel
theorem dX1_join_38 : decode cX1_join 38 = .ok (.iload 4, 2) := by decide +kernel
theorem dX1_join_40 : decode cX1_join 40 = .ok (.iadd, 1) := by decide +kernel
theorem dX1_join_41 : decode cX1_join 41 = .ok (.invokevirtual 109, 3) := by decide +kernel
theorem dX1_join_44 : decode cX1_join 44 = .ok (.istore 5, 2) := by decide +kernel
theorem dX1_join_46 : decode cX1_join 46 = .ok (.iconst 0, 1) := by decide +kernel
theorem dX1_join_47 : decode cX1_join 47 = .ok (.istore 6, 2) := by decide +kernel
theorem dX1_join_49 : decode cX1_join 49 = .ok (.iload 6, 2) := by decide +kernel
theorem dX1_join_51 : decode cX1_join 51 = .ok (.bipush 40, 2) := by decide +kernel
theorem dX1_join_53 : decode cX1_join 53 = .ok (.if_icmp .ge 46, 3) := by decide +kernel
theorem dX1_join_56 : decode cX1_join 56 = .ok (.aload_n 0, 1) := by decide +kernel
theorem dX1_join_57 : decode cX1_join 57 = .ok (.getfield 21, 3) := by decide +kernel
theorem dX1_join_60 : decode cX1_join 60 = .ok (.iload 6, 2) := by decide +kernel
theorem dX1_join_62 : decode cX1_join 62 = .ok (.aaload, 1) := by decide +kernel
theorem dX1_join_63 : decode cX1_join 63 = .ok (.iload_n 1, 1) := by decide +kernel
theorem dX1_join_64 : decode cX1_join 64 = .ok (.iload_n 2, 1) := by decide +kernel
theorem dX1_join_65 : decode cX1_join 65 = .ok (.invokevirtual 113, 3) := by decide +kernel
theorem dX1_join_68 : decode cX1_join 68 = .ok (.ifCond .ne 25, 3) := by decide +kernel
theorem dX1_join_71 : decode cX1_join 71 = .ok (.iload 5, 2) := by decide +kernel
theorem dX1_join_73 : decode cX1_join 73 = .ok (.aload_n 0, 1) := by decide +kernel
theorem dX1_join_74 : decode cX1_join 74 = .ok (.getfield 21, 3) := by decide +kernel
theorem dX1_join_77 : decode cX1_join 77 = .ok (.iload 6, 2) := by decide +kernel
theorem dX1_join_79 : decode cX1_join 79 = .ok (.aaload, 1) := by decide +kernel
theorem dX1_join_80 : decode cX1_join 80 = .ok (.iload_n 1, 1) := by decide +kernel
theorem dX1_join_81 : decode cX1_join 81 = .ok (.iload_n 2, 1) := by decide +kernel
theorem dX1_join_82 : decode cX1_join 82 = .ok (.bipush 26, 2) := by decide +kernel
theorem dX1_join_84 : decode cX1_join 84 = .ok (.iload 4, 2) := by decide +kernel
theorem dX1_join_86 : decode cX1_join 86 = .ok (.iadd, 1) := by decide +kernel
theorem dX1_join_87 : decode cX1_join 87 = .ok (.invokevirtual 109, 3) := by decide +kernel
theorem dX1_join_90 : decode cX1_join 90 = .ok (.iadd, 1) := by decide +kernel
theorem dX1_join_91 : decode cX1_join 91 = .ok (.istore 5, 2) := by decide +kernel
theorem dX1_join_93 : decode cX1_join 93 = .ok (.iinc 6 1, 3) := by decide +kernel
theorem dX1_join_96 : decode cX1_join 96 = .ok (.goto (-47), 3) := by decide +kernel
theorem dX1_join_99 : decode cX1_join 99 = .ok (.aload_n 0, 1) := by decide +kernel
theorem dX1_join_100 : decode cX1_join 100 = .ok (.iconst 5, 1) := by decide +kernel
theorem dX1_join_101 : decode cX1_join 101 = .ok (.iload 5, 2) := by decide +kernel
theorem dX1_join_103 : decode cX1_join 103 = .ok (.invokevirtual 117, 3) := by decide +kernel
theorem dX1_join_106 : decode cX1_join 106 = .ok (.iload_n 3, 1) := by decide +kernel
theorem dX1_join_107 : decode cX1_join 107 = .ok (.iconst (-1), 1) := by decide +kernel
theorem dX1_join_108 : decode cX1_join 108 = .ok (.if_icmp .ne 49, 3) := by decide +kernel
theorem dX1_join_111 : decode cX1_join 111 = .ok (.aload_n 0, 1) := by decide +kernel
theorem dX1_join_112 : decode cX1_join 112 = .ok (.getfield 21, 3) := by decide +kernel
theorem dX1_join_115 : decode cX1_join 115 = .ok (.iload 4, 2) := by decide +kernel
theorem dX1_join_117 : decode cX1_join 117 = .ok (.aaload, 1) := by decide +kernel
theorem dX1_join_118 : decode cX1_join 118 = .ok (.iload_n 1, 1) := by decide +kernel
theorem dX1_join_119 : decode cX1_join 119 = .ok (.invokevirtual 52, 3) := by decide +kernel
theorem dX1_join_122 : decode cX1_join 122 = .ok (.aload_n 0, 1) := by decide +kernel
theorem dX1_join_123 : decode cX1_join 123 = .ok (.getfield 21, 3) := by decide +kernel
theorem dX1_join_126 : decode cX1_join 126 = .ok (.iload 4, 2) := by decide +kernel
theorem dX1_join_128 : decode cX1_join 128 = .ok (.aaload, 1) := by decide +kernel
theorem dX1_join_129 : decode cX1_join 129 = .ok (.iload_n 2, 1) := by decide +kernel
theorem dX1_join_130 : decode cX1_join 130 = .ok (.invokevirtual 52, 3) := by decide +kernel
theorem dX1_join_133 : decode cX1_join 133 = .ok (.aload_n 0, 1) := by decide +kernel
theorem dX1_join_134 : decode cX1_join 134 = .ok (.getfield 28, 3) := by decide +kernel
theorem dX1_join_137 : decode cX1_join 137 = .ok (.iload 4, 2) := by decide +kernel
theorem dX1_join_139 : decode cX1_join 139 = .ok (.aload_n 0, 1) := by decide +kernel
theorem dX1_join_140 : decode cX1_join 140 = .ok (.iload_n 1, 1) := by decide +kernel
theorem dX1_join_141 : decode cX1_join 141 = .ok (.invokevirtual 93, 3) := by decide +kernel
theorem dX1_join_144 : decode cX1_join 144 = .ok (.aload_n 0, 1) := by decide +kernel
theorem dX1_join_145 : decode cX1_join 145 = .ok (.iload_n 2, 1) := by decide +kernel
theorem dX1_join_146 : decode cX1_join 146 = .ok (.invokevirtual 93, 3) := by decide +kernel
theorem dX1_join_149 : decode cX1_join 149 = .ok (.iadd, 1) := by decide +kernel
theorem dX1_join_150 : decode cX1_join 150 = .ok (.iastore, 1) := by decide +kernel
theorem dX1_join_151 : decode cX1_join 151 = .ok (.aload_n 0, 1) := by decide +kernel
theorem dX1_join_152 : decode cX1_join 152 = .ok (.iconst 1, 1) := by decide +kernel
theorem dX1_join_153 : decode cX1_join 153 = .ok (.iconst 1, 1) := by decide +kernel
theorem dX1_join_154 : decode cX1_join 154 = .ok (.invokevirtual 117, 3) := by decide +kernel
theorem dX1_join_157 : decode cX1_join 157 = .ok (.iload 4, 2) := by decide +kernel
theorem dX1_join_159 : decode cX1_join 159 = .ok (.ireturn, 1) := by decide +kernel
theorem dX1_keptOf_0 : decode cX1_keptOf 0 = .ok (.iconst 0, 1) := by decide +kernel
theorem dX1_keptOf_1 : decode cX1_keptOf 1 = .ok (.istore_n 3, 1) := by decide +kernel
theorem dX1_keptOf_2 : decode cX1_keptOf 2 = .ok (.iload_n 3, 1) := by decide +kernel
theorem dX1_keptOf_3 : decode cX1_keptOf 3 = .ok (.bipush 40, 2) := by decide +kernel
theorem dX1_keptOf_5 : decode cX1_keptOf 5 = .ok (.if_icmp .ge 25, 3) := by decide +kernel
theorem dX1_keptOf_8 : decode cX1_keptOf 8 = .ok (.aload_n 0, 1) := by decide +kernel
theorem dX1_keptOf_9 : decode cX1_keptOf 9 = .ok (.getfield 21, 3) := by decide +kernel
theorem dX1_keptOf_12 : decode cX1_keptOf 12 = .ok (.iload_n 3, 1) := by decide +kernel
theorem dX1_keptOf_13 : decode cX1_keptOf 13 = .ok (.aaload, 1) := by decide +kernel
theorem dX1_keptOf_14 : decode cX1_keptOf 14 = .ok (.iload_n 1, 1) := by decide +kernel
theorem dX1_keptOf_15 : decode cX1_keptOf 15 = .ok (.iload_n 2, 1) := by decide +kernel
theorem dX1_keptOf_16 : decode cX1_keptOf 16 = .ok (.invokevirtual 113, 3) := by decide +kernel
theorem dX1_keptOf_19 : decode cX1_keptOf 19 = .ok (.ifCond .eq 5, 3) := by decide +kernel
theorem dX1_keptOf_22 : decode cX1_keptOf 22 = .ok (.iload_n 3, 1) := by decide +kernel
theorem dX1_keptOf_23 : decode cX1_keptOf 23 = .ok (.ireturn, 1) := by decide +kernel
theorem dX1_keptOf_24 : decode cX1_keptOf 24 = .ok (.iinc 3 1, 3) := by decide +kernel
theorem dX1_keptOf_27 : decode cX1_keptOf 27 = .ok (.goto (-25), 3) := by decide +kernel
theorem dX1_keptOf_30 : decode cX1_keptOf 30 = .ok (.iconst (-1), 1) := by decide +kernel
theorem dX1_keptOf_31 : decode cX1_keptOf 31 = .ok (.ireturn, 1) := by decide +kernel
theorem dX1_dissolve_0 : decode cX1_dissolve 0 = .ok (.aload_n 0, 1) := by decide +kernel
theorem dX1_dissolve_1 : decode cX1_dissolve 1 = .ok (.iload_n 1, 1) := by decide +kernel
theorem dX1_dissolve_2 : decode cX1_dissolve 2 = .ok (.invokevirtual 69, 3) := by decide +kernel
theorem dX1_dissolve_5 : decode cX1_dissolve 5 = .ok (.astore_n 3, 1) := by decide +kernel
theorem dX1_dissolve_6 : decode cX1_dissolve 6 = .ok (.bipush 26, 2) := by decide +kernel
theorem dX1_dissolve_8 : decode cX1_dissolve 8 = .ok (.iload_n 1, 1) := by decide +kernel
theorem dX1_dissolve_9 : decode cX1_dissolve 9 = .ok (.iadd, 1) := by decide +kernel
theorem dX1_dissolve_10 : decode cX1_dissolve 10 = .ok (.istore 4, 2) := by decide +kernel
theorem dX1_dissolve_12 : decode cX1_dissolve 12 = .ok (.aload_n 0, 1) := by decide +kernel
theorem dX1_dissolve_13 : decode cX1_dissolve 13 = .ok (.getfield 12, 3) := by decide +kernel
theorem dX1_dissolve_16 : decode cX1_dissolve 16 = .ok (.iload 4, 2) := by decide +kernel
theorem dX1_dissolve_18 : decode cX1_dissolve 18 = .ok (.aload_n 3, 1) := by decide +kernel
theorem dX1_dissolve_19 : decode cX1_dissolve 19 = .ok (.invokevirtual 121, 3) := by decide +kernel
theorem dX1_dissolve_22 : decode cX1_dissolve 22 = .ok (.istore 5, 2) := by decide +kernel
theorem dX1_dissolve_24 : decode cX1_dissolve 24 = .ok (.iconst 0, 1) := by decide +kernel
theorem dX1_dissolve_25 : decode cX1_dissolve 25 = .ok (.istore 6, 2) := by decide +kernel
theorem dX1_dissolve_27 : decode cX1_dissolve 27 = .ok (.iload 6, 2) := by decide +kernel
theorem dX1_dissolve_29 : decode cX1_dissolve 29 = .ok (.bipush 40, 2) := by decide +kernel
theorem dX1_dissolve_31 : decode cX1_dissolve 31 = .ok (.if_icmp .ge 27, 3) := by decide +kernel
theorem dX1_dissolve_34 : decode cX1_dissolve 34 = .ok (.iload 5, 2) := by decide +kernel
theorem dX1_dissolve_36 : decode cX1_dissolve 36 = .ok (.aload_n 0, 1) := by decide +kernel
theorem dX1_dissolve_37 : decode cX1_dissolve 37 = .ok (.getfield 21, 3) := by decide +kernel
theorem dX1_dissolve_40 : decode cX1_dissolve 40 = .ok (.iload 6, 2) := by decide +kernel
theorem dX1_dissolve_42 : decode cX1_dissolve 42 = .ok (.aaload, 1) := by decide +kernel
theorem dX1_dissolve_43 : decode cX1_dissolve 43 = .ok (.iload 4, 2) := by decide +kernel
theorem dX1_dissolve_45 : decode cX1_dissolve 45 = .ok (.aload_n 3, 1) := by decide +kernel
theorem dX1_dissolve_46 : decode cX1_dissolve 46 = .ok (.invokevirtual 121, 3) := by decide +kernel
theorem dX1_dissolve_49 : decode cX1_dissolve 49 = .ok (.iadd, 1) := by decide +kernel
theorem dX1_dissolve_50 : decode cX1_dissolve 50 = .ok (.istore 5, 2) := by decide +kernel
theorem dX1_dissolve_52 : decode cX1_dissolve 52 = .ok (.iinc 6 1, 3) := by decide +kernel
theorem dX1_dissolve_55 : decode cX1_dissolve 55 = .ok (.goto (-28), 3) := by decide +kernel
theorem dX1_dissolve_58 : decode cX1_dissolve 58 = .ok (.aload_n 3, 1) := by decide +kernel
theorem dX1_dissolve_59 : decode cX1_dissolve 59 = .ok (.invokevirtual 42, 3) := by decide +kernel
theorem dX1_dissolve_62 : decode cX1_dissolve 62 = .ok (.aload_n 0, 1) := by decide +kernel
theorem dX1_dissolve_63 : decode cX1_dissolve 63 = .ok (.iload_n 1, 1) := by decide +kernel
theorem dX1_dissolve_64 : decode cX1_dissolve 64 = .ok (.iconst 0, 1) := by decide +kernel
theorem dX1_dissolve_65 : decode cX1_dissolve 65 = .ok (.invokevirtual 125, 3) := by decide +kernel
theorem dX1_dissolve_68 : decode cX1_dissolve 68 = .ok (.aload_n 0, 1) := by decide +kernel
theorem dX1_dissolve_69 : decode cX1_dissolve 69 = .ok (.iload_n 2, 1) := by decide +kernel
theorem dX1_dissolve_70 : decode cX1_dissolve 70 = .ok (.iconst 1, 1) := by decide +kernel
theorem dX1_dissolve_71 : decode cX1_dissolve 71 = .ok (.invokevirtual 117, 3) := by decide +kernel
theorem dX1_dissolve_74 : decode cX1_dissolve 74 = .ok (.iload 5, 2) := by decide +kernel
theorem dX1_dissolve_76 : decode cX1_dissolve 76 = .ok (.ireturn, 1) := by decide +kernel
theorem dX1_addLetter_0 : decode cX1_addLetter 0 = .ok (.aload_n 0, 1) := by decide +kernel
theorem dX1_addLetter_1 : decode cX1_addLetter 1 = .ok (.getfield 12, 3) := by decide +kernel
theorem dX1_addLetter_4 : decode cX1_addLetter 4 = .ok (.iload_n 1, 1) := by decide +kernel
theorem dX1_addLetter_5 : decode cX1_addLetter 5 = .ok (.invokevirtual 52, 3) := by decide +kernel
theorem dX1_addLetter_8 : decode cX1_addLetter 8 = .ok (.aload_n 0, 1) := by decide +kernel
theorem dX1_addLetter_9 : decode cX1_addLetter 9 = .ok (.getfield 18, 3) := by decide +kernel
theorem dX1_addLetter_12 : decode cX1_addLetter 12 = .ok (.iload_n 1, 1) := by decide +kernel
theorem dX1_addLetter_13 : decode cX1_addLetter 13 = .ok (.invokevirtual 52, 3) := by decide +kernel
theorem dX1_addLetter_16 : decode cX1_addLetter 16 = .ok (.aload_n 0, 1) := by decide +kernel
theorem dX1_addLetter_17 : decode cX1_addLetter 17 = .ok (.bipush 6, 2) := by decide +kernel
theorem dX1_addLetter_19 : decode cX1_addLetter 19 = .ok (.iconst 1, 1) := by decide +kernel
theorem dX1_addLetter_20 : decode cX1_addLetter 20 = .ok (.invokevirtual 117, 3) := by decide +kernel
theorem dX1_addLetter_23 : decode cX1_addLetter 23 = .ok (.return_, 1) := by decide +kernel
theorem dX1_dropLetters_0 : decode cX1_dropLetters 0 = .ok (.iload_n 1, 1) := by decide +kernel
theorem dX1_dropLetters_1 : decode cX1_dropLetters 1 = .ok (.istore_n 2, 1) := by decide +kernel
theorem dX1_dropLetters_2 : decode cX1_dropLetters 2 = .ok (.iconst 0, 1) := by decide +kernel
theorem dX1_dropLetters_3 : decode cX1_dropLetters 3 = .ok (.istore_n 3, 1) := by decide +kernel
theorem dX1_dropLetters_4 : decode cX1_dropLetters 4 = .ok (.iload_n 3, 1) := by decide +kernel
theorem dX1_dropLetters_5 : decode cX1_dropLetters 5 = .ok (.ldc 128, 2) := by decide +kernel
theorem dX1_dropLetters_7 : decode cX1_dropLetters 7 = .ok (.if_icmp .ge 94, 3) := by decide +kernel
theorem dX1_dropLetters_10 : decode cX1_dropLetters 10 = .ok (.iload_n 2, 1) := by decide +kernel
theorem dX1_dropLetters_11 : decode cX1_dropLetters 11 = .ok (.ifCond .le 90, 3) := by decide +kernel
theorem dX1_dropLetters_14 : decode cX1_dropLetters 14 = .ok (.aload_n 0, 1) := by decide +kernel
theorem dX1_dropLetters_15 : decode cX1_dropLetters 15 = .ok (.getfield 12, 3) := by decide +kernel
theorem dX1_dropLetters_18 : decode cX1_dropLetters 18 = .ok (.invokevirtual 73, 3) := by decide +kernel
theorem dX1_dropLetters_21 : decode cX1_dropLetters 21 = .ok (.ifCond .le 80, 3) := by decide +kernel
theorem dX1_dropLetters_24 : decode cX1_dropLetters 24 = .ok (.aload_n 0, 1) := by decide +kernel
theorem dX1_dropLetters_25 : decode cX1_dropLetters 25 = .ok (.getfield 12, 3) := by decide +kernel
theorem dX1_dropLetters_28 : decode cX1_dropLetters 28 = .ok (.aload_n 0, 1) := by decide +kernel
theorem dX1_dropLetters_29 : decode cX1_dropLetters 29 = .ok (.getfield 12, 3) := by decide +kernel
theorem dX1_dropLetters_32 : decode cX1_dropLetters 32 = .ok (.invokevirtual 73, 3) := by decide +kernel
theorem dX1_dropLetters_35 : decode cX1_dropLetters 35 = .ok (.iconst 1, 1) := by decide +kernel
theorem dX1_dropLetters_36 : decode cX1_dropLetters 36 = .ok (.isub, 1) := by decide +kernel
theorem dX1_dropLetters_37 : decode cX1_dropLetters 37 = .ok (.invokevirtual 89, 3) := by decide +kernel
theorem dX1_dropLetters_40 : decode cX1_dropLetters 40 = .ok (.istore 4, 2) := by decide +kernel
theorem dX1_dropLetters_42 : decode cX1_dropLetters 42 = .ok (.aload_n 0, 1) := by decide +kernel
theorem dX1_dropLetters_43 : decode cX1_dropLetters 43 = .ok (.getfield 12, 3) := by decide +kernel
theorem dX1_dropLetters_46 : decode cX1_dropLetters 46 = .ok (.iconst 1, 1) := by decide +kernel
theorem dX1_dropLetters_47 : decode cX1_dropLetters 47 = .ok (.invokevirtual 129, 3) := by decide +kernel
theorem dX1_dropLetters_50 : decode cX1_dropLetters 50 = .ok (.aload_n 0, 1) := by decide +kernel
theorem dX1_dropLetters_51 : decode cX1_dropLetters 51 = .ok (.iload 4, 2) := by decide +kernel
theorem dX1_dropLetters_53 : decode cX1_dropLetters 53 = .ok (.invokevirtual 93, 3) := by decide +kernel
theorem dX1_dropLetters_56 : decode cX1_dropLetters 56 = .ok (.iload_n 2, 1) := by decide +kernel
theorem dX1_dropLetters_57 : decode cX1_dropLetters 57 = .ok (.if_icmp .gt 15, 3) := by decide +kernel
theorem dX1_dropLetters_60 : decode cX1_dropLetters 60 = .ok (.iload_n 2, 1) := by decide +kernel
theorem dX1_dropLetters_61 : decode cX1_dropLetters 61 = .ok (.aload_n 0, 1) := by decide +kernel
theorem dX1_dropLetters_62 : decode cX1_dropLetters 62 = .ok (.iload 4, 2) := by decide +kernel
theorem dX1_dropLetters_64 : decode cX1_dropLetters 64 = .ok (.invokevirtual 93, 3) := by decide +kernel
theorem dX1_dropLetters_67 : decode cX1_dropLetters 67 = .ok (.isub, 1) := by decide +kernel
theorem dX1_dropLetters_68 : decode cX1_dropLetters 68 = .ok (.istore_n 2, 1) := by decide +kernel
theorem dX1_dropLetters_69 : decode cX1_dropLetters 69 = .ok (.goto 26, 3) := by decide +kernel
theorem dX1_dropLetters_72 : decode cX1_dropLetters 72 = .ok (.aload_n 0, 1) := by decide +kernel
theorem dX1_dropLetters_73 : decode cX1_dropLetters 73 = .ok (.getfield 12, 3) := by decide +kernel
theorem dX1_dropLetters_76 : decode cX1_dropLetters 76 = .ok (.aload_n 0, 1) := by decide +kernel
theorem dX1_dropLetters_77 : decode cX1_dropLetters 77 = .ok (.iload 4, 2) := by decide +kernel
theorem dX1_dropLetters_79 : decode cX1_dropLetters 79 = .ok (.bipush 26, 2) := by decide +kernel
theorem dX1_dropLetters_81 : decode cX1_dropLetters 81 = .ok (.isub, 1) := by decide +kernel
theorem dX1_dropLetters_82 : decode cX1_dropLetters 82 = .ok (.invokevirtual 69, 3) := by decide +kernel
theorem dX1_dropLetters_85 : decode cX1_dropLetters 85 = .ok (.invokevirtual 132, 3) := by decide +kernel
theorem dX1_dropLetters_88 : decode cX1_dropLetters 88 = .ok (.aload_n 0, 1) := by decide +kernel
theorem dX1_dropLetters_89 : decode cX1_dropLetters 89 = .ok (.bipush 8, 2) := by decide +kernel
theorem dX1_dropLetters_91 : decode cX1_dropLetters 91 = .ok (.iconst 1, 1) := by decide +kernel
theorem dX1_dropLetters_92 : decode cX1_dropLetters 92 = .ok (.invokevirtual 117, 3) := by decide +kernel
theorem dX1_dropLetters_95 : decode cX1_dropLetters 95 = .ok (.iinc 3 1, 3) := by decide +kernel
theorem dX1_dropLetters_98 : decode cX1_dropLetters 98 = .ok (.goto (-94), 3) := by decide +kernel
theorem dX1_dropLetters_101 : decode cX1_dropLetters 101 = .ok (.aload_n 0, 1) := by decide +kernel
theorem dX1_dropLetters_102 : decode cX1_dropLetters 102 = .ok (.getfield 18, 3) := by decide +kernel
theorem dX1_dropLetters_105 : decode cX1_dropLetters 105 = .ok (.iload_n 1, 1) := by decide +kernel
theorem dX1_dropLetters_106 : decode cX1_dropLetters 106 = .ok (.invokevirtual 129, 3) := by decide +kernel
theorem dX1_dropLetters_109 : decode cX1_dropLetters 109 = .ok (.aload_n 0, 1) := by decide +kernel
theorem dX1_dropLetters_110 : decode cX1_dropLetters 110 = .ok (.bipush 7, 2) := by decide +kernel
theorem dX1_dropLetters_112 : decode cX1_dropLetters 112 = .ok (.iload_n 1, 1) := by decide +kernel
theorem dX1_dropLetters_113 : decode cX1_dropLetters 113 = .ok (.invokevirtual 117, 3) := by decide +kernel
theorem dX1_dropLetters_116 : decode cX1_dropLetters 116 = .ok (.return_, 1) := by decide +kernel
theorem dX2_init_0 : decode cX2_init 0 = .ok (.aload_n 0, 1) := by decide +kernel
theorem dX2_init_1 : decode cX2_init 1 = .ok (.invokespecial 1, 3) := by decide +kernel
theorem dX2_init_4 : decode cX2_init 4 = .ok (.aload_n 0, 1) := by decide +kernel
theorem dX2_init_5 : decode cX2_init 5 = .ok (.bipush 8, 2) := by decide +kernel
theorem dX2_init_7 : decode cX2_init 7 = .ok (.anewarray 9, 3) := by decide +kernel
theorem dX2_init_10 : decode cX2_init 10 = .ok (.putfield 11, 3) := by decide +kernel
theorem dX2_init_13 : decode cX2_init 13 = .ok (.aload_n 0, 1) := by decide +kernel
theorem dX2_init_14 : decode cX2_init 14 = .ok (.iconst 2, 1) := by decide +kernel
theorem dX2_init_15 : decode cX2_init 15 = .ok (.anewarray 9, 3) := by decide +kernel
theorem dX2_init_18 : decode cX2_init 18 = .ok (.putfield 15, 3) := by decide +kernel
theorem dX2_init_21 : decode cX2_init 21 = .ok (.aload_n 0, 1) := by decide +kernel
theorem dX2_init_22 : decode cX2_init 22 = .ok (.iconst 2, 1) := by decide +kernel
theorem dX2_init_23 : decode cX2_init 23 = .ok (.newarray .boolean, 2) := by decide +kernel
theorem dX2_init_25 : decode cX2_init 25 = .ok (.putfield 18, 3) := by decide +kernel
theorem dX2_init_28 : decode cX2_init 28 = .ok (.iconst 0, 1) := by decide +kernel
theorem dX2_init_29 : decode cX2_init 29 = .ok (.istore_n 1, 1) := by decide +kernel
theorem dX2_init_30 : decode cX2_init 30 = .ok (.iload_n 1, 1) := by decide +kernel
theorem dX2_init_31 : decode cX2_init 31 = .ok (.bipush 8, 2) := by decide +kernel
theorem dX2_init_33 : decode cX2_init 33 = .ok (.if_icmp .ge 22, 3) := by decide +kernel
theorem dX2_init_36 : decode cX2_init 36 = .ok (.aload_n 0, 1) := by decide +kernel
theorem dX2_init_37 : decode cX2_init 37 = .ok (.getfield 11, 3) := by decide +kernel
theorem dX2_init_40 : decode cX2_init 40 = .ok (.iload_n 1, 1) := by decide +kernel
theorem dX2_init_41 : decode cX2_init 41 = .ok (.new 9, 3) := by decide +kernel
theorem dX2_init_44 : decode cX2_init 44 = .ok (.dup, 1) := by decide +kernel
theorem dX2_init_45 : decode cX2_init 45 = .ok (.invokespecial 22, 3) := by decide +kernel
theorem dX2_init_48 : decode cX2_init 48 = .ok (.aastore, 1) := by decide +kernel
theorem dX2_init_49 : decode cX2_init 49 = .ok (.iinc 1 1, 3) := by decide +kernel
theorem dX2_init_52 : decode cX2_init 52 = .ok (.goto (-22), 3) := by decide +kernel
theorem dX2_init_55 : decode cX2_init 55 = .ok (.iconst 0, 1) := by decide +kernel
theorem dX2_init_56 : decode cX2_init 56 = .ok (.istore_n 1, 1) := by decide +kernel
theorem dX2_init_57 : decode cX2_init 57 = .ok (.iload_n 1, 1) := by decide +kernel
theorem dX2_init_58 : decode cX2_init 58 = .ok (.iconst 2, 1) := by decide +kernel
theorem dX2_init_59 : decode cX2_init 59 = .ok (.if_icmp .ge 22, 3) := by decide +kernel
theorem dX2_init_62 : decode cX2_init 62 = .ok (.aload_n 0, 1) := by decide +kernel
theorem dX2_init_63 : decode cX2_init 63 = .ok (.getfield 15, 3) := by decide +kernel
theorem dX2_init_66 : decode cX2_init 66 = .ok (.iload_n 1, 1) := by decide +kernel
theorem dX2_init_67 : decode cX2_init 67 = .ok (.new 9, 3) := by decide +kernel
theorem dX2_init_70 : decode cX2_init 70 = .ok (.dup, 1) := by decide +kernel
theorem dX2_init_71 : decode cX2_init 71 = .ok (.invokespecial 22, 3) := by decide +kernel
theorem dX2_init_74 : decode cX2_init 74 = .ok (.aastore, 1) := by decide +kernel
theorem dX2_init_75 : decode cX2_init 75 = .ok (.iinc 1 1, 3) := by decide +kernel
theorem dX2_init_78 : decode cX2_init 78 = .ok (.goto (-21), 3) := by decide +kernel
theorem dX2_init_81 : decode cX2_init 81 = .ok (.return_, 1) := by decide +kernel
theorem dX2_manyPast_0 : decode cX2_manyPast 0 = .ok (.aload_n 0, 1) := by decide +kernel
theorem dX2_manyPast_1 : decode cX2_manyPast 1 = .ok (.getfield 23, 3) := by decide +kernel
theorem dX2_manyPast_4 : decode cX2_manyPast 4 = .ok (.ireturn, 1) := by decide +kernel
theorem dX2_remember_0 : decode cX2_remember 0 = .ok (.aload_n 0, 1) := by decide +kernel
theorem dX2_remember_1 : decode cX2_remember 1 = .ok (.getfield 11, 3) := by decide +kernel
theorem dX2_remember_4 : decode cX2_remember 4 = .ok (.aload_n 0, 1) := by decide +kernel
theorem dX2_remember_5 : decode cX2_remember 5 = .ok (.getfield 27, 3) := by decide +kernel
theorem dX2_remember_8 : decode cX2_remember 8 = .ok (.aaload, 1) := by decide +kernel
theorem dX2_remember_9 : decode cX2_remember 9 = .ok (.aload_n 1, 1) := by decide +kernel
theorem dX2_remember_10 : decode cX2_remember 10 = .ok (.invokevirtual 30, 3) := by decide +kernel
theorem dX2_remember_13 : decode cX2_remember 13 = .ok (.aload_n 0, 1) := by decide +kernel
theorem dX2_remember_14 : decode cX2_remember 14 = .ok (.aload_n 0, 1) := by decide +kernel
theorem dX2_remember_15 : decode cX2_remember 15 = .ok (.getfield 27, 3) := by decide +kernel
theorem dX2_remember_18 : decode cX2_remember 18 = .ok (.iconst 1, 1) := by decide +kernel
theorem dX2_remember_19 : decode cX2_remember 19 = .ok (.iadd, 1) := by decide +kernel
theorem dX2_remember_20 : decode cX2_remember 20 = .ok (.bipush 8, 2) := by decide +kernel
theorem dX2_remember_22 : decode cX2_remember 22 = .ok (.if_icmp .ge 12, 3) := by decide +kernel
theorem dX2_remember_25 : decode cX2_remember 25 = .ok (.aload_n 0, 1) := by decide +kernel
theorem dX2_remember_26 : decode cX2_remember 26 = .ok (.getfield 27, 3) := by decide +kernel
theorem dX2_remember_29 : decode cX2_remember 29 = .ok (.iconst 1, 1) := by decide +kernel
theorem dX2_remember_30 : decode cX2_remember 30 = .ok (.iadd, 1) := by decide +kernel
theorem dX2_remember_31 : decode cX2_remember 31 = .ok (.goto 4, 3) := by decide +kernel
theorem dX2_remember_34 : decode cX2_remember 34 = .ok (.iconst 0, 1) := by decide +kernel
theorem dX2_remember_35 : decode cX2_remember 35 = .ok (.putfield 27, 3) := by decide +kernel
theorem dX2_remember_38 : decode cX2_remember 38 = .ok (.aload_n 0, 1) := by decide +kernel
theorem dX2_remember_39 : decode cX2_remember 39 = .ok (.aload_n 0, 1) := by decide +kernel
theorem dX2_remember_40 : decode cX2_remember 40 = .ok (.getfield 23, 3) := by decide +kernel
theorem dX2_remember_43 : decode cX2_remember 43 = .ok (.iconst 1, 1) := by decide +kernel
theorem dX2_remember_44 : decode cX2_remember 44 = .ok (.iadd, 1) := by decide +kernel
theorem dX2_remember_45 : decode cX2_remember 45 = .ok (.bipush 8, 2) := by decide +kernel
theorem dX2_remember_47 : decode cX2_remember 47 = .ok (.invokestatic 34, 3) := by decide +kernel
theorem dX2_remember_50 : decode cX2_remember 50 = .ok (.putfield 23, 3) := by decide +kernel
theorem dX2_remember_53 : decode cX2_remember 53 = .ok (.return_, 1) := by decide +kernel
theorem dX2_goBack_0 : decode cX2_goBack 0 = .ok (.aload_n 0, 1) := by decide +kernel
theorem dX2_goBack_1 : decode cX2_goBack 1 = .ok (.getfield 23, 3) := by decide +kernel
theorem dX2_goBack_4 : decode cX2_goBack 4 = .ok (.ifCond .le 48, 3) := by decide +kernel
theorem dX2_goBack_7 : decode cX2_goBack 7 = .ok (.aload_n 0, 1) := by decide +kernel
theorem dX2_goBack_8 : decode cX2_goBack 8 = .ok (.aload_n 0, 1) := by decide +kernel
theorem dX2_goBack_9 : decode cX2_goBack 9 = .ok (.getfield 27, 3) := by decide +kernel
theorem dX2_goBack_12 : decode cX2_goBack 12 = .ok (.ifCond .le 12, 3) := by decide +kernel
theorem dX2_goBack_15 : decode cX2_goBack 15 = .ok (.aload_n 0, 1) := by decide +kernel
theorem dX2_goBack_16 : decode cX2_goBack 16 = .ok (.getfield 27, 3) := by decide +kernel
theorem dX2_goBack_19 : decode cX2_goBack 19 = .ok (.iconst 1, 1) := by decide +kernel
theorem dX2_goBack_20 : decode cX2_goBack 20 = .ok (.isub, 1) := by decide +kernel
theorem dX2_goBack_21 : decode cX2_goBack 21 = .ok (.goto 5, 3) := by decide +kernel
theorem dX2_goBack_24 : decode cX2_goBack 24 = .ok (.bipush 7, 2) := by decide +kernel
theorem dX2_goBack_26 : decode cX2_goBack 26 = .ok (.putfield 27, 3) := by decide +kernel
theorem dX2_goBack_29 : decode cX2_goBack 29 = .ok (.aload_n 0, 1) := by decide +kernel
theorem dX2_goBack_30 : decode cX2_goBack 30 = .ok (.dup, 1) := by decide +kernel
theorem dX2_goBack_31 : decode cX2_goBack 31 = .ok (.getfield 23, 3) := by decide +kernel
theorem dX2_goBack_34 : decode cX2_goBack 34 = .ok (.iconst 1, 1) := by decide +kernel
theorem dX2_goBack_35 : decode cX2_goBack 35 = .ok (.isub, 1) := by decide +kernel
theorem dX2_goBack_36 : decode cX2_goBack 36 = .ok (.putfield 23, 3) := by decide +kernel
theorem dX2_goBack_39 : decode cX2_goBack 39 = .ok (.aload_n 1, 1) := by decide +kernel
theorem dX2_goBack_40 : decode cX2_goBack 40 = .ok (.aload_n 0, 1) := by decide +kernel
theorem dX2_goBack_41 : decode cX2_goBack 41 = .ok (.getfield 11, 3) := by decide +kernel
theorem dX2_goBack_44 : decode cX2_goBack 44 = .ok (.aload_n 0, 1) := by decide +kernel
theorem dX2_goBack_45 : decode cX2_goBack 45 = .ok (.getfield 27, 3) := by decide +kernel
theorem dX2_goBack_48 : decode cX2_goBack 48 = .ok (.aaload, 1) := by decide +kernel
theorem dX2_goBack_49 : decode cX2_goBack 49 = .ok (.invokevirtual 30, 3) := by decide +kernel
theorem dX2_goBack_52 : decode cX2_goBack 52 = .ok (.return_, 1) := by decide +kernel
theorem dX2_forgetPast_0 : decode cX2_forgetPast 0 = .ok (.aload_n 0, 1) := by decide +kernel
theorem dX2_forgetPast_1 : decode cX2_forgetPast 1 = .ok (.iconst 0, 1) := by decide +kernel
theorem dX2_forgetPast_2 : decode cX2_forgetPast 2 = .ok (.putfield 23, 3) := by decide +kernel
theorem dX2_forgetPast_5 : decode cX2_forgetPast 5 = .ok (.return_, 1) := by decide +kernel
theorem dX2_keep_0 : decode cX2_keep 0 = .ok (.iload_n 1, 1) := by decide +kernel
theorem dX2_keep_1 : decode cX2_keep 1 = .ok (.ifCond .lt 25, 3) := by decide +kernel
theorem dX2_keep_4 : decode cX2_keep 4 = .ok (.iload_n 1, 1) := by decide +kernel
theorem dX2_keep_5 : decode cX2_keep 5 = .ok (.iconst 2, 1) := by decide +kernel
theorem dX2_keep_6 : decode cX2_keep 6 = .ok (.if_icmp .ge 20, 3) := by decide +kernel
theorem dX2_keep_9 : decode cX2_keep 9 = .ok (.aload_n 0, 1) := by decide +kernel
theorem dX2_keep_10 : decode cX2_keep 10 = .ok (.getfield 15, 3) := by decide +kernel
theorem dX2_keep_13 : decode cX2_keep 13 = .ok (.iload_n 1, 1) := by decide +kernel
theorem dX2_keep_14 : decode cX2_keep 14 = .ok (.aaload, 1) := by decide +kernel
theorem dX2_keep_15 : decode cX2_keep 15 = .ok (.aload_n 2, 1) := by decide +kernel
theorem dX2_keep_16 : decode cX2_keep 16 = .ok (.invokevirtual 30, 3) := by decide +kernel
theorem dX2_keep_19 : decode cX2_keep 19 = .ok (.aload_n 0, 1) := by decide +kernel
theorem dX2_keep_20 : decode cX2_keep 20 = .ok (.getfield 18, 3) := by decide +kernel
theorem dX2_keep_23 : decode cX2_keep 23 = .ok (.iload_n 1, 1) := by decide +kernel
theorem dX2_keep_24 : decode cX2_keep 24 = .ok (.iconst 1, 1) := by decide +kernel
theorem dX2_keep_25 : decode cX2_keep 25 = .ok (.bastore, 1) := by decide +kernel
theorem dX2_keep_26 : decode cX2_keep 26 = .ok (.return_, 1) := by decide +kernel
theorem dX2_hasKept_0 : decode cX2_hasKept 0 = .ok (.iload_n 1, 1) := by decide +kernel
theorem dX2_hasKept_1 : decode cX2_hasKept 1 = .ok (.ifCond .lt 21, 3) := by decide +kernel
theorem dX2_hasKept_4 : decode cX2_hasKept 4 = .ok (.iload_n 1, 1) := by decide +kernel
theorem dX2_hasKept_5 : decode cX2_hasKept 5 = .ok (.iconst 2, 1) := by decide +kernel
theorem dX2_hasKept_6 : decode cX2_hasKept 6 = .ok (.if_icmp .ge 16, 3) := by decide +kernel
theorem dX2_hasKept_9 : decode cX2_hasKept 9 = .ok (.aload_n 0, 1) := by decide +kernel
theorem dX2_hasKept_10 : decode cX2_hasKept 10 = .ok (.getfield 18, 3) := by decide +kernel
theorem dX2_hasKept_13 : decode cX2_hasKept 13 = .ok (.iload_n 1, 1) := by decide +kernel
theorem dX2_hasKept_14 : decode cX2_hasKept 14 = .ok (.baload, 1) := by decide +kernel
theorem dX2_hasKept_15 : decode cX2_hasKept 15 = .ok (.ifCond .eq 7, 3) := by decide +kernel
theorem dX2_hasKept_18 : decode cX2_hasKept 18 = .ok (.iconst 1, 1) := by decide +kernel
theorem dX2_hasKept_19 : decode cX2_hasKept 19 = .ok (.goto 4, 3) := by decide +kernel
theorem dX2_hasKept_22 : decode cX2_hasKept 22 = .ok (.iconst 0, 1) := by decide +kernel
theorem dX2_hasKept_23 : decode cX2_hasKept 23 = .ok (.ireturn, 1) := by decide +kernel
theorem dX2_bringBack_0 : decode cX2_bringBack 0 = .ok (.aload_n 0, 1) := by decide +kernel
theorem dX2_bringBack_1 : decode cX2_bringBack 1 = .ok (.iload_n 1, 1) := by decide +kernel
theorem dX2_bringBack_2 : decode cX2_bringBack 2 = .ok (.invokevirtual 40, 3) := by decide +kernel
theorem dX2_bringBack_5 : decode cX2_bringBack 5 = .ok (.ifCond .eq 13, 3) := by decide +kernel
theorem dX2_bringBack_8 : decode cX2_bringBack 8 = .ok (.aload_n 2, 1) := by decide +kernel
theorem dX2_bringBack_9 : decode cX2_bringBack 9 = .ok (.aload_n 0, 1) := by decide +kernel
theorem dX2_bringBack_10 : decode cX2_bringBack 10 = .ok (.getfield 15, 3) := by decide +kernel
theorem dX2_bringBack_13 : decode cX2_bringBack 13 = .ok (.iload_n 1, 1) := by decide +kernel
theorem dX2_bringBack_14 : decode cX2_bringBack 14 = .ok (.aaload, 1) := by decide +kernel
theorem dX2_bringBack_15 : decode cX2_bringBack 15 = .ok (.invokevirtual 30, 3) := by decide +kernel
theorem dX2_bringBack_18 : decode cX2_bringBack 18 = .ok (.return_, 1) := by decide +kernel
theorem dX2_forgetSaved_0 : decode cX2_forgetSaved 0 = .ok (.iconst 0, 1) := by decide +kernel
theorem dX2_forgetSaved_1 : decode cX2_forgetSaved 1 = .ok (.istore_n 1, 1) := by decide +kernel
theorem dX2_forgetSaved_2 : decode cX2_forgetSaved 2 = .ok (.iload_n 1, 1) := by decide +kernel
theorem dX2_forgetSaved_3 : decode cX2_forgetSaved 3 = .ok (.iconst 2, 1) := by decide +kernel
theorem dX2_forgetSaved_4 : decode cX2_forgetSaved 4 = .ok (.if_icmp .ge 16, 3) := by decide +kernel
theorem dX2_forgetSaved_7 : decode cX2_forgetSaved 7 = .ok (.aload_n 0, 1) := by decide +kernel
theorem dX2_forgetSaved_8 : decode cX2_forgetSaved 8 = .ok (.getfield 18, 3) := by decide +kernel
theorem dX2_forgetSaved_11 : decode cX2_forgetSaved 11 = .ok (.iload_n 1, 1) := by decide +kernel
theorem dX2_forgetSaved_12 : decode cX2_forgetSaved 12 = .ok (.iconst 0, 1) := by decide +kernel
theorem dX2_forgetSaved_13 : decode cX2_forgetSaved 13 = .ok (.bastore, 1) := by decide +kernel
theorem dX2_forgetSaved_14 : decode cX2_forgetSaved 14 = .ok (.iinc 1 1, 3) := by decide +kernel
theorem dX2_forgetSaved_17 : decode cX2_forgetSaved 17 = .ok (.goto (-15), 3) := by decide +kernel
theorem dX2_forgetSaved_20 : decode cX2_forgetSaved 20 = .ok (.return_, 1) := by decide +kernel
theorem dX3_init_0 : decode cX3_init 0 = .ok (.aload_n 0, 1) := by decide +kernel
theorem dX3_init_1 : decode cX3_init 1 = .ok (.invokespecial 3, 3) := by decide +kernel
theorem dX3_init_4 : decode cX3_init 4 = .ok (.aload_n 0, 1) := by decide +kernel
theorem dX3_init_5 : decode cX3_init 5 = .ok (.sipush 4356, 3) := by decide +kernel
theorem dX3_init_8 : decode cX3_init 8 = .ok (.newarray .int, 2) := by decide +kernel
theorem dX3_init_10 : decode cX3_init 10 = .ok (.putfield 11, 3) := by decide +kernel
theorem dX3_init_13 : decode cX3_init 13 = .ok (.aload_n 0, 1) := by decide +kernel
theorem dX3_init_14 : decode cX3_init 14 = .ok (.sipush 4356, 3) := by decide +kernel
theorem dX3_init_17 : decode cX3_init 17 = .ok (.newarray .int, 2) := by decide +kernel
theorem dX3_init_19 : decode cX3_init 19 = .ok (.putfield 15, 3) := by decide +kernel
theorem dX3_init_22 : decode cX3_init 22 = .ok (.aload_n 0, 1) := by decide +kernel
theorem dX3_init_23 : decode cX3_init 23 = .ok (.sipush 4356, 3) := by decide +kernel
theorem dX3_init_26 : decode cX3_init 26 = .ok (.newarray .int, 2) := by decide +kernel
theorem dX3_init_28 : decode cX3_init 28 = .ok (.putfield 18, 3) := by decide +kernel
theorem dX3_init_31 : decode cX3_init 31 = .ok (.aload_n 0, 1) := by decide +kernel
theorem dX3_init_32 : decode cX3_init 32 = .ok (.sipush 4356, 3) := by decide +kernel
theorem dX3_init_35 : decode cX3_init 35 = .ok (.newarray .int, 2) := by decide +kernel
theorem dX3_init_37 : decode cX3_init 37 = .ok (.putfield 21, 3) := by decide +kernel
theorem dX3_init_40 : decode cX3_init 40 = .ok (.aload_n 0, 1) := by decide +kernel
theorem dX3_init_41 : decode cX3_init 41 = .ok (.iconst (-1), 1) := by decide +kernel
theorem dX3_init_42 : decode cX3_init 42 = .ok (.putfield 24, 3) := by decide +kernel
theorem dX3_init_45 : decode cX3_init 45 = .ok (.iconst 0, 1) := by decide +kernel
theorem dX3_init_46 : decode cX3_init 46 = .ok (.istore_n 1, 1) := by decide +kernel
theorem dX3_init_47 : decode cX3_init 47 = .ok (.iload_n 1, 1) := by decide +kernel
theorem dX3_init_48 : decode cX3_init 48 = .ok (.sipush 4356, 3) := by decide +kernel
theorem dX3_init_51 : decode cX3_init 51 = .ok (.if_icmp .ge 16, 3) := by decide +kernel
theorem dX3_init_54 : decode cX3_init 54 = .ok (.aload_n 0, 1) := by decide +kernel
theorem dX3_init_55 : decode cX3_init 55 = .ok (.getfield 18, 3) := by decide +kernel
theorem dX3_init_58 : decode cX3_init 58 = .ok (.iload_n 1, 1) := by decide +kernel
theorem dX3_init_59 : decode cX3_init 59 = .ok (.iconst (-1), 1) := by decide +kernel
theorem dX3_init_60 : decode cX3_init 60 = .ok (.iastore, 1) := by decide +kernel
theorem dX3_init_61 : decode cX3_init 61 = .ok (.iinc 1 1, 3) := by decide +kernel
theorem dX3_init_64 : decode cX3_init 64 = .ok (.goto (-17), 3) := by decide +kernel
theorem dX3_init_67 : decode cX3_init 67 = .ok (.return_, 1) := by decide +kernel
theorem dX3_readFrom_0 : decode cX3_readFrom 0 = .ok (.aload_n 0, 1) := by decide +kernel
theorem dX3_readFrom_1 : decode cX3_readFrom 1 = .ok (.invokevirtual 28, 3) := by decide +kernel
theorem dX3_readFrom_4 : decode cX3_readFrom 4 = .ok (.aload_n 0, 1) := by decide +kernel
theorem dX3_readFrom_5 : decode cX3_readFrom 5 = .ok (.aload_n 1, 1) := by decide +kernel
theorem dX3_readFrom_6 : decode cX3_readFrom 6 = .ok (.putfield 31, 3) := by decide +kernel
theorem dX3_readFrom_9 : decode cX3_readFrom 9 = .ok (.aload_n 0, 1) := by decide +kernel
theorem dX3_readFrom_10 : decode cX3_readFrom 10 = .ok (.aload_n 1, 1) := by decide +kernel
theorem dX3_readFrom_11 : decode cX3_readFrom 11 = .ok (.invokevirtual 35, 3) := by decide +kernel
theorem dX3_readFrom_14 : decode cX3_readFrom 14 = .ok (.iconst (-1), 1) := by decide +kernel
theorem dX3_readFrom_15 : decode cX3_readFrom 15 = .ok (.if_icmp .eq 7, 3) := by decide +kernel
theorem dX3_readFrom_18 : decode cX3_readFrom 18 = .ok (.iconst 1, 1) := by decide +kernel
theorem dX3_readFrom_19 : decode cX3_readFrom 19 = .ok (.goto 4, 3) := by decide +kernel
theorem dX3_readFrom_22 : decode cX3_readFrom 22 = .ok (.iconst 0, 1) := by decide +kernel
theorem dX3_readFrom_23 : decode cX3_readFrom 23 = .ok (.putfield 41, 3) := by decide +kernel
theorem dX3_readFrom_26 : decode cX3_readFrom 26 = .ok (.iconst 0, 1) := by decide +kernel
theorem dX3_readFrom_27 : decode cX3_readFrom 27 = .ok (.istore_n 2, 1) := by decide +kernel
theorem dX3_readFrom_28 : decode cX3_readFrom 28 = .ok (.iload_n 2, 1) := by decide +kernel
theorem dX3_readFrom_29 : decode cX3_readFrom 29 = .ok (.bipush 40, 2) := by decide +kernel
theorem dX3_readFrom_31 : decode cX3_readFrom 31 = .ok (.if_icmp .ge 31, 3) := by decide +kernel
theorem dX3_readFrom_34 : decode cX3_readFrom 34 = .ok (.aload_n 1, 1) := by decide +kernel
theorem dX3_readFrom_35 : decode cX3_readFrom 35 = .ok (.iload_n 2, 1) := by decide +kernel
theorem dX3_readFrom_36 : decode cX3_readFrom 36 = .ok (.invokevirtual 45, 3) := by decide +kernel
theorem dX3_readFrom_39 : decode cX3_readFrom 39 = .ok (.invokevirtual 49, 3) := by decide +kernel
theorem dX3_readFrom_42 : decode cX3_readFrom 42 = .ok (.iconst 2, 1) := by decide +kernel
theorem dX3_readFrom_43 : decode cX3_readFrom 43 = .ok (.if_icmp .ne 13, 3) := by decide +kernel
theorem dX3_readFrom_46 : decode cX3_readFrom 46 = .ok (.aload_n 0, 1) := by decide +kernel
theorem dX3_readFrom_47 : decode cX3_readFrom 47 = .ok (.iload_n 2, 1) := by decide +kernel
theorem dX3_readFrom_48 : decode cX3_readFrom 48 = .ok (.aload_n 1, 1) := by decide +kernel
theorem dX3_readFrom_49 : decode cX3_readFrom 49 = .ok (.iload_n 2, 1) := by decide +kernel
theorem dX3_readFrom_50 : decode cX3_readFrom 50 = .ok (.invokevirtual 45, 3) := by decide +kernel
theorem dX3_readFrom_53 : decode cX3_readFrom 53 = .ok (.invokevirtual 54, 3) := by decide +kernel
theorem dX3_readFrom_56 : decode cX3_readFrom 56 = .ok (.iinc 2 1, 3) := by decide +kernel
theorem dX3_readFrom_59 : decode cX3_readFrom 59 = .ok (.goto (-31), 3) := by decide +kernel
theorem dX3_readFrom_62 : decode cX3_readFrom 62 = .ok (.aload_n 0, 1) := by decide +kernel
theorem dX3_readFrom_63 : decode cX3_readFrom 63 = .ok (.aload_n 1, 1) := by decide +kernel
theorem dX3_readFrom_64 : decode cX3_readFrom 64 = .ok (.invokevirtual 58, 3) := by decide +kernel
theorem dX3_readFrom_67 : decode cX3_readFrom 67 = .ok (.iconst 0, 1) := by decide +kernel
theorem dX3_readFrom_68 : decode cX3_readFrom 68 = .ok (.invokevirtual 62, 3) := by decide +kernel
theorem dX3_readFrom_71 : decode cX3_readFrom 71 = .ok (.iconst 0, 1) := by decide +kernel
theorem dX3_readFrom_72 : decode cX3_readFrom 72 = .ok (.istore_n 2, 1) := by decide +kernel
theorem dX3_readFrom_73 : decode cX3_readFrom 73 = .ok (.iload_n 2, 1) := by decide +kernel
theorem dX3_readFrom_74 : decode cX3_readFrom 74 = .ok (.bipush 40, 2) := by decide +kernel
theorem dX3_readFrom_76 : decode cX3_readFrom 76 = .ok (.if_icmp .ge 37, 3) := by decide +kernel
theorem dX3_readFrom_79 : decode cX3_readFrom 79 = .ok (.aload_n 1, 1) := by decide +kernel
theorem dX3_readFrom_80 : decode cX3_readFrom 80 = .ok (.iload_n 2, 1) := by decide +kernel
theorem dX3_readFrom_81 : decode cX3_readFrom 81 = .ok (.invokevirtual 45, 3) := by decide +kernel
theorem dX3_readFrom_84 : decode cX3_readFrom 84 = .ok (.invokevirtual 49, 3) := by decide +kernel
theorem dX3_readFrom_87 : decode cX3_readFrom 87 = .ok (.iconst 2, 1) := by decide +kernel
theorem dX3_readFrom_88 : decode cX3_readFrom 88 = .ok (.if_icmp .le 19, 3) := by decide +kernel
theorem dX3_readFrom_91 : decode cX3_readFrom 91 = .ok (.aload_n 0, 1) := by decide +kernel
theorem dX3_readFrom_92 : decode cX3_readFrom 92 = .ok (.aload_n 1, 1) := by decide +kernel
theorem dX3_readFrom_93 : decode cX3_readFrom 93 = .ok (.iload_n 2, 1) := by decide +kernel
theorem dX3_readFrom_94 : decode cX3_readFrom 94 = .ok (.invokevirtual 45, 3) := by decide +kernel
theorem dX3_readFrom_97 : decode cX3_readFrom 97 = .ok (.iload_n 2, 1) := by decide +kernel
theorem dX3_readFrom_98 : decode cX3_readFrom 98 = .ok (.iconst 1, 1) := by decide +kernel
theorem dX3_readFrom_99 : decode cX3_readFrom 99 = .ok (.iadd, 1) := by decide +kernel
theorem dX3_readFrom_100 : decode cX3_readFrom 100 = .ok (.sipush 400, 3) := by decide +kernel
theorem dX3_readFrom_103 : decode cX3_readFrom 103 = .ok (.imul, 1) := by decide +kernel
theorem dX3_readFrom_104 : decode cX3_readFrom 104 = .ok (.invokevirtual 62, 3) := by decide +kernel
theorem dX3_readFrom_107 : decode cX3_readFrom 107 = .ok (.iinc 2 1, 3) := by decide +kernel
theorem dX3_readFrom_110 : decode cX3_readFrom 110 = .ok (.goto (-37), 3) := by decide +kernel
theorem dX3_readFrom_113 : decode cX3_readFrom 113 = .ok (.aload_n 0, 1) := by decide +kernel
theorem dX3_readFrom_114 : decode cX3_readFrom 114 = .ok (.invokevirtual 66, 3) := by decide +kernel
theorem dX3_readFrom_117 : decode cX3_readFrom 117 = .ok (.return_, 1) := by decide +kernel
theorem dX3_pairOf_0 : decode cX3_pairOf 0 = .ok (.iload_n 1, 1) := by decide +kernel
theorem dX3_pairOf_1 : decode cX3_pairOf 1 = .ok (.invokestatic 69, 3) := by decide +kernel
theorem dX3_pairOf_4 : decode cX3_pairOf 4 = .ok (.ifCond .eq 19, 3) := by decide +kernel
theorem dX3_pairOf_7 : decode cX3_pairOf 7 = .ok (.iload_n 2, 1) := by decide +kernel
theorem dX3_pairOf_8 : decode cX3_pairOf 8 = .ok (.invokestatic 69, 3) := by decide +kernel
theorem dX3_pairOf_11 : decode cX3_pairOf 11 = .ok (.ifCond .eq 12, 3) := by decide +kernel
theorem dX3_pairOf_14 : decode cX3_pairOf 14 = .ok (.iload_n 1, 1) := by decide +kernel
theorem dX3_pairOf_15 : decode cX3_pairOf 15 = .ok (.bipush 66, 2) := by decide +kernel
theorem dX3_pairOf_17 : decode cX3_pairOf 17 = .ok (.imul, 1) := by decide +kernel
theorem dX3_pairOf_18 : decode cX3_pairOf 18 = .ok (.iload_n 2, 1) := by decide +kernel
theorem dX3_pairOf_19 : decode cX3_pairOf 19 = .ok (.iadd, 1) := by decide +kernel
theorem dX3_pairOf_20 : decode cX3_pairOf 20 = .ok (.goto 4, 3) := by decide +kernel
theorem dX3_pairOf_23 : decode cX3_pairOf 23 = .ok (.iconst (-1), 1) := by decide +kernel
theorem dX3_pairOf_24 : decode cX3_pairOf 24 = .ok (.ireturn, 1) := by decide +kernel
theorem dX3_firstOf_0 : decode cX3_firstOf 0 = .ok (.iload_n 1, 1) := by decide +kernel
theorem dX3_firstOf_1 : decode cX3_firstOf 1 = .ok (.bipush 66, 2) := by decide +kernel
theorem dX3_firstOf_3 : decode cX3_firstOf 3 = .ok (.idiv, 1) := by decide +kernel
theorem dX3_firstOf_4 : decode cX3_firstOf 4 = .ok (.ireturn, 1) := by decide +kernel
theorem dX3_secondOf_0 : decode cX3_secondOf 0 = .ok (.iload_n 1, 1) := by decide +kernel
theorem dX3_secondOf_1 : decode cX3_secondOf 1 = .ok (.bipush 66, 2) := by decide +kernel
theorem dX3_secondOf_3 : decode cX3_secondOf 3 = .ok (.irem, 1) := by decide +kernel
theorem dX3_secondOf_4 : decode cX3_secondOf 4 = .ok (.ireturn, 1) := by decide +kernel
theorem dX3_countOf_0 : decode cX3_countOf 0 = .ok (.iload_n 1, 1) := by decide +kernel
theorem dX3_countOf_1 : decode cX3_countOf 1 = .ok (.ifCond .lt 19, 3) := by decide +kernel
theorem dX3_countOf_4 : decode cX3_countOf 4 = .ok (.iload_n 1, 1) := by decide +kernel
theorem dX3_countOf_5 : decode cX3_countOf 5 = .ok (.sipush 4356, 3) := by decide +kernel
theorem dX3_countOf_8 : decode cX3_countOf 8 = .ok (.if_icmp .ge 12, 3) := by decide +kernel
theorem dX3_countOf_11 : decode cX3_countOf 11 = .ok (.aload_n 0, 1) := by decide +kernel
theorem dX3_countOf_12 : decode cX3_countOf 12 = .ok (.getfield 11, 3) := by decide +kernel
theorem dX3_countOf_15 : decode cX3_countOf 15 = .ok (.iload_n 1, 1) := by decide +kernel
theorem dX3_countOf_16 : decode cX3_countOf 16 = .ok (.iaload, 1) := by decide +kernel
theorem dX3_countOf_17 : decode cX3_countOf 17 = .ok (.goto 4, 3) := by decide +kernel
theorem dX3_countOf_20 : decode cX3_countOf 20 = .ok (.iconst 0, 1) := by decide +kernel
theorem dX3_countOf_21 : decode cX3_countOf 21 = .ok (.ireturn, 1) := by decide +kernel
theorem dX3_keptOf_0 : decode cX3_keptOf 0 = .ok (.iload_n 1, 1) := by decide +kernel
theorem dX3_keptOf_1 : decode cX3_keptOf 1 = .ok (.ifCond .lt 19, 3) := by decide +kernel
theorem dX3_keptOf_4 : decode cX3_keptOf 4 = .ok (.iload_n 1, 1) := by decide +kernel
theorem dX3_keptOf_5 : decode cX3_keptOf 5 = .ok (.sipush 4356, 3) := by decide +kernel
theorem dX3_keptOf_8 : decode cX3_keptOf 8 = .ok (.if_icmp .ge 12, 3) := by decide +kernel
theorem dX3_keptOf_11 : decode cX3_keptOf 11 = .ok (.aload_n 0, 1) := by decide +kernel
theorem dX3_keptOf_12 : decode cX3_keptOf 12 = .ok (.getfield 18, 3) := by decide +kernel
theorem dX3_keptOf_15 : decode cX3_keptOf 15 = .ok (.iload_n 1, 1) := by decide +kernel
theorem dX3_keptOf_16 : decode cX3_keptOf 16 = .ok (.iaload, 1) := by decide +kernel
theorem dX3_keptOf_17 : decode cX3_keptOf 17 = .ok (.goto 4, 3) := by decide +kernel
theorem dX3_keptOf_20 : decode cX3_keptOf 20 = .ok (.iconst (-1), 1) := by decide +kernel
theorem dX3_keptOf_21 : decode cX3_keptOf 21 = .ok (.ireturn, 1) := by decide +kernel
theorem dX3_isWorth_0 : decode cX3_isWorth 0 = .ok (.aload_n 0, 1) := by decide +kernel
theorem dX3_isWorth_1 : decode cX3_isWorth 1 = .ok (.iload_n 1, 1) := by decide +kernel
theorem dX3_isWorth_2 : decode cX3_isWorth 2 = .ok (.invokevirtual 73, 3) := by decide +kernel
theorem dX3_isWorth_5 : decode cX3_isWorth 5 = .ok (.iconst (-1), 1) := by decide +kernel
theorem dX3_isWorth_6 : decode cX3_isWorth 6 = .ok (.if_icmp .eq 17, 3) := by decide +kernel
theorem dX3_isWorth_9 : decode cX3_isWorth 9 = .ok (.aload_n 0, 1) := by decide +kernel
theorem dX3_isWorth_10 : decode cX3_isWorth 10 = .ok (.iload_n 1, 1) := by decide +kernel
theorem dX3_isWorth_11 : decode cX3_isWorth 11 = .ok (.invokevirtual 77, 3) := by decide +kernel
theorem dX3_isWorth_14 : decode cX3_isWorth 14 = .ok (.ifCond .le 7, 3) := by decide +kernel
theorem dX3_isWorth_17 : decode cX3_isWorth 17 = .ok (.iconst 1, 1) := by decide +kernel
theorem dX3_isWorth_18 : decode cX3_isWorth 18 = .ok (.goto 4, 3) := by decide +kernel
theorem dX3_isWorth_21 : decode cX3_isWorth 21 = .ok (.iconst 0, 1) := by decide +kernel
theorem dX3_isWorth_22 : decode cX3_isWorth 22 = .ok (.ireturn, 1) := by decide +kernel
theorem dX3_isWorth_23 : decode cX3_isWorth 23 = .ok (.aload_n 0, 1) := by decide +kernel
theorem dX3_isWorth_24 : decode cX3_isWorth 24 = .ok (.getfield 41, 3) := by decide +kernel
theorem dX3_isWorth_27 : decode cX3_isWorth 27 = .ok (.ifCond .eq 30, 3) := by decide +kernel
theorem dX3_isWorth_30 : decode cX3_isWorth 30 = .ok (.aload_n 0, 1) := by decide +kernel
theorem dX3_isWorth_31 : decode cX3_isWorth 31 = .ok (.getfield 31, 3) := by decide +kernel
theorem dX3_isWorth_34 : decode cX3_isWorth 34 = .ok (.ifnull 23, 3) := by decide +kernel
theorem dX3_isWorth_37 : decode cX3_isWorth 37 = .ok (.aload_n 0, 1) := by decide +kernel
theorem dX3_isWorth_38 : decode cX3_isWorth 38 = .ok (.iload_n 1, 1) := by decide +kernel
theorem dX3_isWorth_39 : decode cX3_isWorth 39 = .ok (.invokevirtual 77, 3) := by decide +kernel
theorem dX3_isWorth_42 : decode cX3_isWorth 42 = .ok (.aload_n 0, 1) := by decide +kernel
theorem dX3_isWorth_43 : decode cX3_isWorth 43 = .ok (.getfield 31, 3) := by decide +kernel
theorem dX3_isWorth_46 : decode cX3_isWorth 46 = .ok (.iconst 4, 1) := by decide +kernel
theorem dX3_isWorth_47 : decode cX3_isWorth 47 = .ok (.invokevirtual 80, 3) := by decide +kernel
theorem dX3_isWorth_50 : decode cX3_isWorth 50 = .ok (.if_icmp .lt 7, 3) := by decide +kernel
theorem dX3_isWorth_53 : decode cX3_isWorth 53 = .ok (.iconst 1, 1) := by decide +kernel
theorem dX3_isWorth_54 : decode cX3_isWorth 54 = .ok (.goto 4, 3) := by decide +kernel
theorem dX3_isWorth_57 : decode cX3_isWorth 57 = .ok (.iconst 0, 1) := by decide +kernel
theorem dX3_isWorth_58 : decode cX3_isWorth 58 = .ok (.ireturn, 1) := by decide +kernel
theorem dX3_bestPair_0 : decode cX3_bestPair 0 = .ok (.aload_n 0, 1) := by decide +kernel
theorem dX3_bestPair_1 : decode cX3_bestPair 1 = .ok (.getfield 24, 3) := by decide +kernel
theorem dX3_bestPair_4 : decode cX3_bestPair 4 = .ok (.ireturn, 1) := by decide +kernel
theorem dX3_manyWorth_0 : decode cX3_manyWorth 0 = .ok (.aload_n 0, 1) := by decide +kernel
theorem dX3_manyWorth_1 : decode cX3_manyWorth 1 = .ok (.getfield 83, 3) := by decide +kernel
theorem dX3_manyWorth_4 : decode cX3_manyWorth 4 = .ok (.ireturn, 1) := by decide +kernel
theorem dX3_manyAsCommonAsBest_0 : decode cX3_manyAsCommonAsBest 0 = .ok (.aload_n 0, 1) := by decide +kernel
theorem dX3_manyAsCommonAsBest_1 : decode cX3_manyAsCommonAsBest 1 = .ok (.getfield 86, 3) := by decide +kernel
theorem dX3_manyAsCommonAsBest_4 : decode cX3_manyAsCommonAsBest 4 = .ok (.ireturn, 1) := by decide +kernel
theorem dX3_clear_0 : decode cX3_clear 0 = .ok (.iconst 0, 1) := by decide +kernel
theorem dX3_clear_1 : decode cX3_clear 1 = .ok (.istore_n 1, 1) := by decide +kernel
theorem dX3_clear_2 : decode cX3_clear 2 = .ok (.iload_n 1, 1) := by decide +kernel
theorem dX3_clear_3 : decode cX3_clear 3 = .ok (.aload_n 0, 1) := by decide +kernel
theorem dX3_clear_4 : decode cX3_clear 4 = .ok (.getfield 89, 3) := by decide +kernel
theorem dX3_clear_7 : decode cX3_clear 7 = .ok (.if_icmp .ge 33, 3) := by decide +kernel
theorem dX3_clear_10 : decode cX3_clear 10 = .ok (.aload_n 0, 1) := by decide +kernel
theorem dX3_clear_11 : decode cX3_clear 11 = .ok (.getfield 11, 3) := by decide +kernel
theorem dX3_clear_14 : decode cX3_clear 14 = .ok (.aload_n 0, 1) := by decide +kernel
theorem dX3_clear_15 : decode cX3_clear 15 = .ok (.getfield 21, 3) := by decide +kernel
theorem dX3_clear_18 : decode cX3_clear 18 = .ok (.iload_n 1, 1) := by decide +kernel
theorem dX3_clear_19 : decode cX3_clear 19 = .ok (.iaload, 1) := by decide +kernel
theorem dX3_clear_20 : decode cX3_clear 20 = .ok (.iconst 0, 1) := by decide +kernel
theorem dX3_clear_21 : decode cX3_clear 21 = .ok (.iastore, 1) := by decide +kernel
theorem dX3_clear_22 : decode cX3_clear 22 = .ok (.aload_n 0, 1) := by decide +kernel
theorem dX3_clear_23 : decode cX3_clear 23 = .ok (.getfield 18, 3) := by decide +kernel
theorem dX3_clear_26 : decode cX3_clear 26 = .ok (.aload_n 0, 1) := by decide +kernel
theorem dX3_clear_27 : decode cX3_clear 27 = .ok (.getfield 21, 3) := by decide +kernel
theorem dX3_clear_30 : decode cX3_clear 30 = .ok (.iload_n 1, 1) := by decide +kernel
theorem dX3_clear_31 : decode cX3_clear 31 = .ok (.iaload, 1) := by decide +kernel
theorem dX3_clear_32 : decode cX3_clear 32 = .ok (.iconst (-1), 1) := by decide +kernel
theorem dX3_clear_33 : decode cX3_clear 33 = .ok (.iastore, 1) := by decide +kernel
theorem dX3_clear_34 : decode cX3_clear 34 = .ok (.iinc 1 1, 3) := by decide +kernel
theorem dX3_clear_37 : decode cX3_clear 37 = .ok (.goto (-35), 3) := by decide +kernel
theorem dX3_clear_40 : decode cX3_clear 40 = .ok (.aload_n 0, 1) := by decide +kernel
theorem dX3_clear_41 : decode cX3_clear 41 = .ok (.iconst 0, 1) := by decide +kernel
theorem dX3_clear_42 : decode cX3_clear 42 = .ok (.putfield 89, 3) := by decide +kernel
theorem dX3_clear_45 : decode cX3_clear 45 = .ok (.return_, 1) := by decide +kernel
theorem dX3_touch_0 : decode cX3_touch 0 = .ok (.aload_n 0, 1) := by decide +kernel
theorem dX3_touch_1 : decode cX3_touch 1 = .ok (.getfield 11, 3) := by decide +kernel
theorem dX3_touch_4 : decode cX3_touch 4 = .ok (.iload_n 1, 1) := by decide +kernel
theorem dX3_touch_5 : decode cX3_touch 5 = .ok (.iaload, 1) := by decide +kernel
theorem dX3_touch_6 : decode cX3_touch 6 = .ok (.ifCond .ne 43, 3) := by decide +kernel
theorem dX3_touch_9 : decode cX3_touch 9 = .ok (.aload_n 0, 1) := by decide +kernel
theorem dX3_touch_10 : decode cX3_touch 10 = .ok (.getfield 18, 3) := by decide +kernel
theorem dX3_touch_13 : decode cX3_touch 13 = .ok (.iload_n 1, 1) := by decide +kernel
theorem dX3_touch_14 : decode cX3_touch 14 = .ok (.iaload, 1) := by decide +kernel
theorem dX3_touch_15 : decode cX3_touch 15 = .ok (.iconst (-1), 1) := by decide +kernel
theorem dX3_touch_16 : decode cX3_touch 16 = .ok (.if_icmp .ne 33, 3) := by decide +kernel
theorem dX3_touch_19 : decode cX3_touch 19 = .ok (.aload_n 0, 1) := by decide +kernel
theorem dX3_touch_20 : decode cX3_touch 20 = .ok (.getfield 89, 3) := by decide +kernel
theorem dX3_touch_23 : decode cX3_touch 23 = .ok (.sipush 4356, 3) := by decide +kernel
theorem dX3_touch_26 : decode cX3_touch 26 = .ok (.if_icmp .ge 23, 3) := by decide +kernel
theorem dX3_touch_29 : decode cX3_touch 29 = .ok (.aload_n 0, 1) := by decide +kernel
theorem dX3_touch_30 : decode cX3_touch 30 = .ok (.getfield 21, 3) := by decide +kernel
theorem dX3_touch_33 : decode cX3_touch 33 = .ok (.aload_n 0, 1) := by decide +kernel
theorem dX3_touch_34 : decode cX3_touch 34 = .ok (.getfield 89, 3) := by decide +kernel
theorem dX3_touch_37 : decode cX3_touch 37 = .ok (.iload_n 1, 1) := by decide +kernel
theorem dX3_touch_38 : decode cX3_touch 38 = .ok (.iastore, 1) := by decide +kernel
theorem dX3_touch_39 : decode cX3_touch 39 = .ok (.aload_n 0, 1) := by decide +kernel
theorem dX3_touch_40 : decode cX3_touch 40 = .ok (.dup, 1) := by decide +kernel
theorem dX3_touch_41 : decode cX3_touch 41 = .ok (.getfield 89, 3) := by decide +kernel
theorem dX3_touch_44 : decode cX3_touch 44 = .ok (.iconst 1, 1) := by decide +kernel
theorem dX3_touch_45 : decode cX3_touch 45 = .ok (.iadd, 1) := by decide +kernel
theorem dX3_touch_46 : decode cX3_touch 46 = .ok (.putfield 89, 3) := by decide +kernel
theorem dX3_touch_49 : decode cX3_touch 49 = .ok (.return_, 1) := by decide +kernel
theorem dX3_noteKept_0 : decode cX3_noteKept 0 = .ok (.aload_n 0, 1) := by decide +kernel
theorem dX3_noteKept_1 : decode cX3_noteKept 1 = .ok (.aload_n 2, 1) := by decide +kernel
theorem dX3_noteKept_2 : decode cX3_noteKept 2 = .ok (.iconst 0, 1) := by decide +kernel
theorem dX3_noteKept_3 : decode cX3_noteKept 3 = .ok (.invokevirtual 92, 3) := by decide +kernel
theorem dX3_noteKept_6 : decode cX3_noteKept 6 = .ok (.aload_n 2, 1) := by decide +kernel
theorem dX3_noteKept_7 : decode cX3_noteKept 7 = .ok (.iconst 1, 1) := by decide +kernel
theorem dX3_noteKept_8 : decode cX3_noteKept 8 = .ok (.invokevirtual 92, 3) := by decide +kernel
theorem dX3_noteKept_11 : decode cX3_noteKept 11 = .ok (.invokevirtual 95, 3) := by decide +kernel
theorem dX3_noteKept_14 : decode cX3_noteKept 14 = .ok (.istore_n 3, 1) := by decide +kernel
theorem dX3_noteKept_15 : decode cX3_noteKept 15 = .ok (.iload_n 3, 1) := by decide +kernel
theorem dX3_noteKept_16 : decode cX3_noteKept 16 = .ok (.iconst (-1), 1) := by decide +kernel
theorem dX3_noteKept_17 : decode cX3_noteKept 17 = .ok (.if_icmp .eq 25, 3) := by decide +kernel
theorem dX3_noteKept_20 : decode cX3_noteKept 20 = .ok (.aload_n 0, 1) := by decide +kernel
theorem dX3_noteKept_21 : decode cX3_noteKept 21 = .ok (.getfield 18, 3) := by decide +kernel
theorem dX3_noteKept_24 : decode cX3_noteKept 24 = .ok (.iload_n 3, 1) := by decide +kernel
theorem dX3_noteKept_25 : decode cX3_noteKept 25 = .ok (.iaload, 1) := by decide +kernel
theorem dX3_noteKept_26 : decode cX3_noteKept 26 = .ok (.iconst (-1), 1) := by decide +kernel
theorem dX3_noteKept_27 : decode cX3_noteKept 27 = .ok (.if_icmp .ne 15, 3) := by decide +kernel
theorem dX3_noteKept_30 : decode cX3_noteKept 30 = .ok (.aload_n 0, 1) := by decide +kernel
theorem dX3_noteKept_31 : decode cX3_noteKept 31 = .ok (.iload_n 3, 1) := by decide +kernel
theorem dX3_noteKept_32 : decode cX3_noteKept 32 = .ok (.invokevirtual 99, 3) := by decide +kernel
theorem dX3_noteKept_35 : decode cX3_noteKept 35 = .ok (.aload_n 0, 1) := by decide +kernel
theorem dX3_noteKept_36 : decode cX3_noteKept 36 = .ok (.getfield 18, 3) := by decide +kernel
theorem dX3_noteKept_39 : decode cX3_noteKept 39 = .ok (.iload_n 3, 1) := by decide +kernel
theorem dX3_noteKept_40 : decode cX3_noteKept 40 = .ok (.iload_n 1, 1) := by decide +kernel
theorem dX3_noteKept_41 : decode cX3_noteKept 41 = .ok (.iastore, 1) := by decide +kernel
theorem dX3_noteKept_42 : decode cX3_noteKept 42 = .ok (.return_, 1) := by decide +kernel
theorem dX3_noteRow_0 : decode cX3_noteRow 0 = .ok (.bipush (-2), 2) := by decide +kernel
theorem dX3_noteRow_2 : decode cX3_noteRow 2 = .ok (.istore_n 3, 1) := by decide +kernel
theorem dX3_noteRow_3 : decode cX3_noteRow 3 = .ok (.iconst 0, 1) := by decide +kernel
theorem dX3_noteRow_4 : decode cX3_noteRow 4 = .ok (.istore 4, 2) := by decide +kernel
theorem dX3_noteRow_6 : decode cX3_noteRow 6 = .ok (.iload 4, 2) := by decide +kernel
theorem dX3_noteRow_8 : decode cX3_noteRow 8 = .ok (.iconst 1, 1) := by decide +kernel
theorem dX3_noteRow_9 : decode cX3_noteRow 9 = .ok (.iadd, 1) := by decide +kernel
theorem dX3_noteRow_10 : decode cX3_noteRow 10 = .ok (.aload_n 1, 1) := by decide +kernel
theorem dX3_noteRow_11 : decode cX3_noteRow 11 = .ok (.invokevirtual 49, 3) := by decide +kernel
theorem dX3_noteRow_14 : decode cX3_noteRow 14 = .ok (.if_icmp .ge 75, 3) := by decide +kernel
theorem dX3_noteRow_17 : decode cX3_noteRow 17 = .ok (.aload_n 1, 1) := by decide +kernel
theorem dX3_noteRow_18 : decode cX3_noteRow 18 = .ok (.iload 4, 2) := by decide +kernel
theorem dX3_noteRow_20 : decode cX3_noteRow 20 = .ok (.invokevirtual 92, 3) := by decide +kernel
theorem dX3_noteRow_23 : decode cX3_noteRow 23 = .ok (.istore 5, 2) := by decide +kernel
theorem dX3_noteRow_25 : decode cX3_noteRow 25 = .ok (.aload_n 1, 1) := by decide +kernel
theorem dX3_noteRow_26 : decode cX3_noteRow 26 = .ok (.iload 4, 2) := by decide +kernel
theorem dX3_noteRow_28 : decode cX3_noteRow 28 = .ok (.iconst 1, 1) := by decide +kernel
theorem dX3_noteRow_29 : decode cX3_noteRow 29 = .ok (.iadd, 1) := by decide +kernel
theorem dX3_noteRow_30 : decode cX3_noteRow 30 = .ok (.invokevirtual 92, 3) := by decide +kernel
theorem dX3_noteRow_33 : decode cX3_noteRow 33 = .ok (.istore 6, 2) := by decide +kernel
theorem dX3_noteRow_35 : decode cX3_noteRow 35 = .ok (.iload 5, 2) := by decide +kernel
theorem dX3_noteRow_37 : decode cX3_noteRow 37 = .ok (.iload 6, 2) := by decide +kernel
theorem dX3_noteRow_39 : decode cX3_noteRow 39 = .ok (.if_icmp .ne 14, 3) := by decide +kernel
theorem dX3_noteRow_42 : decode cX3_noteRow 42 = .ok (.iload_n 3, 1) := by decide +kernel
theorem dX3_noteRow_43 : decode cX3_noteRow 43 = .ok (.iload 4, 2) := by decide +kernel
theorem dX3_noteRow_45 : decode cX3_noteRow 45 = .ok (.iconst 1, 1) := by decide +kernel
theorem dX3_noteRow_46 : decode cX3_noteRow 46 = .ok (.isub, 1) := by decide +kernel
theorem dX3_noteRow_47 : decode cX3_noteRow 47 = .ok (.if_icmp .ne 6, 3) := by decide +kernel
theorem dX3_noteRow_50 : decode cX3_noteRow 50 = .ok (.goto 33, 3) := by decide +kernel
theorem dX3_noteRow_53 : decode cX3_noteRow 53 = .ok (.iload 5, 2) := by decide +kernel
theorem dX3_noteRow_55 : decode cX3_noteRow 55 = .ok (.iload 6, 2) := by decide +kernel
theorem dX3_noteRow_57 : decode cX3_noteRow 57 = .ok (.if_icmp .ne 8, 3) := by decide +kernel
theorem dX3_noteRow_60 : decode cX3_noteRow 60 = .ok (.iload 4, 2) := by decide +kernel
theorem dX3_noteRow_62 : decode cX3_noteRow 62 = .ok (.goto 4, 3) := by decide +kernel
theorem dX3_noteRow_65 : decode cX3_noteRow 65 = .ok (.iload_n 3, 1) := by decide +kernel
theorem dX3_noteRow_66 : decode cX3_noteRow 66 = .ok (.istore_n 3, 1) := by decide +kernel
theorem dX3_noteRow_67 : decode cX3_noteRow 67 = .ok (.aload_n 0, 1) := by decide +kernel
theorem dX3_noteRow_68 : decode cX3_noteRow 68 = .ok (.aload_n 0, 1) := by decide +kernel
theorem dX3_noteRow_69 : decode cX3_noteRow 69 = .ok (.iload 5, 2) := by decide +kernel
theorem dX3_noteRow_71 : decode cX3_noteRow 71 = .ok (.iload 6, 2) := by decide +kernel
theorem dX3_noteRow_73 : decode cX3_noteRow 73 = .ok (.invokevirtual 95, 3) := by decide +kernel
theorem dX3_noteRow_76 : decode cX3_noteRow 76 = .ok (.iload_n 2, 1) := by decide +kernel
theorem dX3_noteRow_77 : decode cX3_noteRow 77 = .ok (.iload 4, 2) := by decide +kernel
theorem dX3_noteRow_79 : decode cX3_noteRow 79 = .ok (.iadd, 1) := by decide +kernel
theorem dX3_noteRow_80 : decode cX3_noteRow 80 = .ok (.invokevirtual 103, 3) := by decide +kernel
theorem dX3_noteRow_83 : decode cX3_noteRow 83 = .ok (.iinc 4 1, 3) := by decide +kernel
theorem dX3_noteRow_86 : decode cX3_noteRow 86 = .ok (.goto (-80), 3) := by decide +kernel
theorem dX3_noteRow_89 : decode cX3_noteRow 89 = .ok (.return_, 1) := by decide +kernel
theorem dX3_notePair_0 : decode cX3_notePair 0 = .ok (.iload_n 1, 1) := by decide +kernel
theorem dX3_notePair_1 : decode cX3_notePair 1 = .ok (.iconst (-1), 1) := by decide +kernel
theorem dX3_notePair_2 : decode cX3_notePair 2 = .ok (.if_icmp .ne 4, 3) := by decide +kernel
theorem dX3_notePair_5 : decode cX3_notePair 5 = .ok (.return_, 1) := by decide +kernel
theorem dX3_notePair_6 : decode cX3_notePair 6 = .ok (.aload_n 0, 1) := by decide +kernel
theorem dX3_notePair_7 : decode cX3_notePair 7 = .ok (.iload_n 1, 1) := by decide +kernel
theorem dX3_notePair_8 : decode cX3_notePair 8 = .ok (.invokevirtual 99, 3) := by decide +kernel
theorem dX3_notePair_11 : decode cX3_notePair 11 = .ok (.aload_n 0, 1) := by decide +kernel
theorem dX3_notePair_12 : decode cX3_notePair 12 = .ok (.getfield 11, 3) := by decide +kernel
theorem dX3_notePair_15 : decode cX3_notePair 15 = .ok (.iload_n 1, 1) := by decide +kernel
theorem dX3_notePair_16 : decode cX3_notePair 16 = .ok (.iaload, 1) := by decide +kernel
theorem dX3_notePair_17 : decode cX3_notePair 17 = .ok (.ifCond .ne 10, 3) := by decide +kernel
theorem dX3_notePair_20 : decode cX3_notePair 20 = .ok (.aload_n 0, 1) := by decide +kernel
theorem dX3_notePair_21 : decode cX3_notePair 21 = .ok (.getfield 15, 3) := by decide +kernel
theorem dX3_notePair_24 : decode cX3_notePair 24 = .ok (.iload_n 1, 1) := by decide +kernel
theorem dX3_notePair_25 : decode cX3_notePair 25 = .ok (.iload_n 2, 1) := by decide +kernel
theorem dX3_notePair_26 : decode cX3_notePair 26 = .ok (.iastore, 1) := by decide +kernel
theorem dX3_notePair_27 : decode cX3_notePair 27 = .ok (.aload_n 0, 1) := by decide +kernel
theorem dX3_notePair_28 : decode cX3_notePair 28 = .ok (.getfield 11, 3) := by decide +kernel
theorem dX3_notePair_31 : decode cX3_notePair 31 = .ok (.iload_n 1, 1) := by decide +kernel
theorem dX3_notePair_32 : decode cX3_notePair 32 = .ok (.dup2, 1) := by decide +kernel
theorem dX3_notePair_33 : decode cX3_notePair 33 = .ok (.iaload, 1) := by decide +kernel
theorem dX3_notePair_34 : decode cX3_notePair 34 = .ok (.iconst 1, 1) := by decide +kernel
theorem dX3_notePair_35 : decode cX3_notePair 35 = .ok (.iadd, 1) := by decide +kernel
theorem dX3_notePair_36 : decode cX3_notePair 36 = .ok (.iastore, 1) := by decide +kernel
theorem dX3_notePair_37 : decode cX3_notePair 37 = .ok (.return_, 1) := by decide +kernel
theorem dX3_choose_0 : decode cX3_choose 0 = .ok (.aload_n 0, 1) := by decide +kernel
theorem dX3_choose_1 : decode cX3_choose 1 = .ok (.iconst (-1), 1) := by decide +kernel
theorem dX3_choose_2 : decode cX3_choose 2 = .ok (.putfield 24, 3) := by decide +kernel
theorem dX3_choose_5 : decode cX3_choose 5 = .ok (.aload_n 0, 1) := by decide +kernel
theorem dX3_choose_6 : decode cX3_choose 6 = .ok (.iconst 0, 1) := by decide +kernel
theorem dX3_choose_7 : decode cX3_choose 7 = .ok (.putfield 83, 3) := by decide +kernel
theorem dX3_choose_10 : decode cX3_choose 10 = .ok (.aload_n 0, 1) := by decide +kernel
theorem dX3_choose_11 : decode cX3_choose 11 = .ok (.iconst 0, 1) := by decide +kernel
theorem dX3_choose_12 : decode cX3_choose 12 = .ok (.putfield 86, 3) := by decide +kernel
theorem dX3_choose_15 : decode cX3_choose 15 = .ok (.iconst 0, 1) := by decide +kernel
theorem dX3_choose_16 : decode cX3_choose 16 = .ok (.istore_n 1, 1) := by decide +kernel
theorem dX3_choose_17 : decode cX3_choose 17 = .ok (.iload_n 1, 1) := by decide +kernel
theorem dX3_choose_18 : decode cX3_choose 18 = .ok (.aload_n 0, 1) := by decide +kernel
theorem dX3_choose_19 : decode cX3_choose 19 = .ok (.getfield 89, 3) := by decide +kernel
theorem dX3_choose_22 : decode cX3_choose 22 = .ok (.if_icmp .ge 128, 3) := by decide +kernel
theorem dX3_choose_25 : decode cX3_choose 25 = .ok (.aload_n 0, 1) := by decide +kernel
theorem dX3_choose_26 : decode cX3_choose 26 = .ok (.getfield 21, 3) := by decide +kernel
theorem dX3_choose_29 : decode cX3_choose 29 = .ok (.iload_n 1, 1) := by decide +kernel
theorem dX3_choose_30 : decode cX3_choose 30 = .ok (.iaload, 1) := by decide +kernel
theorem dX3_choose_31 : decode cX3_choose 31 = .ok (.istore_n 2, 1) := by decide +kernel
theorem dX3_choose_32 : decode cX3_choose 32 = .ok (.aload_n 0, 1) := by decide +kernel
theorem dX3_choose_33 : decode cX3_choose 33 = .ok (.iload_n 2, 1) := by decide +kernel
theorem dX3_choose_34 : decode cX3_choose 34 = .ok (.invokevirtual 107, 3) := by decide +kernel
theorem dX3_choose_37 : decode cX3_choose 37 = .ok (.ifCond .ne 6, 3) := by decide +kernel
theorem dX3_choose_40 : decode cX3_choose 40 = .ok (.goto 104, 3) := by decide +kernel
theorem dX3_choose_43 : decode cX3_choose 43 = .ok (.aload_n 0, 1) := by decide +kernel
theorem dX3_choose_44 : decode cX3_choose 44 = .ok (.dup, 1) := by decide +kernel
theorem dX3_choose_45 : decode cX3_choose 45 = .ok (.getfield 83, 3) := by decide +kernel
theorem dX3_choose_48 : decode cX3_choose 48 = .ok (.iconst 1, 1) := by decide +kernel
theorem dX3_choose_49 : decode cX3_choose 49 = .ok (.iadd, 1) := by decide +kernel
theorem dX3_choose_50 : decode cX3_choose 50 = .ok (.putfield 83, 3) := by decide +kernel
theorem dX3_choose_53 : decode cX3_choose 53 = .ok (.aload_n 0, 1) := by decide +kernel
theorem dX3_choose_54 : decode cX3_choose 54 = .ok (.getfield 24, 3) := by decide +kernel
theorem dX3_choose_57 : decode cX3_choose 57 = .ok (.iconst (-1), 1) := by decide +kernel
theorem dX3_choose_58 : decode cX3_choose 58 = .ok (.if_icmp .eq 21, 3) := by decide +kernel
theorem dX3_choose_61 : decode cX3_choose 61 = .ok (.aload_n 0, 1) := by decide +kernel
theorem dX3_choose_62 : decode cX3_choose 62 = .ok (.getfield 11, 3) := by decide +kernel
theorem dX3_choose_65 : decode cX3_choose 65 = .ok (.iload_n 2, 1) := by decide +kernel
theorem dX3_choose_66 : decode cX3_choose 66 = .ok (.iaload, 1) := by decide +kernel
theorem dX3_choose_67 : decode cX3_choose 67 = .ok (.aload_n 0, 1) := by decide +kernel
theorem dX3_choose_68 : decode cX3_choose 68 = .ok (.getfield 11, 3) := by decide +kernel
theorem dX3_choose_71 : decode cX3_choose 71 = .ok (.aload_n 0, 1) := by decide +kernel
theorem dX3_choose_72 : decode cX3_choose 72 = .ok (.getfield 24, 3) := by decide +kernel
theorem dX3_choose_75 : decode cX3_choose 75 = .ok (.iaload, 1) := by decide +kernel
theorem dX3_choose_76 : decode cX3_choose 76 = .ok (.if_icmp .le 16, 3) := by decide +kernel
theorem dX3_choose_79 : decode cX3_choose 79 = .ok (.aload_n 0, 1) := by decide +kernel
theorem dX3_choose_80 : decode cX3_choose 80 = .ok (.iload_n 2, 1) := by decide +kernel
theorem dX3_choose_81 : decode cX3_choose 81 = .ok (.putfield 24, 3) := by decide +kernel
theorem dX3_choose_84 : decode cX3_choose 84 = .ok (.aload_n 0, 1) := by decide +kernel
theorem dX3_choose_85 : decode cX3_choose 85 = .ok (.iconst 1, 1) := by decide +kernel
theorem dX3_choose_86 : decode cX3_choose 86 = .ok (.putfield 86, 3) := by decide +kernel
theorem dX3_choose_89 : decode cX3_choose 89 = .ok (.goto 55, 3) := by decide +kernel
theorem dX3_choose_92 : decode cX3_choose 92 = .ok (.aload_n 0, 1) := by decide +kernel
theorem dX3_choose_93 : decode cX3_choose 93 = .ok (.getfield 11, 3) := by decide +kernel
theorem dX3_choose_96 : decode cX3_choose 96 = .ok (.iload_n 2, 1) := by decide +kernel
theorem dX3_choose_97 : decode cX3_choose 97 = .ok (.iaload, 1) := by decide +kernel
theorem dX3_choose_98 : decode cX3_choose 98 = .ok (.aload_n 0, 1) := by decide +kernel
theorem dX3_choose_99 : decode cX3_choose 99 = .ok (.getfield 11, 3) := by decide +kernel
theorem dX3_choose_102 : decode cX3_choose 102 = .ok (.aload_n 0, 1) := by decide +kernel
theorem dX3_choose_103 : decode cX3_choose 103 = .ok (.getfield 24, 3) := by decide +kernel
theorem dX3_choose_106 : decode cX3_choose 106 = .ok (.iaload, 1) := by decide +kernel
theorem dX3_choose_107 : decode cX3_choose 107 = .ok (.if_icmp .ne 37, 3) := by decide +kernel
theorem dX3_choose_110 : decode cX3_choose 110 = .ok (.aload_n 0, 1) := by decide +kernel
theorem dX3_choose_111 : decode cX3_choose 111 = .ok (.dup, 1) := by decide +kernel
theorem dX3_choose_112 : decode cX3_choose 112 = .ok (.getfield 86, 3) := by decide +kernel
theorem dX3_choose_115 : decode cX3_choose 115 = .ok (.iconst 1, 1) := by decide +kernel
theorem dX3_choose_116 : decode cX3_choose 116 = .ok (.iadd, 1) := by decide +kernel
theorem dX3_choose_117 : decode cX3_choose 117 = .ok (.putfield 86, 3) := by decide +kernel
theorem dX3_choose_120 : decode cX3_choose 120 = .ok (.aload_n 0, 1) := by decide +kernel
theorem dX3_choose_121 : decode cX3_choose 121 = .ok (.aload_n 0, 1) := by decide +kernel
theorem dX3_choose_122 : decode cX3_choose 122 = .ok (.iload_n 2, 1) := by decide +kernel
theorem dX3_choose_123 : decode cX3_choose 123 = .ok (.aload_n 0, 1) := by decide +kernel
theorem dX3_choose_124 : decode cX3_choose 124 = .ok (.getfield 24, 3) := by decide +kernel
theorem dX3_choose_127 : decode cX3_choose 127 = .ok (.invokevirtual 110, 3) := by decide +kernel
theorem dX3_choose_130 : decode cX3_choose 130 = .ok (.ifCond .eq 7, 3) := by decide +kernel
theorem dX3_choose_133 : decode cX3_choose 133 = .ok (.iload_n 2, 1) := by decide +kernel
theorem dX3_choose_134 : decode cX3_choose 134 = .ok (.goto 7, 3) := by decide +kernel
theorem dX3_choose_137 : decode cX3_choose 137 = .ok (.aload_n 0, 1) := by decide +kernel
theorem dX3_choose_138 : decode cX3_choose 138 = .ok (.getfield 24, 3) := by decide +kernel
theorem dX3_choose_141 : decode cX3_choose 141 = .ok (.putfield 24, 3) := by decide +kernel
theorem dX3_choose_144 : decode cX3_choose 144 = .ok (.iinc 1 1, 3) := by decide +kernel
theorem dX3_choose_147 : decode cX3_choose 147 = .ok (.goto (-130), 3) := by decide +kernel
theorem dX3_choose_150 : decode cX3_choose 150 = .ok (.return_, 1) := by decide +kernel
theorem dX3_isAheadByTie_0 : decode cX3_isAheadByTie 0 = .ok (.aload_n 0, 1) := by decide +kernel
theorem dX3_isAheadByTie_1 : decode cX3_isAheadByTie 1 = .ok (.getfield 31, 3) := by decide +kernel
theorem dX3_isAheadByTie_4 : decode cX3_isAheadByTie 4 = .ok (.ifnull 14, 3) := by decide +kernel
theorem dX3_isAheadByTie_7 : decode cX3_isAheadByTie 7 = .ok (.aload_n 0, 1) := by decide +kernel
theorem dX3_isAheadByTie_8 : decode cX3_isAheadByTie 8 = .ok (.getfield 31, 3) := by decide +kernel
theorem dX3_isAheadByTie_11 : decode cX3_isAheadByTie 11 = .ok (.iconst 5, 1) := by decide +kernel
theorem dX3_isAheadByTie_12 : decode cX3_isAheadByTie 12 = .ok (.invokevirtual 80, 3) := by decide +kernel
theorem dX3_isAheadByTie_15 : decode cX3_isAheadByTie 15 = .ok (.ifCond .ne 14, 3) := by decide +kernel
theorem dX3_isAheadByTie_18 : decode cX3_isAheadByTie 18 = .ok (.iload_n 1, 1) := by decide +kernel
theorem dX3_isAheadByTie_19 : decode cX3_isAheadByTie 19 = .ok (.iload_n 2, 1) := by decide +kernel
theorem dX3_isAheadByTie_20 : decode cX3_isAheadByTie 20 = .ok (.if_icmp .ge 7, 3) := by decide +kernel
theorem dX3_isAheadByTie_23 : decode cX3_isAheadByTie 23 = .ok (.iconst 1, 1) := by decide +kernel
theorem dX3_isAheadByTie_24 : decode cX3_isAheadByTie 24 = .ok (.goto 4, 3) := by decide +kernel
theorem dX3_isAheadByTie_27 : decode cX3_isAheadByTie 27 = .ok (.iconst 0, 1) := by decide +kernel
theorem dX3_isAheadByTie_28 : decode cX3_isAheadByTie 28 = .ok (.ireturn, 1) := by decide +kernel
theorem dX3_isAheadByTie_29 : decode cX3_isAheadByTie 29 = .ok (.aload_n 0, 1) := by decide +kernel
theorem dX3_isAheadByTie_30 : decode cX3_isAheadByTie 30 = .ok (.getfield 31, 3) := by decide +kernel
theorem dX3_isAheadByTie_33 : decode cX3_isAheadByTie 33 = .ok (.iconst 5, 1) := by decide +kernel
theorem dX3_isAheadByTie_34 : decode cX3_isAheadByTie 34 = .ok (.invokevirtual 80, 3) := by decide +kernel
theorem dX3_isAheadByTie_37 : decode cX3_isAheadByTie 37 = .ok (.iconst 1, 1) := by decide +kernel
theorem dX3_isAheadByTie_38 : decode cX3_isAheadByTie 38 = .ok (.if_icmp .ne 24, 3) := by decide +kernel
theorem dX3_isAheadByTie_41 : decode cX3_isAheadByTie 41 = .ok (.aload_n 0, 1) := by decide +kernel
theorem dX3_isAheadByTie_42 : decode cX3_isAheadByTie 42 = .ok (.getfield 15, 3) := by decide +kernel
theorem dX3_isAheadByTie_45 : decode cX3_isAheadByTie 45 = .ok (.iload_n 1, 1) := by decide +kernel
theorem dX3_isAheadByTie_46 : decode cX3_isAheadByTie 46 = .ok (.iaload, 1) := by decide +kernel
theorem dX3_isAheadByTie_47 : decode cX3_isAheadByTie 47 = .ok (.aload_n 0, 1) := by decide +kernel
theorem dX3_isAheadByTie_48 : decode cX3_isAheadByTie 48 = .ok (.getfield 15, 3) := by decide +kernel
theorem dX3_isAheadByTie_51 : decode cX3_isAheadByTie 51 = .ok (.iload_n 2, 1) := by decide +kernel
theorem dX3_isAheadByTie_52 : decode cX3_isAheadByTie 52 = .ok (.iaload, 1) := by decide +kernel
theorem dX3_isAheadByTie_53 : decode cX3_isAheadByTie 53 = .ok (.if_icmp .ge 7, 3) := by decide +kernel
theorem dX3_isAheadByTie_56 : decode cX3_isAheadByTie 56 = .ok (.iconst 1, 1) := by decide +kernel
theorem dX3_isAheadByTie_57 : decode cX3_isAheadByTie 57 = .ok (.goto 4, 3) := by decide +kernel
theorem dX3_isAheadByTie_60 : decode cX3_isAheadByTie 60 = .ok (.iconst 0, 1) := by decide +kernel
theorem dX3_isAheadByTie_61 : decode cX3_isAheadByTie 61 = .ok (.ireturn, 1) := by decide +kernel
theorem dX3_isAheadByTie_62 : decode cX3_isAheadByTie 62 = .ok (.aload_n 0, 1) := by decide +kernel
theorem dX3_isAheadByTie_63 : decode cX3_isAheadByTie 63 = .ok (.getfield 31, 3) := by decide +kernel
theorem dX3_isAheadByTie_66 : decode cX3_isAheadByTie 66 = .ok (.aload_n 0, 1) := by decide +kernel
theorem dX3_isAheadByTie_67 : decode cX3_isAheadByTie 67 = .ok (.iload_n 1, 1) := by decide +kernel
theorem dX3_isAheadByTie_68 : decode cX3_isAheadByTie 68 = .ok (.invokevirtual 114, 3) := by decide +kernel
theorem dX3_isAheadByTie_71 : decode cX3_isAheadByTie 71 = .ok (.invokevirtual 117, 3) := by decide +kernel
theorem dX3_isAheadByTie_74 : decode cX3_isAheadByTie 74 = .ok (.aload_n 0, 1) := by decide +kernel
theorem dX3_isAheadByTie_75 : decode cX3_isAheadByTie 75 = .ok (.getfield 31, 3) := by decide +kernel
theorem dX3_isAheadByTie_78 : decode cX3_isAheadByTie 78 = .ok (.aload_n 0, 1) := by decide +kernel
theorem dX3_isAheadByTie_79 : decode cX3_isAheadByTie 79 = .ok (.iload_n 1, 1) := by decide +kernel
theorem dX3_isAheadByTie_80 : decode cX3_isAheadByTie 80 = .ok (.invokevirtual 120, 3) := by decide +kernel
theorem dX3_isAheadByTie_83 : decode cX3_isAheadByTie 83 = .ok (.invokevirtual 117, 3) := by decide +kernel
theorem dX3_isAheadByTie_86 : decode cX3_isAheadByTie 86 = .ok (.iadd, 1) := by decide +kernel
theorem dX3_isAheadByTie_87 : decode cX3_isAheadByTie 87 = .ok (.aload_n 0, 1) := by decide +kernel
theorem dX3_isAheadByTie_88 : decode cX3_isAheadByTie 88 = .ok (.getfield 31, 3) := by decide +kernel
theorem dX3_isAheadByTie_91 : decode cX3_isAheadByTie 91 = .ok (.aload_n 0, 1) := by decide +kernel
theorem dX3_isAheadByTie_92 : decode cX3_isAheadByTie 92 = .ok (.iload_n 2, 1) := by decide +kernel
theorem dX3_isAheadByTie_93 : decode cX3_isAheadByTie 93 = .ok (.invokevirtual 114, 3) := by decide +kernel
theorem dX3_isAheadByTie_96 : decode cX3_isAheadByTie 96 = .ok (.invokevirtual 117, 3) := by decide +kernel
theorem dX3_isAheadByTie_99 : decode cX3_isAheadByTie 99 = .ok (.isub, 1) := by decide +kernel
theorem dX3_isAheadByTie_100 : decode cX3_isAheadByTie 100 = .ok (.aload_n 0, 1) := by decide +kernel
theorem dX3_isAheadByTie_101 : decode cX3_isAheadByTie 101 = .ok (.getfield 31, 3) := by decide +kernel
theorem dX3_isAheadByTie_104 : decode cX3_isAheadByTie 104 = .ok (.aload_n 0, 1) := by decide +kernel
theorem dX3_isAheadByTie_105 : decode cX3_isAheadByTie 105 = .ok (.iload_n 2, 1) := by decide +kernel
theorem dX3_isAheadByTie_106 : decode cX3_isAheadByTie 106 = .ok (.invokevirtual 120, 3) := by decide +kernel
theorem dX3_isAheadByTie_109 : decode cX3_isAheadByTie 109 = .ok (.invokevirtual 117, 3) := by decide +kernel
theorem dX3_isAheadByTie_112 : decode cX3_isAheadByTie 112 = .ok (.isub, 1) := by decide +kernel
theorem dX3_isAheadByTie_113 : decode cX3_isAheadByTie 113 = .ok (.istore_n 3, 1) := by decide +kernel
theorem dX3_isAheadByTie_114 : decode cX3_isAheadByTie 114 = .ok (.iload_n 3, 1) := by decide +kernel
theorem dX3_isAheadByTie_115 : decode cX3_isAheadByTie 115 = .ok (.ifCond .ne 16, 3) := by decide +kernel
theorem dX3_isAheadByTie_118 : decode cX3_isAheadByTie 118 = .ok (.iload_n 1, 1) := by decide +kernel
theorem dX3_isAheadByTie_119 : decode cX3_isAheadByTie 119 = .ok (.iload_n 2, 1) := by decide +kernel
theorem dX3_isAheadByTie_120 : decode cX3_isAheadByTie 120 = .ok (.if_icmp .ge 7, 3) := by decide +kernel
theorem dX3_isAheadByTie_123 : decode cX3_isAheadByTie 123 = .ok (.iconst 1, 1) := by decide +kernel
theorem dX3_isAheadByTie_124 : decode cX3_isAheadByTie 124 = .ok (.goto 16, 3) := by decide +kernel
theorem dX3_isAheadByTie_127 : decode cX3_isAheadByTie 127 = .ok (.iconst 0, 1) := by decide +kernel
theorem dX3_isAheadByTie_128 : decode cX3_isAheadByTie 128 = .ok (.goto 12, 3) := by decide +kernel
theorem dX3_isAheadByTie_131 : decode cX3_isAheadByTie 131 = .ok (.iload_n 3, 1) := by decide +kernel
theorem dX3_isAheadByTie_132 : decode cX3_isAheadByTie 132 = .ok (.ifCond .le 7, 3) := by decide +kernel
theorem dX3_isAheadByTie_135 : decode cX3_isAheadByTie 135 = .ok (.iconst 1, 1) := by decide +kernel
theorem dX3_isAheadByTie_136 : decode cX3_isAheadByTie 136 = .ok (.goto 4, 3) := by decide +kernel
theorem dX3_isAheadByTie_139 : decode cX3_isAheadByTie 139 = .ok (.iconst 0, 1) := by decide +kernel
theorem dX3_isAheadByTie_140 : decode cX3_isAheadByTie 140 = .ok (.ireturn, 1) := by decide +kernel
theorem dX4_init_0 : decode cX4_init 0 = .ok (.aload_n 0, 1) := by decide +kernel
theorem dX4_init_1 : decode cX4_init 1 = .ok (.invokespecial 3, 3) := by decide +kernel
theorem dX4_init_4 : decode cX4_init 4 = .ok (.aload_n 0, 1) := by decide +kernel
theorem dX4_init_5 : decode cX4_init 5 = .ok (.bipush 64, 2) := by decide +kernel
theorem dX4_init_7 : decode cX4_init 7 = .ok (.newarray .byte, 2) := by decide +kernel
theorem dX4_init_9 : decode cX4_init 9 = .ok (.putfield 9, 3) := by decide +kernel
theorem dX4_init_12 : decode cX4_init 12 = .ok (.return_, 1) := by decide +kernel
theorem dX4_many_0 : decode cX4_many 0 = .ok (.aload_n 0, 1) := by decide +kernel
theorem dX4_many_1 : decode cX4_many 1 = .ok (.getfield 15, 3) := by decide +kernel
theorem dX4_many_4 : decode cX4_many 4 = .ok (.ireturn, 1) := by decide +kernel
theorem dX4_at_0 : decode cX4_at 0 = .ok (.iload_n 1, 1) := by decide +kernel
theorem dX4_at_1 : decode cX4_at 1 = .ok (.ifCond .lt 20, 3) := by decide +kernel
theorem dX4_at_4 : decode cX4_at 4 = .ok (.iload_n 1, 1) := by decide +kernel
theorem dX4_at_5 : decode cX4_at 5 = .ok (.aload_n 0, 1) := by decide +kernel
theorem dX4_at_6 : decode cX4_at 6 = .ok (.getfield 15, 3) := by decide +kernel
theorem dX4_at_9 : decode cX4_at 9 = .ok (.if_icmp .ge 12, 3) := by decide +kernel
theorem dX4_at_12 : decode cX4_at 12 = .ok (.aload_n 0, 1) := by decide +kernel
theorem dX4_at_13 : decode cX4_at 13 = .ok (.getfield 9, 3) := by decide +kernel
theorem dX4_at_16 : decode cX4_at 16 = .ok (.iload_n 1, 1) := by decide +kernel
theorem dX4_at_17 : decode cX4_at 17 = .ok (.baload, 1) := by decide +kernel
theorem dX4_at_18 : decode cX4_at 18 = .ok (.goto 4, 3) := by decide +kernel
theorem dX4_at_21 : decode cX4_at 21 = .ok (.iconst (-1), 1) := by decide +kernel
theorem dX4_at_22 : decode cX4_at 22 = .ok (.ireturn, 1) := by decide +kernel
theorem dX4_writeOf_0 : decode cX4_writeOf 0 = .ok (.aload_n 0, 1) := by decide +kernel
theorem dX4_writeOf_1 : decode cX4_writeOf 1 = .ok (.iconst 0, 1) := by decide +kernel
theorem dX4_writeOf_2 : decode cX4_writeOf 2 = .ok (.putfield 15, 3) := by decide +kernel
theorem dX4_writeOf_5 : decode cX4_writeOf 5 = .ok (.aload_n 0, 1) := by decide +kernel
theorem dX4_writeOf_6 : decode cX4_writeOf 6 = .ok (.aload_n 1, 1) := by decide +kernel
theorem dX4_writeOf_7 : decode cX4_writeOf 7 = .ok (.invokevirtual 19, 3) := by decide +kernel
theorem dX4_writeOf_10 : decode cX4_writeOf 10 = .ok (.invokevirtual 25, 3) := by decide +kernel
theorem dX4_writeOf_13 : decode cX4_writeOf 13 = .ok (.iconst 0, 1) := by decide +kernel
theorem dX4_writeOf_14 : decode cX4_writeOf 14 = .ok (.istore_n 2, 1) := by decide +kernel
theorem dX4_writeOf_15 : decode cX4_writeOf 15 = .ok (.iload_n 2, 1) := by decide +kernel
theorem dX4_writeOf_16 : decode cX4_writeOf 16 = .ok (.bipush 40, 2) := by decide +kernel
theorem dX4_writeOf_18 : decode cX4_writeOf 18 = .ok (.if_icmp .ge 43, 3) := by decide +kernel
theorem dX4_writeOf_21 : decode cX4_writeOf 21 = .ok (.aload_n 1, 1) := by decide +kernel
theorem dX4_writeOf_22 : decode cX4_writeOf 22 = .ok (.iload_n 2, 1) := by decide +kernel
theorem dX4_writeOf_23 : decode cX4_writeOf 23 = .ok (.invokevirtual 29, 3) := by decide +kernel
theorem dX4_writeOf_26 : decode cX4_writeOf 26 = .ok (.ifCond .eq 29, 3) := by decide +kernel
theorem dX4_writeOf_29 : decode cX4_writeOf 29 = .ok (.aload_n 0, 1) := by decide +kernel
theorem dX4_writeOf_30 : decode cX4_writeOf 30 = .ok (.bipush 32, 2) := by decide +kernel
theorem dX4_writeOf_32 : decode cX4_writeOf 32 = .ok (.invokevirtual 33, 3) := by decide +kernel
theorem dX4_writeOf_35 : decode cX4_writeOf 35 = .ok (.aload_n 0, 1) := by decide +kernel
theorem dX4_writeOf_36 : decode cX4_writeOf 36 = .ok (.iload_n 2, 1) := by decide +kernel
theorem dX4_writeOf_37 : decode cX4_writeOf 37 = .ok (.invokevirtual 37, 3) := by decide +kernel
theorem dX4_writeOf_40 : decode cX4_writeOf 40 = .ok (.aload_n 0, 1) := by decide +kernel
theorem dX4_writeOf_41 : decode cX4_writeOf 41 = .ok (.bipush 61, 2) := by decide +kernel
theorem dX4_writeOf_43 : decode cX4_writeOf 43 = .ok (.invokevirtual 33, 3) := by decide +kernel
theorem dX4_writeOf_46 : decode cX4_writeOf 46 = .ok (.aload_n 0, 1) := by decide +kernel
theorem dX4_writeOf_47 : decode cX4_writeOf 47 = .ok (.aload_n 1, 1) := by decide +kernel
theorem dX4_writeOf_48 : decode cX4_writeOf 48 = .ok (.iload_n 2, 1) := by decide +kernel
theorem dX4_writeOf_49 : decode cX4_writeOf 49 = .ok (.invokevirtual 40, 3) := by decide +kernel
theorem dX4_writeOf_52 : decode cX4_writeOf 52 = .ok (.invokevirtual 25, 3) := by decide +kernel
theorem dX4_writeOf_55 : decode cX4_writeOf 55 = .ok (.iinc 2 1, 3) := by decide +kernel
theorem dX4_writeOf_58 : decode cX4_writeOf 58 = .ok (.goto (-43), 3) := by decide +kernel
theorem dX4_writeOf_61 : decode cX4_writeOf 61 = .ok (.return_, 1) := by decide +kernel
theorem dX4_putRow_0 : decode cX4_putRow 0 = .ok (.iconst 0, 1) := by decide +kernel
theorem dX4_putRow_1 : decode cX4_putRow 1 = .ok (.istore_n 2, 1) := by decide +kernel
theorem dX4_putRow_2 : decode cX4_putRow 2 = .ok (.iload_n 2, 1) := by decide +kernel
theorem dX4_putRow_3 : decode cX4_putRow 3 = .ok (.aload_n 1, 1) := by decide +kernel
theorem dX4_putRow_4 : decode cX4_putRow 4 = .ok (.invokevirtual 44, 3) := by decide +kernel
theorem dX4_putRow_7 : decode cX4_putRow 7 = .ok (.if_icmp .ge 52, 3) := by decide +kernel
theorem dX4_putRow_10 : decode cX4_putRow 10 = .ok (.aload_n 1, 1) := by decide +kernel
theorem dX4_putRow_11 : decode cX4_putRow 11 = .ok (.iload_n 2, 1) := by decide +kernel
theorem dX4_putRow_12 : decode cX4_putRow 12 = .ok (.invokevirtual 49, 3) := by decide +kernel
theorem dX4_putRow_15 : decode cX4_putRow 15 = .ok (.istore_n 3, 1) := by decide +kernel
theorem dX4_putRow_16 : decode cX4_putRow 16 = .ok (.iload_n 3, 1) := by decide +kernel
theorem dX4_putRow_17 : decode cX4_putRow 17 = .ok (.bipush 26, 2) := by decide +kernel
theorem dX4_putRow_19 : decode cX4_putRow 19 = .ok (.if_icmp .ge 14, 3) := by decide +kernel
theorem dX4_putRow_22 : decode cX4_putRow 22 = .ok (.aload_n 0, 1) := by decide +kernel
theorem dX4_putRow_23 : decode cX4_putRow 23 = .ok (.bipush 97, 2) := by decide +kernel
theorem dX4_putRow_25 : decode cX4_putRow 25 = .ok (.iload_n 3, 1) := by decide +kernel
theorem dX4_putRow_26 : decode cX4_putRow 26 = .ok (.iadd, 1) := by decide +kernel
theorem dX4_putRow_27 : decode cX4_putRow 27 = .ok (.invokevirtual 33, 3) := by decide +kernel
theorem dX4_putRow_30 : decode cX4_putRow 30 = .ok (.goto 23, 3) := by decide +kernel
theorem dX4_putRow_33 : decode cX4_putRow 33 = .ok (.aload_n 0, 1) := by decide +kernel
theorem dX4_putRow_34 : decode cX4_putRow 34 = .ok (.bipush 40, 2) := by decide +kernel
theorem dX4_putRow_36 : decode cX4_putRow 36 = .ok (.invokevirtual 33, 3) := by decide +kernel
theorem dX4_putRow_39 : decode cX4_putRow 39 = .ok (.aload_n 0, 1) := by decide +kernel
theorem dX4_putRow_40 : decode cX4_putRow 40 = .ok (.iload_n 3, 1) := by decide +kernel
theorem dX4_putRow_41 : decode cX4_putRow 41 = .ok (.bipush 26, 2) := by decide +kernel
theorem dX4_putRow_43 : decode cX4_putRow 43 = .ok (.isub, 1) := by decide +kernel
theorem dX4_putRow_44 : decode cX4_putRow 44 = .ok (.invokevirtual 37, 3) := by decide +kernel
theorem dX4_putRow_47 : decode cX4_putRow 47 = .ok (.aload_n 0, 1) := by decide +kernel
theorem dX4_putRow_48 : decode cX4_putRow 48 = .ok (.bipush 41, 2) := by decide +kernel
theorem dX4_putRow_50 : decode cX4_putRow 50 = .ok (.invokevirtual 33, 3) := by decide +kernel
theorem dX4_putRow_53 : decode cX4_putRow 53 = .ok (.iinc 2 1, 3) := by decide +kernel
theorem dX4_putRow_56 : decode cX4_putRow 56 = .ok (.goto (-54), 3) := by decide +kernel
theorem dX4_putRow_59 : decode cX4_putRow 59 = .ok (.return_, 1) := by decide +kernel
theorem dX4_putNumber_0 : decode cX4_putNumber 0 = .ok (.iload_n 1, 1) := by decide +kernel
theorem dX4_putNumber_1 : decode cX4_putNumber 1 = .ok (.bipush 9, 2) := by decide +kernel
theorem dX4_putNumber_3 : decode cX4_putNumber 3 = .ok (.if_icmp .le 14, 3) := by decide +kernel
theorem dX4_putNumber_6 : decode cX4_putNumber 6 = .ok (.aload_n 0, 1) := by decide +kernel
theorem dX4_putNumber_7 : decode cX4_putNumber 7 = .ok (.bipush 48, 2) := by decide +kernel
theorem dX4_putNumber_9 : decode cX4_putNumber 9 = .ok (.iload_n 1, 1) := by decide +kernel
theorem dX4_putNumber_10 : decode cX4_putNumber 10 = .ok (.bipush 10, 2) := by decide +kernel
theorem dX4_putNumber_12 : decode cX4_putNumber 12 = .ok (.idiv, 1) := by decide +kernel
theorem dX4_putNumber_13 : decode cX4_putNumber 13 = .ok (.iadd, 1) := by decide +kernel
theorem dX4_putNumber_14 : decode cX4_putNumber 14 = .ok (.invokevirtual 33, 3) := by decide +kernel
theorem dX4_putNumber_17 : decode cX4_putNumber 17 = .ok (.aload_n 0, 1) := by decide +kernel
theorem dX4_putNumber_18 : decode cX4_putNumber 18 = .ok (.bipush 48, 2) := by decide +kernel
theorem dX4_putNumber_20 : decode cX4_putNumber 20 = .ok (.iload_n 1, 1) := by decide +kernel
theorem dX4_putNumber_21 : decode cX4_putNumber 21 = .ok (.bipush 10, 2) := by decide +kernel
theorem dX4_putNumber_23 : decode cX4_putNumber 23 = .ok (.irem, 1) := by decide +kernel
theorem dX4_putNumber_24 : decode cX4_putNumber 24 = .ok (.iadd, 1) := by decide +kernel
theorem dX4_putNumber_25 : decode cX4_putNumber 25 = .ok (.invokevirtual 33, 3) := by decide +kernel
theorem dX4_putNumber_28 : decode cX4_putNumber 28 = .ok (.return_, 1) := by decide +kernel
theorem dX4_put_0 : decode cX4_put 0 = .ok (.aload_n 0, 1) := by decide +kernel
theorem dX4_put_1 : decode cX4_put 1 = .ok (.getfield 15, 3) := by decide +kernel
theorem dX4_put_4 : decode cX4_put 4 = .ok (.aload_n 0, 1) := by decide +kernel
theorem dX4_put_5 : decode cX4_put 5 = .ok (.getfield 9, 3) := by decide +kernel
theorem dX4_put_8 : decode cX4_put 8 = .ok (.arraylength, 1) := by decide +kernel
theorem dX4_put_9 : decode cX4_put 9 = .ok (.if_icmp .lt 42, 3) := by decide +kernel
theorem dX4_put_12 : decode cX4_put 12 = .ok (.aload_n 0, 1) := by decide +kernel
theorem dX4_put_13 : decode cX4_put 13 = .ok (.getfield 9, 3) := by decide +kernel
theorem dX4_put_16 : decode cX4_put 16 = .ok (.arraylength, 1) := by decide +kernel
theorem dX4_put_17 : decode cX4_put 17 = .ok (.ldc 53, 2) := by decide +kernel
theorem dX4_put_19 : decode cX4_put 19 = .ok (.if_icmp .ge 32, 3) := by decide +kernel
theorem dX4_put_22 : decode cX4_put 22 = .ok (.iconst 2, 1) := by decide +kernel
theorem dX4_put_23 : decode cX4_put 23 = .ok (.aload_n 0, 1) := by decide +kernel
theorem dX4_put_24 : decode cX4_put 24 = .ok (.getfield 9, 3) := by decide +kernel
theorem dX4_put_27 : decode cX4_put 27 = .ok (.arraylength, 1) := by decide +kernel
theorem dX4_put_28 : decode cX4_put 28 = .ok (.imul, 1) := by decide +kernel
theorem dX4_put_29 : decode cX4_put 29 = .ok (.newarray .byte, 2) := by decide +kernel
theorem dX4_put_31 : decode cX4_put 31 = .ok (.astore_n 2, 1) := by decide +kernel
theorem dX4_put_32 : decode cX4_put 32 = .ok (.aload_n 0, 1) := by decide +kernel
theorem dX4_put_33 : decode cX4_put 33 = .ok (.getfield 9, 3) := by decide +kernel
theorem dX4_put_36 : decode cX4_put 36 = .ok (.iconst 0, 1) := by decide +kernel
theorem dX4_put_37 : decode cX4_put 37 = .ok (.aload_n 2, 1) := by decide +kernel
theorem dX4_put_38 : decode cX4_put 38 = .ok (.iconst 0, 1) := by decide +kernel
theorem dX4_put_39 : decode cX4_put 39 = .ok (.aload_n 0, 1) := by decide +kernel
theorem dX4_put_40 : decode cX4_put 40 = .ok (.getfield 15, 3) := by decide +kernel
theorem dX4_put_43 : decode cX4_put 43 = .ok (.invokestatic 54, 3) := by decide +kernel
theorem dX4_put_46 : decode cX4_put 46 = .ok (.aload_n 0, 1) := by decide +kernel
theorem dX4_put_47 : decode cX4_put 47 = .ok (.aload_n 2, 1) := by decide +kernel
theorem dX4_put_48 : decode cX4_put 48 = .ok (.putfield 9, 3) := by decide +kernel
theorem dX4_put_51 : decode cX4_put 51 = .ok (.aload_n 0, 1) := by decide +kernel
theorem dX4_put_52 : decode cX4_put 52 = .ok (.getfield 15, 3) := by decide +kernel
theorem dX4_put_55 : decode cX4_put 55 = .ok (.aload_n 0, 1) := by decide +kernel
theorem dX4_put_56 : decode cX4_put 56 = .ok (.getfield 9, 3) := by decide +kernel
theorem dX4_put_59 : decode cX4_put 59 = .ok (.arraylength, 1) := by decide +kernel
theorem dX4_put_60 : decode cX4_put 60 = .ok (.if_icmp .ge 24, 3) := by decide +kernel
theorem dX4_put_63 : decode cX4_put 63 = .ok (.aload_n 0, 1) := by decide +kernel
theorem dX4_put_64 : decode cX4_put 64 = .ok (.getfield 9, 3) := by decide +kernel
theorem dX4_put_67 : decode cX4_put 67 = .ok (.aload_n 0, 1) := by decide +kernel
theorem dX4_put_68 : decode cX4_put 68 = .ok (.getfield 15, 3) := by decide +kernel
theorem dX4_put_71 : decode cX4_put 71 = .ok (.iload_n 1, 1) := by decide +kernel
theorem dX4_put_72 : decode cX4_put 72 = .ok (.i2b, 1) := by decide +kernel
theorem dX4_put_73 : decode cX4_put 73 = .ok (.bastore, 1) := by decide +kernel
theorem dX4_put_74 : decode cX4_put 74 = .ok (.aload_n 0, 1) := by decide +kernel
theorem dX4_put_75 : decode cX4_put 75 = .ok (.dup, 1) := by decide +kernel
theorem dX4_put_76 : decode cX4_put 76 = .ok (.getfield 15, 3) := by decide +kernel
theorem dX4_put_79 : decode cX4_put 79 = .ok (.iconst 1, 1) := by decide +kernel
theorem dX4_put_80 : decode cX4_put 80 = .ok (.iadd, 1) := by decide +kernel
theorem dX4_put_81 : decode cX4_put 81 = .ok (.putfield 15, 3) := by decide +kernel
theorem dX4_put_84 : decode cX4_put 84 = .ok (.return_, 1) := by decide +kernel
theorem dX5_init_0 : decode cX5_init 0 = .ok (.aload_n 0, 1) := by decide +kernel
theorem dX5_init_1 : decode cX5_init 1 = .ok (.invokespecial 3, 3) := by decide +kernel
theorem dX5_init_4 : decode cX5_init 4 = .ok (.aload_n 0, 1) := by decide +kernel
theorem dX5_init_5 : decode cX5_init 5 = .ok (.iconst 0, 1) := by decide +kernel
theorem dX5_init_6 : decode cX5_init 6 = .ok (.newarray .int, 2) := by decide +kernel
theorem dX5_init_8 : decode cX5_init 8 = .ok (.putfield 9, 3) := by decide +kernel
theorem dX5_init_11 : decode cX5_init 11 = .ok (.return_, 1) := by decide +kernel
theorem dX5_many_0 : decode cX5_many 0 = .ok (.aload_n 0, 1) := by decide +kernel
theorem dX5_many_1 : decode cX5_many 1 = .ok (.getfield 15, 3) := by decide +kernel
theorem dX5_many_4 : decode cX5_many 4 = .ok (.ireturn, 1) := by decide +kernel
theorem dX5_at_0 : decode cX5_at 0 = .ok (.iload_n 1, 1) := by decide +kernel
theorem dX5_at_1 : decode cX5_at 1 = .ok (.ifCond .lt 20, 3) := by decide +kernel
theorem dX5_at_4 : decode cX5_at 4 = .ok (.iload_n 1, 1) := by decide +kernel
theorem dX5_at_5 : decode cX5_at 5 = .ok (.aload_n 0, 1) := by decide +kernel
theorem dX5_at_6 : decode cX5_at 6 = .ok (.getfield 15, 3) := by decide +kernel
theorem dX5_at_9 : decode cX5_at 9 = .ok (.if_icmp .ge 12, 3) := by decide +kernel
theorem dX5_at_12 : decode cX5_at 12 = .ok (.aload_n 0, 1) := by decide +kernel
theorem dX5_at_13 : decode cX5_at 13 = .ok (.getfield 9, 3) := by decide +kernel
theorem dX5_at_16 : decode cX5_at 16 = .ok (.iload_n 1, 1) := by decide +kernel
theorem dX5_at_17 : decode cX5_at 17 = .ok (.iaload, 1) := by decide +kernel
theorem dX5_at_18 : decode cX5_at 18 = .ok (.goto 4, 3) := by decide +kernel
theorem dX5_at_21 : decode cX5_at 21 = .ok (.iconst (-1), 1) := by decide +kernel
theorem dX5_at_22 : decode cX5_at 22 = .ok (.ireturn, 1) := by decide +kernel
theorem dX5_clear_0 : decode cX5_clear 0 = .ok (.aload_n 0, 1) := by decide +kernel
theorem dX5_clear_1 : decode cX5_clear 1 = .ok (.iconst 0, 1) := by decide +kernel
theorem dX5_clear_2 : decode cX5_clear 2 = .ok (.putfield 15, 3) := by decide +kernel
theorem dX5_clear_5 : decode cX5_clear 5 = .ok (.return_, 1) := by decide +kernel
theorem dX5_put_0 : decode cX5_put 0 = .ok (.aload_n 0, 1) := by decide +kernel
theorem dX5_put_1 : decode cX5_put 1 = .ok (.aload_n 0, 1) := by decide +kernel
theorem dX5_put_2 : decode cX5_put 2 = .ok (.getfield 15, 3) := by decide +kernel
theorem dX5_put_5 : decode cX5_put 5 = .ok (.iconst 1, 1) := by decide +kernel
theorem dX5_put_6 : decode cX5_put 6 = .ok (.iadd, 1) := by decide +kernel
theorem dX5_put_7 : decode cX5_put 7 = .ok (.invokevirtual 19, 3) := by decide +kernel
theorem dX5_put_10 : decode cX5_put 10 = .ok (.ifCond .eq 23, 3) := by decide +kernel
theorem dX5_put_13 : decode cX5_put 13 = .ok (.aload_n 0, 1) := by decide +kernel
theorem dX5_put_14 : decode cX5_put 14 = .ok (.getfield 9, 3) := by decide +kernel
theorem dX5_put_17 : decode cX5_put 17 = .ok (.aload_n 0, 1) := by decide +kernel
theorem dX5_put_18 : decode cX5_put 18 = .ok (.getfield 15, 3) := by decide +kernel
theorem dX5_put_21 : decode cX5_put 21 = .ok (.iload_n 1, 1) := by decide +kernel
theorem dX5_put_22 : decode cX5_put 22 = .ok (.iastore, 1) := by decide +kernel
theorem dX5_put_23 : decode cX5_put 23 = .ok (.aload_n 0, 1) := by decide +kernel
theorem dX5_put_24 : decode cX5_put 24 = .ok (.dup, 1) := by decide +kernel
theorem dX5_put_25 : decode cX5_put 25 = .ok (.getfield 15, 3) := by decide +kernel
theorem dX5_put_28 : decode cX5_put 28 = .ok (.iconst 1, 1) := by decide +kernel
theorem dX5_put_29 : decode cX5_put 29 = .ok (.iadd, 1) := by decide +kernel
theorem dX5_put_30 : decode cX5_put 30 = .ok (.putfield 15, 3) := by decide +kernel
theorem dX5_put_33 : decode cX5_put 33 = .ok (.return_, 1) := by decide +kernel
theorem dX5_putAll_0 : decode cX5_putAll 0 = .ok (.aload_n 0, 1) := by decide +kernel
theorem dX5_putAll_1 : decode cX5_putAll 1 = .ok (.aload_n 0, 1) := by decide +kernel
theorem dX5_putAll_2 : decode cX5_putAll 2 = .ok (.getfield 15, 3) := by decide +kernel
theorem dX5_putAll_5 : decode cX5_putAll 5 = .ok (.aload_n 1, 1) := by decide +kernel
theorem dX5_putAll_6 : decode cX5_putAll 6 = .ok (.getfield 15, 3) := by decide +kernel
theorem dX5_putAll_9 : decode cX5_putAll 9 = .ok (.iadd, 1) := by decide +kernel
theorem dX5_putAll_10 : decode cX5_putAll 10 = .ok (.invokevirtual 19, 3) := by decide +kernel
theorem dX5_putAll_13 : decode cX5_putAll 13 = .ok (.ifCond .eq 36, 3) := by decide +kernel
theorem dX5_putAll_16 : decode cX5_putAll 16 = .ok (.aload_n 1, 1) := by decide +kernel
theorem dX5_putAll_17 : decode cX5_putAll 17 = .ok (.getfield 9, 3) := by decide +kernel
theorem dX5_putAll_20 : decode cX5_putAll 20 = .ok (.iconst 0, 1) := by decide +kernel
theorem dX5_putAll_21 : decode cX5_putAll 21 = .ok (.aload_n 0, 1) := by decide +kernel
theorem dX5_putAll_22 : decode cX5_putAll 22 = .ok (.getfield 9, 3) := by decide +kernel
theorem dX5_putAll_25 : decode cX5_putAll 25 = .ok (.aload_n 0, 1) := by decide +kernel
theorem dX5_putAll_26 : decode cX5_putAll 26 = .ok (.getfield 15, 3) := by decide +kernel
theorem dX5_putAll_29 : decode cX5_putAll 29 = .ok (.aload_n 1, 1) := by decide +kernel
theorem dX5_putAll_30 : decode cX5_putAll 30 = .ok (.getfield 15, 3) := by decide +kernel
theorem dX5_putAll_33 : decode cX5_putAll 33 = .ok (.invokestatic 23, 3) := by decide +kernel
theorem dX5_putAll_36 : decode cX5_putAll 36 = .ok (.aload_n 0, 1) := by decide +kernel
theorem dX5_putAll_37 : decode cX5_putAll 37 = .ok (.dup, 1) := by decide +kernel
theorem dX5_putAll_38 : decode cX5_putAll 38 = .ok (.getfield 15, 3) := by decide +kernel
theorem dX5_putAll_41 : decode cX5_putAll 41 = .ok (.aload_n 1, 1) := by decide +kernel
theorem dX5_putAll_42 : decode cX5_putAll 42 = .ok (.getfield 15, 3) := by decide +kernel
theorem dX5_putAll_45 : decode cX5_putAll 45 = .ok (.iadd, 1) := by decide +kernel
theorem dX5_putAll_46 : decode cX5_putAll 46 = .ok (.putfield 15, 3) := by decide +kernel
theorem dX5_putAll_49 : decode cX5_putAll 49 = .ok (.return_, 1) := by decide +kernel
theorem dX5_drop_0 : decode cX5_drop 0 = .ok (.aload_n 0, 1) := by decide +kernel
theorem dX5_drop_1 : decode cX5_drop 1 = .ok (.iload_n 1, 1) := by decide +kernel
theorem dX5_drop_2 : decode cX5_drop 2 = .ok (.aload_n 0, 1) := by decide +kernel
theorem dX5_drop_3 : decode cX5_drop 3 = .ok (.getfield 15, 3) := by decide +kernel
theorem dX5_drop_6 : decode cX5_drop 6 = .ok (.if_icmp .ge 12, 3) := by decide +kernel
theorem dX5_drop_9 : decode cX5_drop 9 = .ok (.aload_n 0, 1) := by decide +kernel
theorem dX5_drop_10 : decode cX5_drop 10 = .ok (.getfield 15, 3) := by decide +kernel
theorem dX5_drop_13 : decode cX5_drop 13 = .ok (.iload_n 1, 1) := by decide +kernel
theorem dX5_drop_14 : decode cX5_drop 14 = .ok (.isub, 1) := by decide +kernel
theorem dX5_drop_15 : decode cX5_drop 15 = .ok (.goto 4, 3) := by decide +kernel
theorem dX5_drop_18 : decode cX5_drop 18 = .ok (.iconst 0, 1) := by decide +kernel
theorem dX5_drop_19 : decode cX5_drop 19 = .ok (.putfield 15, 3) := by decide +kernel
theorem dX5_drop_22 : decode cX5_drop 22 = .ok (.return_, 1) := by decide +kernel
theorem dX5_takeFrom_0 : decode cX5_takeFrom 0 = .ok (.aload_n 0, 1) := by decide +kernel
theorem dX5_takeFrom_1 : decode cX5_takeFrom 1 = .ok (.iconst 0, 1) := by decide +kernel
theorem dX5_takeFrom_2 : decode cX5_takeFrom 2 = .ok (.putfield 15, 3) := by decide +kernel
theorem dX5_takeFrom_5 : decode cX5_takeFrom 5 = .ok (.aload_n 0, 1) := by decide +kernel
theorem dX5_takeFrom_6 : decode cX5_takeFrom 6 = .ok (.aload_n 1, 1) := by decide +kernel
theorem dX5_takeFrom_7 : decode cX5_takeFrom 7 = .ok (.invokevirtual 29, 3) := by decide +kernel
theorem dX5_takeFrom_10 : decode cX5_takeFrom 10 = .ok (.return_, 1) := by decide +kernel
theorem dX5_isPair_0 : decode cX5_isPair 0 = .ok (.aload_n 0, 1) := by decide +kernel
theorem dX5_isPair_1 : decode cX5_isPair 1 = .ok (.getfield 15, 3) := by decide +kernel
theorem dX5_isPair_4 : decode cX5_isPair 4 = .ok (.iconst 2, 1) := by decide +kernel
theorem dX5_isPair_5 : decode cX5_isPair 5 = .ok (.if_icmp .ne 27, 3) := by decide +kernel
theorem dX5_isPair_8 : decode cX5_isPair 8 = .ok (.aload_n 0, 1) := by decide +kernel
theorem dX5_isPair_9 : decode cX5_isPair 9 = .ok (.getfield 9, 3) := by decide +kernel
theorem dX5_isPair_12 : decode cX5_isPair 12 = .ok (.iconst 0, 1) := by decide +kernel
theorem dX5_isPair_13 : decode cX5_isPair 13 = .ok (.iaload, 1) := by decide +kernel
theorem dX5_isPair_14 : decode cX5_isPair 14 = .ok (.iload_n 1, 1) := by decide +kernel
theorem dX5_isPair_15 : decode cX5_isPair 15 = .ok (.if_icmp .ne 17, 3) := by decide +kernel
theorem dX5_isPair_18 : decode cX5_isPair 18 = .ok (.aload_n 0, 1) := by decide +kernel
theorem dX5_isPair_19 : decode cX5_isPair 19 = .ok (.getfield 9, 3) := by decide +kernel
theorem dX5_isPair_22 : decode cX5_isPair 22 = .ok (.iconst 1, 1) := by decide +kernel
theorem dX5_isPair_23 : decode cX5_isPair 23 = .ok (.iaload, 1) := by decide +kernel
theorem dX5_isPair_24 : decode cX5_isPair 24 = .ok (.iload_n 2, 1) := by decide +kernel
theorem dX5_isPair_25 : decode cX5_isPair 25 = .ok (.if_icmp .ne 7, 3) := by decide +kernel
theorem dX5_isPair_28 : decode cX5_isPair 28 = .ok (.iconst 1, 1) := by decide +kernel
theorem dX5_isPair_29 : decode cX5_isPair 29 = .ok (.goto 4, 3) := by decide +kernel
theorem dX5_isPair_32 : decode cX5_isPair 32 = .ok (.iconst 0, 1) := by decide +kernel
theorem dX5_isPair_33 : decode cX5_isPair 33 = .ok (.ireturn, 1) := by decide +kernel
theorem dX5_timesOf_0 : decode cX5_timesOf 0 = .ok (.iconst 0, 1) := by decide +kernel
theorem dX5_timesOf_1 : decode cX5_timesOf 1 = .ok (.istore_n 2, 1) := by decide +kernel
theorem dX5_timesOf_2 : decode cX5_timesOf 2 = .ok (.iconst 0, 1) := by decide +kernel
theorem dX5_timesOf_3 : decode cX5_timesOf 3 = .ok (.istore_n 3, 1) := by decide +kernel
theorem dX5_timesOf_4 : decode cX5_timesOf 4 = .ok (.iload_n 3, 1) := by decide +kernel
theorem dX5_timesOf_5 : decode cX5_timesOf 5 = .ok (.aload_n 0, 1) := by decide +kernel
theorem dX5_timesOf_6 : decode cX5_timesOf 6 = .ok (.getfield 15, 3) := by decide +kernel
theorem dX5_timesOf_9 : decode cX5_timesOf 9 = .ok (.if_icmp .ge 22, 3) := by decide +kernel
theorem dX5_timesOf_12 : decode cX5_timesOf 12 = .ok (.aload_n 0, 1) := by decide +kernel
theorem dX5_timesOf_13 : decode cX5_timesOf 13 = .ok (.getfield 9, 3) := by decide +kernel
theorem dX5_timesOf_16 : decode cX5_timesOf 16 = .ok (.iload_n 3, 1) := by decide +kernel
theorem dX5_timesOf_17 : decode cX5_timesOf 17 = .ok (.iaload, 1) := by decide +kernel
theorem dX5_timesOf_18 : decode cX5_timesOf 18 = .ok (.iload_n 1, 1) := by decide +kernel
theorem dX5_timesOf_19 : decode cX5_timesOf 19 = .ok (.if_icmp .ne 6, 3) := by decide +kernel
theorem dX5_timesOf_22 : decode cX5_timesOf 22 = .ok (.iinc 2 1, 3) := by decide +kernel
theorem dX5_timesOf_25 : decode cX5_timesOf 25 = .ok (.iinc 3 1, 3) := by decide +kernel
theorem dX5_timesOf_28 : decode cX5_timesOf 28 = .ok (.goto (-24), 3) := by decide +kernel
theorem dX5_timesOf_31 : decode cX5_timesOf 31 = .ok (.iload_n 2, 1) := by decide +kernel
theorem dX5_timesOf_32 : decode cX5_timesOf 32 = .ok (.ireturn, 1) := by decide +kernel
theorem dX5_join_0 : decode cX5_join 0 = .ok (.iconst 0, 1) := by decide +kernel
theorem dX5_join_1 : decode cX5_join 1 = .ok (.istore 4, 2) := by decide +kernel
theorem dX5_join_3 : decode cX5_join 3 = .ok (.iconst 0, 1) := by decide +kernel
theorem dX5_join_4 : decode cX5_join 4 = .ok (.istore 5, 2) := by decide +kernel
theorem dX5_join_6 : decode cX5_join 6 = .ok (.iconst 0, 1) := by decide +kernel
theorem dX5_join_7 : decode cX5_join 7 = .ok (.istore 6, 2) := by decide +kernel
theorem dX5_join_9 : decode cX5_join 9 = .ok (.iload 6, 2) := by decide +kernel
theorem dX5_join_11 : decode cX5_join 11 = .ok (.aload_n 0, 1) := by decide +kernel
theorem dX5_join_12 : decode cX5_join 12 = .ok (.getfield 15, 3) := by decide +kernel
theorem dX5_join_15 : decode cX5_join 15 = .ok (.if_icmp .ge 78, 3) := by decide +kernel
theorem dX5_join_18 : decode cX5_join 18 = .ok (.aload_n 0, 1) := by decide +kernel
theorem dX5_join_19 : decode cX5_join 19 = .ok (.getfield 9, 3) := by decide +kernel
theorem dX5_join_22 : decode cX5_join 22 = .ok (.iload 6, 2) := by decide +kernel
theorem dX5_join_24 : decode cX5_join 24 = .ok (.iaload, 1) := by decide +kernel
theorem dX5_join_25 : decode cX5_join 25 = .ok (.iload_n 1, 1) := by decide +kernel
theorem dX5_join_26 : decode cX5_join 26 = .ok (.if_icmp .ne 44, 3) := by decide +kernel
theorem dX5_join_29 : decode cX5_join 29 = .ok (.iload 6, 2) := by decide +kernel
theorem dX5_join_31 : decode cX5_join 31 = .ok (.iconst 1, 1) := by decide +kernel
theorem dX5_join_32 : decode cX5_join 32 = .ok (.iadd, 1) := by decide +kernel
theorem dX5_join_33 : decode cX5_join 33 = .ok (.aload_n 0, 1) := by decide +kernel
theorem dX5_join_34 : decode cX5_join 34 = .ok (.getfield 15, 3) := by decide +kernel
theorem dX5_join_37 : decode cX5_join 37 = .ok (.if_icmp .ge 33, 3) := by decide +kernel
theorem dX5_join_40 : decode cX5_join 40 = .ok (.aload_n 0, 1) := by decide +kernel
theorem dX5_join_41 : decode cX5_join 41 = .ok (.getfield 9, 3) := by decide +kernel
theorem dX5_join_44 : decode cX5_join 44 = .ok (.iload 6, 2) := by decide +kernel
theorem dX5_join_46 : decode cX5_join 46 = .ok (.iconst 1, 1) := by decide +kernel
theorem dX5_join_47 : decode cX5_join 47 = .ok (.iadd, 1) := by decide +kernel
theorem dX5_join_48 : decode cX5_join 48 = .ok (.iaload, 1) := by decide +kernel
theorem dX5_join_49 : decode cX5_join 49 = .ok (.iload_n 2, 1) := by decide +kernel
theorem dX5_join_50 : decode cX5_join 50 = .ok (.if_icmp .ne 20, 3) := by decide +kernel
theorem dX5_join_53 : decode cX5_join 53 = .ok (.aload_n 0, 1) := by decide +kernel
theorem dX5_join_54 : decode cX5_join 54 = .ok (.getfield 9, 3) := by decide +kernel
theorem dX5_join_57 : decode cX5_join 57 = .ok (.iload 5, 2) := by decide +kernel
theorem dX5_join_59 : decode cX5_join 59 = .ok (.iload_n 3, 1) := by decide +kernel
theorem dX5_join_60 : decode cX5_join 60 = .ok (.iastore, 1) := by decide +kernel
theorem dX5_join_61 : decode cX5_join 61 = .ok (.iinc 6 1, 3) := by decide +kernel
theorem dX5_join_64 : decode cX5_join 64 = .ok (.iinc 4 1, 3) := by decide +kernel
theorem dX5_join_67 : decode cX5_join 67 = .ok (.goto 17, 3) := by decide +kernel
theorem dX5_join_70 : decode cX5_join 70 = .ok (.aload_n 0, 1) := by decide +kernel
theorem dX5_join_71 : decode cX5_join 71 = .ok (.getfield 9, 3) := by decide +kernel
theorem dX5_join_74 : decode cX5_join 74 = .ok (.iload 5, 2) := by decide +kernel
theorem dX5_join_76 : decode cX5_join 76 = .ok (.aload_n 0, 1) := by decide +kernel
theorem dX5_join_77 : decode cX5_join 77 = .ok (.getfield 9, 3) := by decide +kernel
theorem dX5_join_80 : decode cX5_join 80 = .ok (.iload 6, 2) := by decide +kernel
theorem dX5_join_82 : decode cX5_join 82 = .ok (.iaload, 1) := by decide +kernel
theorem dX5_join_83 : decode cX5_join 83 = .ok (.iastore, 1) := by decide +kernel
theorem dX5_join_84 : decode cX5_join 84 = .ok (.iinc 5 1, 3) := by decide +kernel
theorem dX5_join_87 : decode cX5_join 87 = .ok (.iinc 6 1, 3) := by decide +kernel
theorem dX5_join_90 : decode cX5_join 90 = .ok (.goto (-81), 3) := by decide +kernel
theorem dX5_join_93 : decode cX5_join 93 = .ok (.aload_n 0, 1) := by decide +kernel
theorem dX5_join_94 : decode cX5_join 94 = .ok (.iload 5, 2) := by decide +kernel
theorem dX5_join_96 : decode cX5_join 96 = .ok (.putfield 15, 3) := by decide +kernel
theorem dX5_join_99 : decode cX5_join 99 = .ok (.iload 4, 2) := by decide +kernel
theorem dX5_join_101 : decode cX5_join 101 = .ok (.ireturn, 1) := by decide +kernel
theorem dX5_open_0 : decode cX5_open 0 = .ok (.aload_n 0, 1) := by decide +kernel
theorem dX5_open_1 : decode cX5_open 1 = .ok (.iload_n 1, 1) := by decide +kernel
theorem dX5_open_2 : decode cX5_open 2 = .ok (.invokevirtual 33, 3) := by decide +kernel
theorem dX5_open_5 : decode cX5_open 5 = .ok (.istore_n 3, 1) := by decide +kernel
theorem dX5_open_6 : decode cX5_open 6 = .ok (.aload_n 0, 1) := by decide +kernel
theorem dX5_open_7 : decode cX5_open 7 = .ok (.getfield 15, 3) := by decide +kernel
theorem dX5_open_10 : decode cX5_open 10 = .ok (.iload_n 3, 1) := by decide +kernel
theorem dX5_open_11 : decode cX5_open 11 = .ok (.aload_n 2, 1) := by decide +kernel
theorem dX5_open_12 : decode cX5_open 12 = .ok (.getfield 15, 3) := by decide +kernel
theorem dX5_open_15 : decode cX5_open 15 = .ok (.iconst 1, 1) := by decide +kernel
theorem dX5_open_16 : decode cX5_open 16 = .ok (.isub, 1) := by decide +kernel
theorem dX5_open_17 : decode cX5_open 17 = .ok (.imul, 1) := by decide +kernel
theorem dX5_open_18 : decode cX5_open 18 = .ok (.iadd, 1) := by decide +kernel
theorem dX5_open_19 : decode cX5_open 19 = .ok (.istore 4, 2) := by decide +kernel
theorem dX5_open_21 : decode cX5_open 21 = .ok (.iload_n 3, 1) := by decide +kernel
theorem dX5_open_22 : decode cX5_open 22 = .ok (.ifCond .eq 19, 3) := by decide +kernel
theorem dX5_open_25 : decode cX5_open 25 = .ok (.aload_n 2, 1) := by decide +kernel
theorem dX5_open_26 : decode cX5_open 26 = .ok (.getfield 15, 3) := by decide +kernel
theorem dX5_open_29 : decode cX5_open 29 = .ok (.ifCond .eq 12, 3) := by decide +kernel
theorem dX5_open_32 : decode cX5_open 32 = .ok (.aload_n 0, 1) := by decide +kernel
theorem dX5_open_33 : decode cX5_open 33 = .ok (.iload 4, 2) := by decide +kernel
theorem dX5_open_35 : decode cX5_open 35 = .ok (.invokevirtual 19, 3) := by decide +kernel
theorem dX5_open_38 : decode cX5_open 38 = .ok (.ifCond .ne 5, 3) := by decide +kernel
theorem dX5_open_41 : decode cX5_open 41 = .ok (.iconst 0, 1) := by decide +kernel
theorem dX5_open_42 : decode cX5_open 42 = .ok (.ireturn, 1) := by decide +kernel
theorem dX5_open_43 : decode cX5_open 43 = .ok (.iload 4, 2) := by decide +kernel
theorem dX5_open_45 : decode cX5_open 45 = .ok (.istore 5, 2) := by decide +kernel
theorem dX5_open_47 : decode cX5_open 47 = .ok (.aload_n 0, 1) := by decide +kernel
theorem dX5_open_48 : decode cX5_open 48 = .ok (.getfield 15, 3) := by decide +kernel
theorem dX5_open_51 : decode cX5_open 51 = .ok (.iconst 1, 1) := by decide +kernel
theorem dX5_open_52 : decode cX5_open 52 = .ok (.isub, 1) := by decide +kernel
theorem dX5_open_53 : decode cX5_open 53 = .ok (.istore 6, 2) := by decide +kernel
theorem dX5_open_55 : decode cX5_open 55 = .ok (.iload 6, 2) := by decide +kernel
theorem dX5_open_57 : decode cX5_open 57 = .ok (.ifCond .lt 67, 3) := by decide +kernel
theorem dX5_open_60 : decode cX5_open 60 = .ok (.aload_n 0, 1) := by decide +kernel
theorem dX5_open_61 : decode cX5_open 61 = .ok (.getfield 9, 3) := by decide +kernel
theorem dX5_open_64 : decode cX5_open 64 = .ok (.iload 6, 2) := by decide +kernel
theorem dX5_open_66 : decode cX5_open 66 = .ok (.iaload, 1) := by decide +kernel
theorem dX5_open_67 : decode cX5_open 67 = .ok (.iload_n 1, 1) := by decide +kernel
theorem dX5_open_68 : decode cX5_open 68 = .ok (.if_icmp .ne 33, 3) := by decide +kernel
theorem dX5_open_71 : decode cX5_open 71 = .ok (.iload 5, 2) := by decide +kernel
theorem dX5_open_73 : decode cX5_open 73 = .ok (.aload_n 2, 1) := by decide +kernel
theorem dX5_open_74 : decode cX5_open 74 = .ok (.getfield 15, 3) := by decide +kernel
theorem dX5_open_77 : decode cX5_open 77 = .ok (.isub, 1) := by decide +kernel
theorem dX5_open_78 : decode cX5_open 78 = .ok (.istore 5, 2) := by decide +kernel
theorem dX5_open_80 : decode cX5_open 80 = .ok (.aload_n 2, 1) := by decide +kernel
theorem dX5_open_81 : decode cX5_open 81 = .ok (.getfield 9, 3) := by decide +kernel
theorem dX5_open_84 : decode cX5_open 84 = .ok (.iconst 0, 1) := by decide +kernel
theorem dX5_open_85 : decode cX5_open 85 = .ok (.aload_n 0, 1) := by decide +kernel
theorem dX5_open_86 : decode cX5_open 86 = .ok (.getfield 9, 3) := by decide +kernel
theorem dX5_open_89 : decode cX5_open 89 = .ok (.iload 5, 2) := by decide +kernel
theorem dX5_open_91 : decode cX5_open 91 = .ok (.aload_n 2, 1) := by decide +kernel
theorem dX5_open_92 : decode cX5_open 92 = .ok (.getfield 15, 3) := by decide +kernel
theorem dX5_open_95 : decode cX5_open 95 = .ok (.invokestatic 23, 3) := by decide +kernel
theorem dX5_open_98 : decode cX5_open 98 = .ok (.goto 20, 3) := by decide +kernel
theorem dX5_open_101 : decode cX5_open 101 = .ok (.iinc 5 (-1), 3) := by decide +kernel
theorem dX5_open_104 : decode cX5_open 104 = .ok (.aload_n 0, 1) := by decide +kernel
theorem dX5_open_105 : decode cX5_open 105 = .ok (.getfield 9, 3) := by decide +kernel
theorem dX5_open_108 : decode cX5_open 108 = .ok (.iload 5, 2) := by decide +kernel
theorem dX5_open_110 : decode cX5_open 110 = .ok (.aload_n 0, 1) := by decide +kernel
theorem dX5_open_111 : decode cX5_open 111 = .ok (.getfield 9, 3) := by decide +kernel
theorem dX5_open_114 : decode cX5_open 114 = .ok (.iload 6, 2) := by decide +kernel
theorem dX5_open_116 : decode cX5_open 116 = .ok (.iaload, 1) := by decide +kernel
theorem dX5_open_117 : decode cX5_open 117 = .ok (.iastore, 1) := by decide +kernel
theorem dX5_open_118 : decode cX5_open 118 = .ok (.iinc 6 (-1), 3) := by decide +kernel
theorem dX5_open_121 : decode cX5_open 121 = .ok (.goto (-66), 3) := by decide +kernel
theorem dX5_open_124 : decode cX5_open 124 = .ok (.aload_n 0, 1) := by decide +kernel
theorem dX5_open_125 : decode cX5_open 125 = .ok (.iload 4, 2) := by decide +kernel
theorem dX5_open_127 : decode cX5_open 127 = .ok (.putfield 15, 3) := by decide +kernel
theorem dX5_open_130 : decode cX5_open 130 = .ok (.iload_n 3, 1) := by decide +kernel
theorem dX5_open_131 : decode cX5_open 131 = .ok (.ireturn, 1) := by decide +kernel
theorem dX5_makeRoom_0 : decode cX5_makeRoom 0 = .ok (.iload_n 1, 1) := by decide +kernel
theorem dX5_makeRoom_1 : decode cX5_makeRoom 1 = .ok (.aload_n 0, 1) := by decide +kernel
theorem dX5_makeRoom_2 : decode cX5_makeRoom 2 = .ok (.getfield 9, 3) := by decide +kernel
theorem dX5_makeRoom_5 : decode cX5_makeRoom 5 = .ok (.arraylength, 1) := by decide +kernel
theorem dX5_makeRoom_6 : decode cX5_makeRoom 6 = .ok (.if_icmp .gt 5, 3) := by decide +kernel
theorem dX5_makeRoom_9 : decode cX5_makeRoom 9 = .ok (.iconst 1, 1) := by decide +kernel
theorem dX5_makeRoom_10 : decode cX5_makeRoom 10 = .ok (.ireturn, 1) := by decide +kernel
theorem dX5_makeRoom_11 : decode cX5_makeRoom 11 = .ok (.iload_n 1, 1) := by decide +kernel
theorem dX5_makeRoom_12 : decode cX5_makeRoom 12 = .ok (.sipush 400, 3) := by decide +kernel
theorem dX5_makeRoom_15 : decode cX5_makeRoom 15 = .ok (.if_icmp .le 5, 3) := by decide +kernel
theorem dX5_makeRoom_18 : decode cX5_makeRoom 18 = .ok (.iconst 0, 1) := by decide +kernel
theorem dX5_makeRoom_19 : decode cX5_makeRoom 19 = .ok (.ireturn, 1) := by decide +kernel
theorem dX5_makeRoom_20 : decode cX5_makeRoom 20 = .ok (.iconst 4, 1) := by decide +kernel
theorem dX5_makeRoom_21 : decode cX5_makeRoom 21 = .ok (.istore_n 2, 1) := by decide +kernel
theorem dX5_makeRoom_22 : decode cX5_makeRoom 22 = .ok (.iconst 0, 1) := by decide +kernel
theorem dX5_makeRoom_23 : decode cX5_makeRoom 23 = .ok (.istore_n 3, 1) := by decide +kernel
theorem dX5_makeRoom_24 : decode cX5_makeRoom 24 = .ok (.iload_n 3, 1) := by decide +kernel
theorem dX5_makeRoom_25 : decode cX5_makeRoom 25 = .ok (.iconst 4, 1) := by decide +kernel
theorem dX5_makeRoom_26 : decode cX5_makeRoom 26 = .ok (.if_icmp .ge 24, 3) := by decide +kernel
theorem dX5_makeRoom_29 : decode cX5_makeRoom 29 = .ok (.iload_n 2, 1) := by decide +kernel
theorem dX5_makeRoom_30 : decode cX5_makeRoom 30 = .ok (.iload_n 1, 1) := by decide +kernel
theorem dX5_makeRoom_31 : decode cX5_makeRoom 31 = .ok (.if_icmp .ge 19, 3) := by decide +kernel
theorem dX5_makeRoom_34 : decode cX5_makeRoom 34 = .ok (.iconst 4, 1) := by decide +kernel
theorem dX5_makeRoom_35 : decode cX5_makeRoom 35 = .ok (.iload_n 2, 1) := by decide +kernel
theorem dX5_makeRoom_36 : decode cX5_makeRoom 36 = .ok (.imul, 1) := by decide +kernel
theorem dX5_makeRoom_37 : decode cX5_makeRoom 37 = .ok (.sipush 400, 3) := by decide +kernel
theorem dX5_makeRoom_40 : decode cX5_makeRoom 40 = .ok (.invokestatic 37, 3) := by decide +kernel
theorem dX5_makeRoom_43 : decode cX5_makeRoom 43 = .ok (.istore_n 2, 1) := by decide +kernel
theorem dX5_makeRoom_44 : decode cX5_makeRoom 44 = .ok (.iinc 3 1, 3) := by decide +kernel
theorem dX5_makeRoom_47 : decode cX5_makeRoom 47 = .ok (.goto (-23), 3) := by decide +kernel
theorem dX5_makeRoom_50 : decode cX5_makeRoom 50 = .ok (.iload_n 2, 1) := by decide +kernel
theorem dX5_makeRoom_51 : decode cX5_makeRoom 51 = .ok (.newarray .int, 2) := by decide +kernel
theorem dX5_makeRoom_53 : decode cX5_makeRoom 53 = .ok (.astore_n 3, 1) := by decide +kernel
theorem dX5_makeRoom_54 : decode cX5_makeRoom 54 = .ok (.aload_n 0, 1) := by decide +kernel
theorem dX5_makeRoom_55 : decode cX5_makeRoom 55 = .ok (.getfield 9, 3) := by decide +kernel
theorem dX5_makeRoom_58 : decode cX5_makeRoom 58 = .ok (.iconst 0, 1) := by decide +kernel
theorem dX5_makeRoom_59 : decode cX5_makeRoom 59 = .ok (.aload_n 3, 1) := by decide +kernel
theorem dX5_makeRoom_60 : decode cX5_makeRoom 60 = .ok (.iconst 0, 1) := by decide +kernel
theorem dX5_makeRoom_61 : decode cX5_makeRoom 61 = .ok (.aload_n 0, 1) := by decide +kernel
theorem dX5_makeRoom_62 : decode cX5_makeRoom 62 = .ok (.getfield 15, 3) := by decide +kernel
theorem dX5_makeRoom_65 : decode cX5_makeRoom 65 = .ok (.invokestatic 23, 3) := by decide +kernel
theorem dX5_makeRoom_68 : decode cX5_makeRoom 68 = .ok (.aload_n 0, 1) := by decide +kernel
theorem dX5_makeRoom_69 : decode cX5_makeRoom 69 = .ok (.aload_n 3, 1) := by decide +kernel
theorem dX5_makeRoom_70 : decode cX5_makeRoom 70 = .ok (.putfield 9, 3) := by decide +kernel
theorem dX5_makeRoom_73 : decode cX5_makeRoom 73 = .ok (.iconst 1, 1) := by decide +kernel
theorem dX5_makeRoom_74 : decode cX5_makeRoom 74 = .ok (.ireturn, 1) := by decide +kernel
theorem dX6_init_0 : decode cX6_init 0 = .ok (.aload_n 0, 1) := by decide +kernel
theorem dX6_init_1 : decode cX6_init 1 = .ok (.invokespecial 3, 3) := by decide +kernel
theorem dX6_init_4 : decode cX6_init 4 = .ok (.aload_n 0, 1) := by decide +kernel
theorem dX6_init_5 : decode cX6_init 5 = .ok (.bipush 60, 2) := by decide +kernel
theorem dX6_init_7 : decode cX6_init 7 = .ok (.anewarray 11, 3) := by decide +kernel
theorem dX6_init_10 : decode cX6_init 10 = .ok (.putfield 13, 3) := by decide +kernel
theorem dX6_init_13 : decode cX6_init 13 = .ok (.aload_n 0, 1) := by decide +kernel
theorem dX6_init_14 : decode cX6_init 14 = .ok (.bipush 60, 2) := by decide +kernel
theorem dX6_init_16 : decode cX6_init 16 = .ok (.newarray .int, 2) := by decide +kernel
theorem dX6_init_18 : decode cX6_init 18 = .ok (.putfield 17, 3) := by decide +kernel
theorem dX6_init_21 : decode cX6_init 21 = .ok (.aload_n 0, 1) := by decide +kernel
theorem dX6_init_22 : decode cX6_init 22 = .ok (.bipush 60, 2) := by decide +kernel
theorem dX6_init_24 : decode cX6_init 24 = .ok (.newarray .int, 2) := by decide +kernel
theorem dX6_init_26 : decode cX6_init 26 = .ok (.putfield 21, 3) := by decide +kernel
theorem dX6_init_29 : decode cX6_init 29 = .ok (.aload_n 0, 1) := by decide +kernel
theorem dX6_init_30 : decode cX6_init 30 = .ok (.bipush 60, 2) := by decide +kernel
theorem dX6_init_32 : decode cX6_init 32 = .ok (.newarray .int, 2) := by decide +kernel
theorem dX6_init_34 : decode cX6_init 34 = .ok (.putfield 24, 3) := by decide +kernel
theorem dX6_init_37 : decode cX6_init 37 = .ok (.aload_n 0, 1) := by decide +kernel
theorem dX6_init_38 : decode cX6_init 38 = .ok (.bipush 60, 2) := by decide +kernel
theorem dX6_init_40 : decode cX6_init 40 = .ok (.newarray .int, 2) := by decide +kernel
theorem dX6_init_42 : decode cX6_init 42 = .ok (.putfield 27, 3) := by decide +kernel
theorem dX6_init_45 : decode cX6_init 45 = .ok (.aload_n 0, 1) := by decide +kernel
theorem dX6_init_46 : decode cX6_init 46 = .ok (.bipush 60, 2) := by decide +kernel
theorem dX6_init_48 : decode cX6_init 48 = .ok (.newarray .int, 2) := by decide +kernel
theorem dX6_init_50 : decode cX6_init 50 = .ok (.putfield 30, 3) := by decide +kernel
theorem dX6_init_53 : decode cX6_init 53 = .ok (.aload_n 0, 1) := by decide +kernel
theorem dX6_init_54 : decode cX6_init 54 = .ok (.iconst 2, 1) := by decide +kernel
theorem dX6_init_55 : decode cX6_init 55 = .ok (.newarray .int, 2) := by decide +kernel
theorem dX6_init_57 : decode cX6_init 57 = .ok (.putfield 33, 3) := by decide +kernel
theorem dX6_init_60 : decode cX6_init 60 = .ok (.aload_n 0, 1) := by decide +kernel
theorem dX6_init_61 : decode cX6_init 61 = .ok (.aload_n 1, 1) := by decide +kernel
theorem dX6_init_62 : decode cX6_init 62 = .ok (.putfield 36, 3) := by decide +kernel
theorem dX6_init_65 : decode cX6_init 65 = .ok (.iconst 0, 1) := by decide +kernel
theorem dX6_init_66 : decode cX6_init 66 = .ok (.istore_n 2, 1) := by decide +kernel
theorem dX6_init_67 : decode cX6_init 67 = .ok (.iload_n 2, 1) := by decide +kernel
theorem dX6_init_68 : decode cX6_init 68 = .ok (.bipush 60, 2) := by decide +kernel
theorem dX6_init_70 : decode cX6_init 70 = .ok (.if_icmp .ge 18, 3) := by decide +kernel
theorem dX6_init_73 : decode cX6_init 73 = .ok (.aload_n 0, 1) := by decide +kernel
theorem dX6_init_74 : decode cX6_init 74 = .ok (.getfield 13, 3) := by decide +kernel
theorem dX6_init_77 : decode cX6_init 77 = .ok (.iload_n 2, 1) := by decide +kernel
theorem dX6_init_78 : decode cX6_init 78 = .ok (.getstatic 40, 3) := by decide +kernel
theorem dX6_init_81 : decode cX6_init 81 = .ok (.aastore, 1) := by decide +kernel
theorem dX6_init_82 : decode cX6_init 82 = .ok (.iinc 2 1, 3) := by decide +kernel
theorem dX6_init_85 : decode cX6_init 85 = .ok (.goto (-18), 3) := by decide +kernel
theorem dX6_init_88 : decode cX6_init 88 = .ok (.return_, 1) := by decide +kernel
theorem dX6_read_0 : decode cX6_read 0 = .ok (.aload_n 0, 1) := by decide +kernel
theorem dX6_read_1 : decode cX6_read 1 = .ok (.iconst 0, 1) := by decide +kernel
theorem dX6_read_2 : decode cX6_read 2 = .ok (.putfield 44, 3) := by decide +kernel
theorem dX6_read_5 : decode cX6_read 5 = .ok (.aload_n 0, 1) := by decide +kernel
theorem dX6_read_6 : decode cX6_read 6 = .ok (.iconst 0, 1) := by decide +kernel
theorem dX6_read_7 : decode cX6_read 7 = .ok (.putfield 48, 3) := by decide +kernel
theorem dX6_read_10 : decode cX6_read 10 = .ok (.aload_n 0, 1) := by decide +kernel
theorem dX6_read_11 : decode cX6_read 11 = .ok (.iconst 0, 1) := by decide +kernel
theorem dX6_read_12 : decode cX6_read 12 = .ok (.putfield 51, 3) := by decide +kernel
theorem dX6_read_15 : decode cX6_read 15 = .ok (.aload_n 0, 1) := by decide +kernel
theorem dX6_read_16 : decode cX6_read 16 = .ok (.getfield 36, 3) := by decide +kernel
theorem dX6_read_19 : decode cX6_read 19 = .ok (.invokevirtual 54, 3) := by decide +kernel
theorem dX6_read_22 : decode cX6_read 22 = .ok (.iconst 0, 1) := by decide +kernel
theorem dX6_read_23 : decode cX6_read 23 = .ok (.istore_n 1, 1) := by decide +kernel
theorem dX6_read_24 : decode cX6_read 24 = .ok (.iload_n 1, 1) := by decide +kernel
theorem dX6_read_25 : decode cX6_read 25 = .ok (.sipush 600, 3) := by decide +kernel
theorem dX6_read_28 : decode cX6_read 28 = .ok (.if_icmp .gt 76, 3) := by decide +kernel
theorem dX6_read_31 : decode cX6_read 31 = .ok (.aload_n 0, 1) := by decide +kernel
theorem dX6_read_32 : decode cX6_read 32 = .ok (.getfield 51, 3) := by decide +kernel
theorem dX6_read_35 : decode cX6_read 35 = .ok (.ifCond .ne 16, 3) := by decide +kernel
theorem dX6_read_38 : decode cX6_read 38 = .ok (.aload_n 0, 1) := by decide +kernel
theorem dX6_read_39 : decode cX6_read 39 = .ok (.getfield 36, 3) := by decide +kernel
theorem dX6_read_42 : decode cX6_read 42 = .ok (.iconst 0, 1) := by decide +kernel
theorem dX6_read_43 : decode cX6_read 43 = .ok (.invokevirtual 59, 3) := by decide +kernel
theorem dX6_read_46 : decode cX6_read 46 = .ok (.ifCond .eq 5, 3) := by decide +kernel
theorem dX6_read_49 : decode cX6_read 49 = .ok (.iconst 1, 1) := by decide +kernel
theorem dX6_read_50 : decode cX6_read 50 = .ok (.ireturn, 1) := by decide +kernel
theorem dX6_read_51 : decode cX6_read 51 = .ok (.aload_n 0, 1) := by decide +kernel
theorem dX6_read_52 : decode cX6_read 52 = .ok (.getfield 51, 3) := by decide +kernel
theorem dX6_read_55 : decode cX6_read 55 = .ok (.ifCond .le 18, 3) := by decide +kernel
theorem dX6_read_58 : decode cX6_read 58 = .ok (.aload_n 0, 1) := by decide +kernel
theorem dX6_read_59 : decode cX6_read 59 = .ok (.getfield 36, 3) := by decide +kernel
theorem dX6_read_62 : decode cX6_read 62 = .ok (.iconst 5, 1) := by decide +kernel
theorem dX6_read_63 : decode cX6_read 63 = .ok (.invokevirtual 59, 3) := by decide +kernel
theorem dX6_read_66 : decode cX6_read 66 = .ok (.ifCond .eq 7, 3) := by decide +kernel
theorem dX6_read_69 : decode cX6_read 69 = .ok (.iconst 1, 1) := by decide +kernel
theorem dX6_read_70 : decode cX6_read 70 = .ok (.goto 4, 3) := by decide +kernel
theorem dX6_read_73 : decode cX6_read 73 = .ok (.iconst 0, 1) := by decide +kernel
theorem dX6_read_74 : decode cX6_read 74 = .ok (.istore_n 2, 1) := by decide +kernel
theorem dX6_read_75 : decode cX6_read 75 = .ok (.iload_n 2, 1) := by decide +kernel
theorem dX6_read_76 : decode cX6_read 76 = .ok (.ifCond .eq 13, 3) := by decide +kernel
theorem dX6_read_79 : decode cX6_read 79 = .ok (.aload_n 0, 1) := by decide +kernel
theorem dX6_read_80 : decode cX6_read 80 = .ok (.invokevirtual 63, 3) := by decide +kernel
theorem dX6_read_83 : decode cX6_read 83 = .ok (.ifCond .eq 13, 3) := by decide +kernel
theorem dX6_read_86 : decode cX6_read 86 = .ok (.goto 12, 3) := by decide +kernel
theorem dX6_read_89 : decode cX6_read 89 = .ok (.aload_n 0, 1) := by decide +kernel
theorem dX6_read_90 : decode cX6_read 90 = .ok (.invokevirtual 67, 3) := by decide +kernel
theorem dX6_read_93 : decode cX6_read 93 = .ok (.ifCond .ne 5, 3) := by decide +kernel
theorem dX6_read_96 : decode cX6_read 96 = .ok (.iconst 0, 1) := by decide +kernel
theorem dX6_read_97 : decode cX6_read 97 = .ok (.ireturn, 1) := by decide +kernel
theorem dX6_read_98 : decode cX6_read 98 = .ok (.iinc 1 1, 3) := by decide +kernel
theorem dX6_read_101 : decode cX6_read 101 = .ok (.goto (-77), 3) := by decide +kernel
theorem dX6_read_104 : decode cX6_read 104 = .ok (.aload_n 0, 1) := by decide +kernel
theorem dX6_read_105 : decode cX6_read 105 = .ok (.getfield 36, 3) := by decide +kernel
theorem dX6_read_108 : decode cX6_read 108 = .ok (.iconst 1, 1) := by decide +kernel
theorem dX6_read_109 : decode cX6_read 109 = .ok (.invokevirtual 70, 3) := by decide +kernel
theorem dX6_read_112 : decode cX6_read 112 = .ok (.ireturn, 1) := by decide +kernel
theorem dX6_readClose_0 : decode cX6_readClose 0 = .ok (.aload_n 0, 1) := by decide +kernel
theorem dX6_readClose_1 : decode cX6_readClose 1 = .ok (.getstatic 73, 3) := by decide +kernel
theorem dX6_readClose_4 : decode cX6_readClose 4 = .ok (.invokevirtual 76, 3) := by decide +kernel
theorem dX6_readClose_7 : decode cX6_readClose 7 = .ok (.istore_n 1, 1) := by decide +kernel
theorem dX6_readClose_8 : decode cX6_readClose 8 = .ok (.aload_n 0, 1) := by decide +kernel
theorem dX6_readClose_9 : decode cX6_readClose 9 = .ok (.dup, 1) := by decide +kernel
theorem dX6_readClose_10 : decode cX6_readClose 10 = .ok (.getfield 51, 3) := by decide +kernel
theorem dX6_readClose_13 : decode cX6_readClose 13 = .ok (.iconst 1, 1) := by decide +kernel
theorem dX6_readClose_14 : decode cX6_readClose 14 = .ok (.isub, 1) := by decide +kernel
theorem dX6_readClose_15 : decode cX6_readClose 15 = .ok (.putfield 51, 3) := by decide +kernel
theorem dX6_readClose_18 : decode cX6_readClose 18 = .ok (.aload_n 0, 1) := by decide +kernel
theorem dX6_readClose_19 : decode cX6_readClose 19 = .ok (.getfield 51, 3) := by decide +kernel
theorem dX6_readClose_22 : decode cX6_readClose 22 = .ok (.ifCond .lt 23, 3) := by decide +kernel
theorem dX6_readClose_25 : decode cX6_readClose 25 = .ok (.aload_n 0, 1) := by decide +kernel
theorem dX6_readClose_26 : decode cX6_readClose 26 = .ok (.getfield 51, 3) := by decide +kernel
theorem dX6_readClose_29 : decode cX6_readClose 29 = .ok (.iconst 2, 1) := by decide +kernel
theorem dX6_readClose_30 : decode cX6_readClose 30 = .ok (.if_icmp .ge 15, 3) := by decide +kernel
theorem dX6_readClose_33 : decode cX6_readClose 33 = .ok (.aload_n 0, 1) := by decide +kernel
theorem dX6_readClose_34 : decode cX6_readClose 34 = .ok (.getfield 33, 3) := by decide +kernel
theorem dX6_readClose_37 : decode cX6_readClose 37 = .ok (.aload_n 0, 1) := by decide +kernel
theorem dX6_readClose_38 : decode cX6_readClose 38 = .ok (.getfield 51, 3) := by decide +kernel
theorem dX6_readClose_41 : decode cX6_readClose 41 = .ok (.iaload, 1) := by decide +kernel
theorem dX6_readClose_42 : decode cX6_readClose 42 = .ok (.goto 4, 3) := by decide +kernel
theorem dX6_readClose_45 : decode cX6_readClose 45 = .ok (.iconst 0, 1) := by decide +kernel
theorem dX6_readClose_46 : decode cX6_readClose 46 = .ok (.istore_n 2, 1) := by decide +kernel
theorem dX6_readClose_47 : decode cX6_readClose 47 = .ok (.aload_n 0, 1) := by decide +kernel
theorem dX6_readClose_48 : decode cX6_readClose 48 = .ok (.getfield 27, 3) := by decide +kernel
theorem dX6_readClose_51 : decode cX6_readClose 51 = .ok (.iload_n 2, 1) := by decide +kernel
theorem dX6_readClose_52 : decode cX6_readClose 52 = .ok (.iload_n 1, 1) := by decide +kernel
theorem dX6_readClose_53 : decode cX6_readClose 53 = .ok (.iastore, 1) := by decide +kernel
theorem dX6_readClose_54 : decode cX6_readClose 54 = .ok (.aload_n 0, 1) := by decide +kernel
theorem dX6_readClose_55 : decode cX6_readClose 55 = .ok (.getfield 27, 3) := by decide +kernel
theorem dX6_readClose_58 : decode cX6_readClose 58 = .ok (.iload_n 1, 1) := by decide +kernel
theorem dX6_readClose_59 : decode cX6_readClose 59 = .ok (.iload_n 2, 1) := by decide +kernel
theorem dX6_readClose_60 : decode cX6_readClose 60 = .ok (.iastore, 1) := by decide +kernel
theorem dX6_readClose_61 : decode cX6_readClose 61 = .ok (.aload_n 0, 1) := by decide +kernel
theorem dX6_readClose_62 : decode cX6_readClose 62 = .ok (.getfield 36, 3) := by decide +kernel
theorem dX6_readClose_65 : decode cX6_readClose 65 = .ok (.invokevirtual 80, 3) := by decide +kernel
theorem dX6_readClose_68 : decode cX6_readClose 68 = .ok (.aload_n 0, 1) := by decide +kernel
theorem dX6_readClose_69 : decode cX6_readClose 69 = .ok (.getfield 36, 3) := by decide +kernel
theorem dX6_readClose_72 : decode cX6_readClose 72 = .ok (.iconst 3, 1) := by decide +kernel
theorem dX6_readClose_73 : decode cX6_readClose 73 = .ok (.invokevirtual 83, 3) := by decide +kernel
theorem dX6_readClose_76 : decode cX6_readClose 76 = .ok (.ireturn, 1) := by decide +kernel
theorem dX6_readOrder_0 : decode cX6_readOrder 0 = .ok (.aload_n 0, 1) := by decide +kernel
theorem dX6_readOrder_1 : decode cX6_readOrder 1 = .ok (.getfield 36, 3) := by decide +kernel
theorem dX6_readOrder_4 : decode cX6_readOrder 4 = .ok (.invokevirtual 86, 3) := by decide +kernel
theorem dX6_readOrder_7 : decode cX6_readOrder 7 = .ok (.astore_n 1, 1) := by decide +kernel
theorem dX6_readOrder_8 : decode cX6_readOrder 8 = .ok (.aload_n 1, 1) := by decide +kernel
theorem dX6_readOrder_9 : decode cX6_readOrder 9 = .ok (.getfield 90, 3) := by decide +kernel
theorem dX6_readOrder_12 : decode cX6_readOrder 12 = .ok (.ifCond .ne 12, 3) := by decide +kernel
theorem dX6_readOrder_15 : decode cX6_readOrder 15 = .ok (.aload_n 0, 1) := by decide +kernel
theorem dX6_readOrder_16 : decode cX6_readOrder 16 = .ok (.getfield 36, 3) := by decide +kernel
theorem dX6_readOrder_19 : decode cX6_readOrder 19 = .ok (.iconst 1, 1) := by decide +kernel
theorem dX6_readOrder_20 : decode cX6_readOrder 20 = .ok (.invokevirtual 70, 3) := by decide +kernel
theorem dX6_readOrder_23 : decode cX6_readOrder 23 = .ok (.ireturn, 1) := by decide +kernel
theorem dX6_readOrder_24 : decode cX6_readOrder 24 = .ok (.aload_n 0, 1) := by decide +kernel
theorem dX6_readOrder_25 : decode cX6_readOrder 25 = .ok (.getfield 48, 3) := by decide +kernel
theorem dX6_readOrder_28 : decode cX6_readOrder 28 = .ok (.bipush 30, 2) := by decide +kernel
theorem dX6_readOrder_30 : decode cX6_readOrder 30 = .ok (.if_icmp .lt 12, 3) := by decide +kernel
theorem dX6_readOrder_33 : decode cX6_readOrder 33 = .ok (.aload_n 0, 1) := by decide +kernel
theorem dX6_readOrder_34 : decode cX6_readOrder 34 = .ok (.getfield 36, 3) := by decide +kernel
theorem dX6_readOrder_37 : decode cX6_readOrder 37 = .ok (.iconst 5, 1) := by decide +kernel
theorem dX6_readOrder_38 : decode cX6_readOrder 38 = .ok (.invokevirtual 70, 3) := by decide +kernel
theorem dX6_readOrder_41 : decode cX6_readOrder 41 = .ok (.ireturn, 1) := by decide +kernel
theorem dX6_readOrder_42 : decode cX6_readOrder 42 = .ok (.aload_n 0, 1) := by decide +kernel
theorem dX6_readOrder_43 : decode cX6_readOrder 43 = .ok (.dup, 1) := by decide +kernel
theorem dX6_readOrder_44 : decode cX6_readOrder 44 = .ok (.getfield 48, 3) := by decide +kernel
theorem dX6_readOrder_47 : decode cX6_readOrder 47 = .ok (.iconst 1, 1) := by decide +kernel
theorem dX6_readOrder_48 : decode cX6_readOrder 48 = .ok (.iadd, 1) := by decide +kernel
theorem dX6_readOrder_49 : decode cX6_readOrder 49 = .ok (.putfield 48, 3) := by decide +kernel
theorem dX6_readOrder_52 : decode cX6_readOrder 52 = .ok (.aload_n 0, 1) := by decide +kernel
theorem dX6_readOrder_53 : decode cX6_readOrder 53 = .ok (.aload_n 1, 1) := by decide +kernel
theorem dX6_readOrder_54 : decode cX6_readOrder 54 = .ok (.invokevirtual 76, 3) := by decide +kernel
theorem dX6_readOrder_57 : decode cX6_readOrder 57 = .ok (.istore_n 2, 1) := by decide +kernel
theorem dX6_readOrder_58 : decode cX6_readOrder 58 = .ok (.aload_n 0, 1) := by decide +kernel
theorem dX6_readOrder_59 : decode cX6_readOrder 59 = .ok (.getfield 36, 3) := by decide +kernel
theorem dX6_readOrder_62 : decode cX6_readOrder 62 = .ok (.invokevirtual 80, 3) := by decide +kernel
theorem dX6_readOrder_65 : decode cX6_readOrder 65 = .ok (.getstatic 93, 3) := by decide +kernel
theorem dX6_readOrder_68 : decode cX6_readOrder 68 = .ok (.aload_n 1, 1) := by decide +kernel
theorem dX6_readOrder_69 : decode cX6_readOrder 69 = .ok (.invokevirtual 98, 3) := by decide +kernel
theorem dX6_readOrder_72 : decode cX6_readOrder 72 = .ok (.iaload, 1) := by decide +kernel
theorem dX6_readOrder_73 : decode cX6_readOrder 73 = .ok (.tableswitch 107 2 10 #[51, 60, 107, 60, 107, 107, 107, 107, 85], 51) := by decide +kernel
theorem dX6_readOrder_124 : decode cX6_readOrder 124 = .ok (.aload_n 0, 1) := by decide +kernel
theorem dX6_readOrder_125 : decode cX6_readOrder 125 = .ok (.getfield 36, 3) := by decide +kernel
theorem dX6_readOrder_128 : decode cX6_readOrder 128 = .ok (.iconst 3, 1) := by decide +kernel
theorem dX6_readOrder_129 : decode cX6_readOrder 129 = .ok (.invokevirtual 83, 3) := by decide +kernel
theorem dX6_readOrder_132 : decode cX6_readOrder 132 = .ok (.ireturn, 1) := by decide +kernel
theorem dX6_readOrder_133 : decode cX6_readOrder 133 = .ok (.aload_n 0, 1) := by decide +kernel
theorem dX6_readOrder_134 : decode cX6_readOrder 134 = .ok (.iload_n 2, 1) := by decide +kernel
theorem dX6_readOrder_135 : decode cX6_readOrder 135 = .ok (.invokevirtual 102, 3) := by decide +kernel
theorem dX6_readOrder_138 : decode cX6_readOrder 138 = .ok (.ifCond .eq 18, 3) := by decide +kernel
theorem dX6_readOrder_141 : decode cX6_readOrder 141 = .ok (.aload_n 0, 1) := by decide +kernel
theorem dX6_readOrder_142 : decode cX6_readOrder 142 = .ok (.getfield 36, 3) := by decide +kernel
theorem dX6_readOrder_145 : decode cX6_readOrder 145 = .ok (.iconst 3, 1) := by decide +kernel
theorem dX6_readOrder_146 : decode cX6_readOrder 146 = .ok (.invokevirtual 83, 3) := by decide +kernel
theorem dX6_readOrder_149 : decode cX6_readOrder 149 = .ok (.ifCond .eq 7, 3) := by decide +kernel
theorem dX6_readOrder_152 : decode cX6_readOrder 152 = .ok (.iconst 1, 1) := by decide +kernel
theorem dX6_readOrder_153 : decode cX6_readOrder 153 = .ok (.goto 4, 3) := by decide +kernel
theorem dX6_readOrder_156 : decode cX6_readOrder 156 = .ok (.iconst 0, 1) := by decide +kernel
theorem dX6_readOrder_157 : decode cX6_readOrder 157 = .ok (.ireturn, 1) := by decide +kernel
theorem dX6_readOrder_158 : decode cX6_readOrder 158 = .ok (.aload_n 0, 1) := by decide +kernel
theorem dX6_readOrder_159 : decode cX6_readOrder 159 = .ok (.iload_n 2, 1) := by decide +kernel
theorem dX6_readOrder_160 : decode cX6_readOrder 160 = .ok (.invokevirtual 105, 3) := by decide +kernel
theorem dX6_readOrder_163 : decode cX6_readOrder 163 = .ok (.ifCond .eq 15, 3) := by decide +kernel
theorem dX6_readOrder_166 : decode cX6_readOrder 166 = .ok (.aload_n 0, 1) := by decide +kernel
theorem dX6_readOrder_167 : decode cX6_readOrder 167 = .ok (.iload_n 2, 1) := by decide +kernel
theorem dX6_readOrder_168 : decode cX6_readOrder 168 = .ok (.invokevirtual 108, 3) := by decide +kernel
theorem dX6_readOrder_171 : decode cX6_readOrder 171 = .ok (.ifCond .eq 7, 3) := by decide +kernel
theorem dX6_readOrder_174 : decode cX6_readOrder 174 = .ok (.iconst 1, 1) := by decide +kernel
theorem dX6_readOrder_175 : decode cX6_readOrder 175 = .ok (.goto 4, 3) := by decide +kernel
theorem dX6_readOrder_178 : decode cX6_readOrder 178 = .ok (.iconst 0, 1) := by decide +kernel
theorem dX6_readOrder_179 : decode cX6_readOrder 179 = .ok (.ireturn, 1) := by decide +kernel
theorem dX6_readOrder_180 : decode cX6_readOrder 180 = .ok (.aload_n 0, 1) := by decide +kernel
theorem dX6_readOrder_181 : decode cX6_readOrder 181 = .ok (.iload_n 2, 1) := by decide +kernel
theorem dX6_readOrder_182 : decode cX6_readOrder 182 = .ok (.invokevirtual 105, 3) := by decide +kernel
theorem dX6_readOrder_185 : decode cX6_readOrder 185 = .ok (.ifCond .eq 18, 3) := by decide +kernel
theorem dX6_readOrder_188 : decode cX6_readOrder 188 = .ok (.aload_n 0, 1) := by decide +kernel
theorem dX6_readOrder_189 : decode cX6_readOrder 189 = .ok (.getfield 36, 3) := by decide +kernel
theorem dX6_readOrder_192 : decode cX6_readOrder 192 = .ok (.iconst 3, 1) := by decide +kernel
theorem dX6_readOrder_193 : decode cX6_readOrder 193 = .ok (.invokevirtual 83, 3) := by decide +kernel
theorem dX6_readOrder_196 : decode cX6_readOrder 196 = .ok (.ifCond .eq 7, 3) := by decide +kernel
theorem dX6_readOrder_199 : decode cX6_readOrder 199 = .ok (.iconst 1, 1) := by decide +kernel
theorem dX6_readOrder_200 : decode cX6_readOrder 200 = .ok (.goto 4, 3) := by decide +kernel
theorem dX6_readOrder_203 : decode cX6_readOrder 203 = .ok (.iconst 0, 1) := by decide +kernel
theorem dX6_readOrder_204 : decode cX6_readOrder 204 = .ok (.ireturn, 1) := by decide +kernel
theorem dX6_addEntry_0 : decode cX6_addEntry 0 = .ok (.aload_n 0, 1) := by decide +kernel
theorem dX6_addEntry_1 : decode cX6_addEntry 1 = .ok (.getfield 44, 3) := by decide +kernel
theorem dX6_addEntry_4 : decode cX6_addEntry 4 = .ok (.bipush 59, 2) := by decide +kernel
theorem dX6_addEntry_6 : decode cX6_addEntry 6 = .ok (.invokestatic 111, 3) := by decide +kernel
theorem dX6_addEntry_9 : decode cX6_addEntry 9 = .ok (.istore_n 2, 1) := by decide +kernel
theorem dX6_addEntry_10 : decode cX6_addEntry 10 = .ok (.aload_n 0, 1) := by decide +kernel
theorem dX6_addEntry_11 : decode cX6_addEntry 11 = .ok (.getfield 13, 3) := by decide +kernel
theorem dX6_addEntry_14 : decode cX6_addEntry 14 = .ok (.iload_n 2, 1) := by decide +kernel
theorem dX6_addEntry_15 : decode cX6_addEntry 15 = .ok (.aload_n 1, 1) := by decide +kernel
theorem dX6_addEntry_16 : decode cX6_addEntry 16 = .ok (.aastore, 1) := by decide +kernel
theorem dX6_addEntry_17 : decode cX6_addEntry 17 = .ok (.aload_n 0, 1) := by decide +kernel
theorem dX6_addEntry_18 : decode cX6_addEntry 18 = .ok (.iload_n 2, 1) := by decide +kernel
theorem dX6_addEntry_19 : decode cX6_addEntry 19 = .ok (.iconst 1, 1) := by decide +kernel
theorem dX6_addEntry_20 : decode cX6_addEntry 20 = .ok (.iadd, 1) := by decide +kernel
theorem dX6_addEntry_21 : decode cX6_addEntry 21 = .ok (.putfield 44, 3) := by decide +kernel
theorem dX6_addEntry_24 : decode cX6_addEntry 24 = .ok (.iload_n 2, 1) := by decide +kernel
theorem dX6_addEntry_25 : decode cX6_addEntry 25 = .ok (.ireturn, 1) := by decide +kernel
theorem dX6_readNumber_0 : decode cX6_readNumber 0 = .ok (.aload_n 0, 1) := by decide +kernel
theorem dX6_readNumber_1 : decode cX6_readNumber 1 = .ok (.getfield 36, 3) := by decide +kernel
theorem dX6_readNumber_4 : decode cX6_readNumber 4 = .ok (.aload_n 0, 1) := by decide +kernel
theorem dX6_readNumber_5 : decode cX6_readNumber 5 = .ok (.getfield 13, 3) := by decide +kernel
theorem dX6_readNumber_8 : decode cX6_readNumber 8 = .ok (.iload_n 1, 1) := by decide +kernel
theorem dX6_readNumber_9 : decode cX6_readNumber 9 = .ok (.aaload, 1) := by decide +kernel
theorem dX6_readNumber_10 : decode cX6_readNumber 10 = .ok (.getfield 117, 3) := by decide +kernel
theorem dX6_readNumber_13 : decode cX6_readNumber 13 = .ok (.aload_n 0, 1) := by decide +kernel
theorem dX6_readNumber_14 : decode cX6_readNumber 14 = .ok (.getfield 13, 3) := by decide +kernel
theorem dX6_readNumber_17 : decode cX6_readNumber 17 = .ok (.iload_n 1, 1) := by decide +kernel
theorem dX6_readNumber_18 : decode cX6_readNumber 18 = .ok (.aaload, 1) := by decide +kernel
theorem dX6_readNumber_19 : decode cX6_readNumber 19 = .ok (.getfield 120, 3) := by decide +kernel
theorem dX6_readNumber_22 : decode cX6_readNumber 22 = .ok (.invokevirtual 123, 3) := by decide +kernel
theorem dX6_readNumber_25 : decode cX6_readNumber 25 = .ok (.ifCond .ne 5, 3) := by decide +kernel
theorem dX6_readNumber_28 : decode cX6_readNumber 28 = .ok (.iconst 0, 1) := by decide +kernel
theorem dX6_readNumber_29 : decode cX6_readNumber 29 = .ok (.ireturn, 1) := by decide +kernel
theorem dX6_readNumber_30 : decode cX6_readNumber 30 = .ok (.aload_n 0, 1) := by decide +kernel
theorem dX6_readNumber_31 : decode cX6_readNumber 31 = .ok (.getfield 17, 3) := by decide +kernel
theorem dX6_readNumber_34 : decode cX6_readNumber 34 = .ok (.iload_n 1, 1) := by decide +kernel
theorem dX6_readNumber_35 : decode cX6_readNumber 35 = .ok (.aload_n 0, 1) := by decide +kernel
theorem dX6_readNumber_36 : decode cX6_readNumber 36 = .ok (.getfield 36, 3) := by decide +kernel
theorem dX6_readNumber_39 : decode cX6_readNumber 39 = .ok (.invokevirtual 126, 3) := by decide +kernel
theorem dX6_readNumber_42 : decode cX6_readNumber 42 = .ok (.iastore, 1) := by decide +kernel
theorem dX6_readNumber_43 : decode cX6_readNumber 43 = .ok (.aload_n 0, 1) := by decide +kernel
theorem dX6_readNumber_44 : decode cX6_readNumber 44 = .ok (.getfield 36, 3) := by decide +kernel
theorem dX6_readNumber_47 : decode cX6_readNumber 47 = .ok (.invokevirtual 80, 3) := by decide +kernel
theorem dX6_readNumber_50 : decode cX6_readNumber 50 = .ok (.iconst 1, 1) := by decide +kernel
theorem dX6_readNumber_51 : decode cX6_readNumber 51 = .ok (.ireturn, 1) := by decide +kernel
theorem dX6_readLetters_0 : decode cX6_readLetters 0 = .ok (.aload_n 0, 1) := by decide +kernel
theorem dX6_readLetters_1 : decode cX6_readLetters 1 = .ok (.getfield 36, 3) := by decide +kernel
theorem dX6_readLetters_4 : decode cX6_readLetters 4 = .ok (.iconst 1, 1) := by decide +kernel
theorem dX6_readLetters_5 : decode cX6_readLetters 5 = .ok (.invokevirtual 59, 3) := by decide +kernel
theorem dX6_readLetters_8 : decode cX6_readLetters 8 = .ok (.ifCond .ne 12, 3) := by decide +kernel
theorem dX6_readLetters_11 : decode cX6_readLetters 11 = .ok (.aload_n 0, 1) := by decide +kernel
theorem dX6_readLetters_12 : decode cX6_readLetters 12 = .ok (.getfield 36, 3) := by decide +kernel
theorem dX6_readLetters_15 : decode cX6_readLetters 15 = .ok (.iconst 1, 1) := by decide +kernel
theorem dX6_readLetters_16 : decode cX6_readLetters 16 = .ok (.invokevirtual 70, 3) := by decide +kernel
theorem dX6_readLetters_19 : decode cX6_readLetters 19 = .ok (.ireturn, 1) := by decide +kernel
theorem dX6_readLetters_20 : decode cX6_readLetters 20 = .ok (.aload_n 0, 1) := by decide +kernel
theorem dX6_readLetters_21 : decode cX6_readLetters 21 = .ok (.getfield 13, 3) := by decide +kernel
theorem dX6_readLetters_24 : decode cX6_readLetters 24 = .ok (.iload_n 1, 1) := by decide +kernel
theorem dX6_readLetters_25 : decode cX6_readLetters 25 = .ok (.aaload, 1) := by decide +kernel
theorem dX6_readLetters_26 : decode cX6_readLetters 26 = .ok (.getstatic 129, 3) := by decide +kernel
theorem dX6_readLetters_29 : decode cX6_readLetters 29 = .ok (.if_acmp .ne 23, 3) := by decide +kernel
theorem dX6_readLetters_32 : decode cX6_readLetters 32 = .ok (.aload_n 0, 1) := by decide +kernel
theorem dX6_readLetters_33 : decode cX6_readLetters 33 = .ok (.getfield 36, 3) := by decide +kernel
theorem dX6_readLetters_36 : decode cX6_readLetters 36 = .ok (.invokevirtual 132, 3) := by decide +kernel
theorem dX6_readLetters_39 : decode cX6_readLetters 39 = .ok (.iconst 2, 1) := by decide +kernel
theorem dX6_readLetters_40 : decode cX6_readLetters 40 = .ok (.if_icmp .eq 12, 3) := by decide +kernel
theorem dX6_readLetters_43 : decode cX6_readLetters 43 = .ok (.aload_n 0, 1) := by decide +kernel
theorem dX6_readLetters_44 : decode cX6_readLetters 44 = .ok (.getfield 36, 3) := by decide +kernel
theorem dX6_readLetters_47 : decode cX6_readLetters 47 = .ok (.iconst 4, 1) := by decide +kernel
theorem dX6_readLetters_48 : decode cX6_readLetters 48 = .ok (.invokevirtual 70, 3) := by decide +kernel
theorem dX6_readLetters_51 : decode cX6_readLetters 51 = .ok (.ireturn, 1) := by decide +kernel
theorem dX6_readLetters_52 : decode cX6_readLetters 52 = .ok (.aload_n 0, 1) := by decide +kernel
theorem dX6_readLetters_53 : decode cX6_readLetters 53 = .ok (.getfield 21, 3) := by decide +kernel
theorem dX6_readLetters_56 : decode cX6_readLetters 56 = .ok (.iload_n 1, 1) := by decide +kernel
theorem dX6_readLetters_57 : decode cX6_readLetters 57 = .ok (.aload_n 0, 1) := by decide +kernel
theorem dX6_readLetters_58 : decode cX6_readLetters 58 = .ok (.getfield 36, 3) := by decide +kernel
theorem dX6_readLetters_61 : decode cX6_readLetters 61 = .ok (.invokevirtual 135, 3) := by decide +kernel
theorem dX6_readLetters_64 : decode cX6_readLetters 64 = .ok (.iastore, 1) := by decide +kernel
theorem dX6_readLetters_65 : decode cX6_readLetters 65 = .ok (.aload_n 0, 1) := by decide +kernel
theorem dX6_readLetters_66 : decode cX6_readLetters 66 = .ok (.getfield 24, 3) := by decide +kernel
theorem dX6_readLetters_69 : decode cX6_readLetters 69 = .ok (.iload_n 1, 1) := by decide +kernel
theorem dX6_readLetters_70 : decode cX6_readLetters 70 = .ok (.aload_n 0, 1) := by decide +kernel
theorem dX6_readLetters_71 : decode cX6_readLetters 71 = .ok (.getfield 36, 3) := by decide +kernel
theorem dX6_readLetters_74 : decode cX6_readLetters 74 = .ok (.invokevirtual 132, 3) := by decide +kernel
theorem dX6_readLetters_77 : decode cX6_readLetters 77 = .ok (.iastore, 1) := by decide +kernel
theorem dX6_readLetters_78 : decode cX6_readLetters 78 = .ok (.aload_n 0, 1) := by decide +kernel
theorem dX6_readLetters_79 : decode cX6_readLetters 79 = .ok (.getfield 36, 3) := by decide +kernel
theorem dX6_readLetters_82 : decode cX6_readLetters 82 = .ok (.invokevirtual 80, 3) := by decide +kernel
theorem dX6_readLetters_85 : decode cX6_readLetters 85 = .ok (.iconst 1, 1) := by decide +kernel
theorem dX6_readLetters_86 : decode cX6_readLetters 86 = .ok (.ireturn, 1) := by decide +kernel
theorem dX6_readOpen_0 : decode cX6_readOpen 0 = .ok (.aload_n 0, 1) := by decide +kernel
theorem dX6_readOpen_1 : decode cX6_readOpen 1 = .ok (.getfield 36, 3) := by decide +kernel
theorem dX6_readOpen_4 : decode cX6_readOpen 4 = .ok (.iconst 4, 1) := by decide +kernel
theorem dX6_readOpen_5 : decode cX6_readOpen 5 = .ok (.invokevirtual 59, 3) := by decide +kernel
theorem dX6_readOpen_8 : decode cX6_readOpen 8 = .ok (.ifCond .eq 20, 3) := by decide +kernel
theorem dX6_readOpen_11 : decode cX6_readOpen 11 = .ok (.aload_n 0, 1) := by decide +kernel
theorem dX6_readOpen_12 : decode cX6_readOpen 12 = .ok (.getfield 51, 3) := by decide +kernel
theorem dX6_readOpen_15 : decode cX6_readOpen 15 = .ok (.iconst 2, 1) := by decide +kernel
theorem dX6_readOpen_16 : decode cX6_readOpen 16 = .ok (.if_icmp .lt 12, 3) := by decide +kernel
theorem dX6_readOpen_19 : decode cX6_readOpen 19 = .ok (.aload_n 0, 1) := by decide +kernel
theorem dX6_readOpen_20 : decode cX6_readOpen 20 = .ok (.getfield 36, 3) := by decide +kernel
theorem dX6_readOpen_23 : decode cX6_readOpen 23 = .ok (.iconst 5, 1) := by decide +kernel
theorem dX6_readOpen_24 : decode cX6_readOpen 24 = .ok (.invokevirtual 70, 3) := by decide +kernel
theorem dX6_readOpen_27 : decode cX6_readOpen 27 = .ok (.ireturn, 1) := by decide +kernel
theorem dX6_readOpen_28 : decode cX6_readOpen 28 = .ok (.aload_n 0, 1) := by decide +kernel
theorem dX6_readOpen_29 : decode cX6_readOpen 29 = .ok (.getfield 36, 3) := by decide +kernel
theorem dX6_readOpen_32 : decode cX6_readOpen 32 = .ok (.iconst 4, 1) := by decide +kernel
theorem dX6_readOpen_33 : decode cX6_readOpen 33 = .ok (.invokevirtual 83, 3) := by decide +kernel
theorem dX6_readOpen_36 : decode cX6_readOpen 36 = .ok (.ifCond .ne 5, 3) := by decide +kernel
theorem dX6_readOpen_39 : decode cX6_readOpen 39 = .ok (.iconst 0, 1) := by decide +kernel
theorem dX6_readOpen_40 : decode cX6_readOpen 40 = .ok (.ireturn, 1) := by decide +kernel
theorem dX6_readOpen_41 : decode cX6_readOpen 41 = .ok (.aload_n 0, 1) := by decide +kernel
theorem dX6_readOpen_42 : decode cX6_readOpen 42 = .ok (.getfield 33, 3) := by decide +kernel
theorem dX6_readOpen_45 : decode cX6_readOpen 45 = .ok (.aload_n 0, 1) := by decide +kernel
theorem dX6_readOpen_46 : decode cX6_readOpen 46 = .ok (.getfield 51, 3) := by decide +kernel
theorem dX6_readOpen_49 : decode cX6_readOpen 49 = .ok (.iload_n 1, 1) := by decide +kernel
theorem dX6_readOpen_50 : decode cX6_readOpen 50 = .ok (.iastore, 1) := by decide +kernel
theorem dX6_readOpen_51 : decode cX6_readOpen 51 = .ok (.aload_n 0, 1) := by decide +kernel
theorem dX6_readOpen_52 : decode cX6_readOpen 52 = .ok (.dup, 1) := by decide +kernel
theorem dX6_readOpen_53 : decode cX6_readOpen 53 = .ok (.getfield 51, 3) := by decide +kernel
theorem dX6_readOpen_56 : decode cX6_readOpen 56 = .ok (.iconst 1, 1) := by decide +kernel
theorem dX6_readOpen_57 : decode cX6_readOpen 57 = .ok (.iadd, 1) := by decide +kernel
theorem dX6_readOpen_58 : decode cX6_readOpen 58 = .ok (.putfield 51, 3) := by decide +kernel
theorem dX6_readOpen_61 : decode cX6_readOpen 61 = .ok (.iconst 1, 1) := by decide +kernel
theorem dX6_readOpen_62 : decode cX6_readOpen 62 = .ok (.ireturn, 1) := by decide +kernel
theorem dX6_isEntry_0 : decode cX6_isEntry 0 = .ok (.iload_n 1, 1) := by decide +kernel
theorem dX6_isEntry_1 : decode cX6_isEntry 1 = .ok (.ifCond .lt 15, 3) := by decide +kernel
theorem dX6_isEntry_4 : decode cX6_isEntry 4 = .ok (.iload_n 1, 1) := by decide +kernel
theorem dX6_isEntry_5 : decode cX6_isEntry 5 = .ok (.aload_n 0, 1) := by decide +kernel
theorem dX6_isEntry_6 : decode cX6_isEntry 6 = .ok (.getfield 44, 3) := by decide +kernel
theorem dX6_isEntry_9 : decode cX6_isEntry 9 = .ok (.if_icmp .ge 7, 3) := by decide +kernel
theorem dX6_isEntry_12 : decode cX6_isEntry 12 = .ok (.iconst 1, 1) := by decide +kernel
theorem dX6_isEntry_13 : decode cX6_isEntry 13 = .ok (.goto 4, 3) := by decide +kernel
theorem dX6_isEntry_16 : decode cX6_isEntry 16 = .ok (.iconst 0, 1) := by decide +kernel
theorem dX6_isEntry_17 : decode cX6_isEntry 17 = .ok (.ireturn, 1) := by decide +kernel
theorem dX6_word_0 : decode cX6_word 0 = .ok (.aload_n 0, 1) := by decide +kernel
theorem dX6_word_1 : decode cX6_word 1 = .ok (.iload_n 1, 1) := by decide +kernel
theorem dX6_word_2 : decode cX6_word 2 = .ok (.invokevirtual 138, 3) := by decide +kernel
theorem dX6_word_5 : decode cX6_word 5 = .ok (.ifCond .eq 12, 3) := by decide +kernel
theorem dX6_word_8 : decode cX6_word 8 = .ok (.aload_n 0, 1) := by decide +kernel
theorem dX6_word_9 : decode cX6_word 9 = .ok (.getfield 13, 3) := by decide +kernel
theorem dX6_word_12 : decode cX6_word 12 = .ok (.iload_n 1, 1) := by decide +kernel
theorem dX6_word_13 : decode cX6_word 13 = .ok (.aaload, 1) := by decide +kernel
theorem dX6_word_14 : decode cX6_word 14 = .ok (.goto 6, 3) := by decide +kernel
theorem dX6_word_17 : decode cX6_word 17 = .ok (.getstatic 40, 3) := by decide +kernel
theorem dX6_word_20 : decode cX6_word 20 = .ok (.areturn, 1) := by decide +kernel
theorem dX6_number_0 : decode cX6_number 0 = .ok (.aload_n 0, 1) := by decide +kernel
theorem dX6_number_1 : decode cX6_number 1 = .ok (.iload_n 1, 1) := by decide +kernel
theorem dX6_number_2 : decode cX6_number 2 = .ok (.invokevirtual 138, 3) := by decide +kernel
theorem dX6_number_5 : decode cX6_number 5 = .ok (.ifCond .eq 12, 3) := by decide +kernel
theorem dX6_number_8 : decode cX6_number 8 = .ok (.aload_n 0, 1) := by decide +kernel
theorem dX6_number_9 : decode cX6_number 9 = .ok (.getfield 17, 3) := by decide +kernel
theorem dX6_number_12 : decode cX6_number 12 = .ok (.iload_n 1, 1) := by decide +kernel
theorem dX6_number_13 : decode cX6_number 13 = .ok (.iaload, 1) := by decide +kernel
theorem dX6_number_14 : decode cX6_number 14 = .ok (.goto 4, 3) := by decide +kernel
theorem dX6_number_17 : decode cX6_number 17 = .ok (.iconst 0, 1) := by decide +kernel
theorem dX6_number_18 : decode cX6_number 18 = .ok (.ireturn, 1) := by decide +kernel
theorem dX6_manyLetters_0 : decode cX6_manyLetters 0 = .ok (.aload_n 0, 1) := by decide +kernel
theorem dX6_manyLetters_1 : decode cX6_manyLetters 1 = .ok (.iload_n 1, 1) := by decide +kernel
theorem dX6_manyLetters_2 : decode cX6_manyLetters 2 = .ok (.invokevirtual 138, 3) := by decide +kernel
theorem dX6_manyLetters_5 : decode cX6_manyLetters 5 = .ok (.ifCond .eq 12, 3) := by decide +kernel
theorem dX6_manyLetters_8 : decode cX6_manyLetters 8 = .ok (.aload_n 0, 1) := by decide +kernel
theorem dX6_manyLetters_9 : decode cX6_manyLetters 9 = .ok (.getfield 24, 3) := by decide +kernel
theorem dX6_manyLetters_12 : decode cX6_manyLetters 12 = .ok (.iload_n 1, 1) := by decide +kernel
theorem dX6_manyLetters_13 : decode cX6_manyLetters 13 = .ok (.iaload, 1) := by decide +kernel
theorem dX6_manyLetters_14 : decode cX6_manyLetters 14 = .ok (.goto 4, 3) := by decide +kernel
theorem dX6_manyLetters_17 : decode cX6_manyLetters 17 = .ok (.iconst 0, 1) := by decide +kernel
theorem dX6_manyLetters_18 : decode cX6_manyLetters 18 = .ok (.ireturn, 1) := by decide +kernel
theorem dX6_letter_0 : decode cX6_letter 0 = .ok (.aload_n 0, 1) := by decide +kernel
theorem dX6_letter_1 : decode cX6_letter 1 = .ok (.iload_n 1, 1) := by decide +kernel
theorem dX6_letter_2 : decode cX6_letter 2 = .ok (.invokevirtual 138, 3) := by decide +kernel
theorem dX6_letter_5 : decode cX6_letter 5 = .ok (.ifCond .eq 24, 3) := by decide +kernel
theorem dX6_letter_8 : decode cX6_letter 8 = .ok (.aload_n 0, 1) := by decide +kernel
theorem dX6_letter_9 : decode cX6_letter 9 = .ok (.getfield 36, 3) := by decide +kernel
theorem dX6_letter_12 : decode cX6_letter 12 = .ok (.aload_n 0, 1) := by decide +kernel
theorem dX6_letter_13 : decode cX6_letter 13 = .ok (.getfield 21, 3) := by decide +kernel
theorem dX6_letter_16 : decode cX6_letter 16 = .ok (.iload_n 1, 1) := by decide +kernel
theorem dX6_letter_17 : decode cX6_letter 17 = .ok (.iaload, 1) := by decide +kernel
theorem dX6_letter_18 : decode cX6_letter 18 = .ok (.iload_n 2, 1) := by decide +kernel
theorem dX6_letter_19 : decode cX6_letter 19 = .ok (.iadd, 1) := by decide +kernel
theorem dX6_letter_20 : decode cX6_letter 20 = .ok (.invokevirtual 141, 3) := by decide +kernel
theorem dX6_letter_23 : decode cX6_letter 23 = .ok (.bipush 97, 2) := by decide +kernel
theorem dX6_letter_25 : decode cX6_letter 25 = .ok (.isub, 1) := by decide +kernel
theorem dX6_letter_26 : decode cX6_letter 26 = .ok (.goto 4, 3) := by decide +kernel
theorem dX6_letter_29 : decode cX6_letter 29 = .ok (.iconst 0, 1) := by decide +kernel
theorem dX6_letter_30 : decode cX6_letter 30 = .ok (.ireturn, 1) := by decide +kernel
theorem dX6_firstOrder_0 : decode cX6_firstOrder 0 = .ok (.aload_n 0, 1) := by decide +kernel
theorem dX6_firstOrder_1 : decode cX6_firstOrder 1 = .ok (.iconst 0, 1) := by decide +kernel
theorem dX6_firstOrder_2 : decode cX6_firstOrder 2 = .ok (.invokevirtual 145, 3) := by decide +kernel
theorem dX6_firstOrder_5 : decode cX6_firstOrder 5 = .ok (.ireturn, 1) := by decide +kernel
theorem dX6_orderBehind_0 : decode cX6_orderBehind 0 = .ok (.aload_n 0, 1) := by decide +kernel
theorem dX6_orderBehind_1 : decode cX6_orderBehind 1 = .ok (.iload_n 1, 1) := by decide +kernel
theorem dX6_orderBehind_2 : decode cX6_orderBehind 2 = .ok (.iconst 1, 1) := by decide +kernel
theorem dX6_orderBehind_3 : decode cX6_orderBehind 3 = .ok (.iadd, 1) := by decide +kernel
theorem dX6_orderBehind_4 : decode cX6_orderBehind 4 = .ok (.invokevirtual 145, 3) := by decide +kernel
theorem dX6_orderBehind_7 : decode cX6_orderBehind 7 = .ok (.ireturn, 1) := by decide +kernel
theorem dX6_orderFrom_0 : decode cX6_orderFrom 0 = .ok (.iload_n 1, 1) := by decide +kernel
theorem dX6_orderFrom_1 : decode cX6_orderFrom 1 = .ok (.istore_n 2, 1) := by decide +kernel
theorem dX6_orderFrom_2 : decode cX6_orderFrom 2 = .ok (.iconst 0, 1) := by decide +kernel
theorem dX6_orderFrom_3 : decode cX6_orderFrom 3 = .ok (.istore_n 3, 1) := by decide +kernel
theorem dX6_orderFrom_4 : decode cX6_orderFrom 4 = .ok (.iload_n 3, 1) := by decide +kernel
theorem dX6_orderFrom_5 : decode cX6_orderFrom 5 = .ok (.ldc 148, 2) := by decide +kernel
theorem dX6_orderFrom_7 : decode cX6_orderFrom 7 = .ok (.if_icmp .ge 100, 3) := by decide +kernel
theorem dX6_orderFrom_10 : decode cX6_orderFrom 10 = .ok (.aload_n 0, 1) := by decide +kernel
theorem dX6_orderFrom_11 : decode cX6_orderFrom 11 = .ok (.iload_n 2, 1) := by decide +kernel
theorem dX6_orderFrom_12 : decode cX6_orderFrom 12 = .ok (.invokevirtual 138, 3) := by decide +kernel
theorem dX6_orderFrom_15 : decode cX6_orderFrom 15 = .ok (.ifCond .eq 92, 3) := by decide +kernel
theorem dX6_orderFrom_18 : decode cX6_orderFrom 18 = .ok (.aload_n 0, 1) := by decide +kernel
theorem dX6_orderFrom_19 : decode cX6_orderFrom 19 = .ok (.getfield 13, 3) := by decide +kernel
theorem dX6_orderFrom_22 : decode cX6_orderFrom 22 = .ok (.iload_n 2, 1) := by decide +kernel
theorem dX6_orderFrom_23 : decode cX6_orderFrom 23 = .ok (.aaload, 1) := by decide +kernel
theorem dX6_orderFrom_24 : decode cX6_orderFrom 24 = .ok (.getstatic 149, 3) := by decide +kernel
theorem dX6_orderFrom_27 : decode cX6_orderFrom 27 = .ok (.if_acmp .ne 30, 3) := by decide +kernel
theorem dX6_orderFrom_30 : decode cX6_orderFrom 30 = .ok (.aload_n 0, 1) := by decide +kernel
theorem dX6_orderFrom_31 : decode cX6_orderFrom 31 = .ok (.getfield 30, 3) := by decide +kernel
theorem dX6_orderFrom_34 : decode cX6_orderFrom 34 = .ok (.iload_n 2, 1) := by decide +kernel
theorem dX6_orderFrom_35 : decode cX6_orderFrom 35 = .ok (.aload_n 0, 1) := by decide +kernel
theorem dX6_orderFrom_36 : decode cX6_orderFrom 36 = .ok (.getfield 17, 3) := by decide +kernel
theorem dX6_orderFrom_39 : decode cX6_orderFrom 39 = .ok (.iload_n 2, 1) := by decide +kernel
theorem dX6_orderFrom_40 : decode cX6_orderFrom 40 = .ok (.iaload, 1) := by decide +kernel
theorem dX6_orderFrom_41 : decode cX6_orderFrom 41 = .ok (.iastore, 1) := by decide +kernel
theorem dX6_orderFrom_42 : decode cX6_orderFrom 42 = .ok (.aload_n 0, 1) := by decide +kernel
theorem dX6_orderFrom_43 : decode cX6_orderFrom 43 = .ok (.iload_n 2, 1) := by decide +kernel
theorem dX6_orderFrom_44 : decode cX6_orderFrom 44 = .ok (.aload_n 0, 1) := by decide +kernel
theorem dX6_orderFrom_45 : decode cX6_orderFrom 45 = .ok (.getfield 27, 3) := by decide +kernel
theorem dX6_orderFrom_48 : decode cX6_orderFrom 48 = .ok (.iload_n 2, 1) := by decide +kernel
theorem dX6_orderFrom_49 : decode cX6_orderFrom 49 = .ok (.iaload, 1) := by decide +kernel
theorem dX6_orderFrom_50 : decode cX6_orderFrom 50 = .ok (.invokevirtual 152, 3) := by decide +kernel
theorem dX6_orderFrom_53 : decode cX6_orderFrom 53 = .ok (.istore_n 2, 1) := by decide +kernel
theorem dX6_orderFrom_54 : decode cX6_orderFrom 54 = .ok (.goto 47, 3) := by decide +kernel
theorem dX6_orderFrom_57 : decode cX6_orderFrom 57 = .ok (.aload_n 0, 1) := by decide +kernel
theorem dX6_orderFrom_58 : decode cX6_orderFrom 58 = .ok (.getfield 13, 3) := by decide +kernel
theorem dX6_orderFrom_61 : decode cX6_orderFrom 61 = .ok (.iload_n 2, 1) := by decide +kernel
theorem dX6_orderFrom_62 : decode cX6_orderFrom 62 = .ok (.aaload, 1) := by decide +kernel
theorem dX6_orderFrom_63 : decode cX6_orderFrom 63 = .ok (.getstatic 73, 3) := by decide +kernel
theorem dX6_orderFrom_66 : decode cX6_orderFrom 66 = .ok (.if_acmp .ne 33, 3) := by decide +kernel
theorem dX6_orderFrom_69 : decode cX6_orderFrom 69 = .ok (.aload_n 0, 1) := by decide +kernel
theorem dX6_orderFrom_70 : decode cX6_orderFrom 70 = .ok (.getfield 30, 3) := by decide +kernel
theorem dX6_orderFrom_73 : decode cX6_orderFrom 73 = .ok (.aload_n 0, 1) := by decide +kernel
theorem dX6_orderFrom_74 : decode cX6_orderFrom 74 = .ok (.getfield 27, 3) := by decide +kernel
theorem dX6_orderFrom_77 : decode cX6_orderFrom 77 = .ok (.iload_n 2, 1) := by decide +kernel
theorem dX6_orderFrom_78 : decode cX6_orderFrom 78 = .ok (.iaload, 1) := by decide +kernel
theorem dX6_orderFrom_79 : decode cX6_orderFrom 79 = .ok (.dup2, 1) := by decide +kernel
theorem dX6_orderFrom_80 : decode cX6_orderFrom 80 = .ok (.iaload, 1) := by decide +kernel
theorem dX6_orderFrom_81 : decode cX6_orderFrom 81 = .ok (.iconst 1, 1) := by decide +kernel
theorem dX6_orderFrom_82 : decode cX6_orderFrom 82 = .ok (.isub, 1) := by decide +kernel
theorem dX6_orderFrom_83 : decode cX6_orderFrom 83 = .ok (.iastore, 1) := by decide +kernel
theorem dX6_orderFrom_84 : decode cX6_orderFrom 84 = .ok (.aload_n 0, 1) := by decide +kernel
theorem dX6_orderFrom_85 : decode cX6_orderFrom 85 = .ok (.aload_n 0, 1) := by decide +kernel
theorem dX6_orderFrom_86 : decode cX6_orderFrom 86 = .ok (.getfield 27, 3) := by decide +kernel
theorem dX6_orderFrom_89 : decode cX6_orderFrom 89 = .ok (.iload_n 2, 1) := by decide +kernel
theorem dX6_orderFrom_90 : decode cX6_orderFrom 90 = .ok (.iaload, 1) := by decide +kernel
theorem dX6_orderFrom_91 : decode cX6_orderFrom 91 = .ok (.iload_n 2, 1) := by decide +kernel
theorem dX6_orderFrom_92 : decode cX6_orderFrom 92 = .ok (.invokevirtual 152, 3) := by decide +kernel
theorem dX6_orderFrom_95 : decode cX6_orderFrom 95 = .ok (.istore_n 2, 1) := by decide +kernel
theorem dX6_orderFrom_96 : decode cX6_orderFrom 96 = .ok (.goto 5, 3) := by decide +kernel
theorem dX6_orderFrom_99 : decode cX6_orderFrom 99 = .ok (.iload_n 2, 1) := by decide +kernel
theorem dX6_orderFrom_100 : decode cX6_orderFrom 100 = .ok (.ireturn, 1) := by decide +kernel
theorem dX6_orderFrom_101 : decode cX6_orderFrom 101 = .ok (.iinc 3 1, 3) := by decide +kernel
theorem dX6_orderFrom_104 : decode cX6_orderFrom 104 = .ok (.goto (-100), 3) := by decide +kernel
theorem dX6_orderFrom_107 : decode cX6_orderFrom 107 = .ok (.iconst (-1), 1) := by decide +kernel
theorem dX6_orderFrom_108 : decode cX6_orderFrom 108 = .ok (.ireturn, 1) := by decide +kernel
theorem dX6_turn_0 : decode cX6_turn 0 = .ok (.aload_n 0, 1) := by decide +kernel
theorem dX6_turn_1 : decode cX6_turn 1 = .ok (.getfield 30, 3) := by decide +kernel
theorem dX6_turn_4 : decode cX6_turn 4 = .ok (.iload_n 1, 1) := by decide +kernel
theorem dX6_turn_5 : decode cX6_turn 5 = .ok (.iaload, 1) := by decide +kernel
theorem dX6_turn_6 : decode cX6_turn 6 = .ok (.ifCond .le 7, 3) := by decide +kernel
theorem dX6_turn_9 : decode cX6_turn 9 = .ok (.iload_n 1, 1) := by decide +kernel
theorem dX6_turn_10 : decode cX6_turn 10 = .ok (.goto 4, 3) := by decide +kernel
theorem dX6_turn_13 : decode cX6_turn 13 = .ok (.iload_n 2, 1) := by decide +kernel
theorem dX6_turn_14 : decode cX6_turn 14 = .ok (.iconst 1, 1) := by decide +kernel
theorem dX6_turn_15 : decode cX6_turn 15 = .ok (.iadd, 1) := by decide +kernel
theorem dX6_turn_16 : decode cX6_turn 16 = .ok (.ireturn, 1) := by decide +kernel
theorem dX7_init_0 : decode cX7_init 0 = .ok (.aload_n 0, 1) := by decide +kernel
theorem dX7_init_1 : decode cX7_init 1 = .ok (.invokespecial 3, 3) := by decide +kernel
theorem dX7_init_4 : decode cX7_init 4 = .ok (.aload_n 0, 1) := by decide +kernel
theorem dX7_init_5 : decode cX7_init 5 = .ok (.aload_n 1, 1) := by decide +kernel
theorem dX7_init_6 : decode cX7_init 6 = .ok (.putfield 9, 3) := by decide +kernel
theorem dX7_init_9 : decode cX7_init 9 = .ok (.aload_n 0, 1) := by decide +kernel
theorem dX7_init_10 : decode cX7_init 10 = .ok (.aload_n 2, 1) := by decide +kernel
theorem dX7_init_11 : decode cX7_init 11 = .ok (.putfield 15, 3) := by decide +kernel
theorem dX7_init_14 : decode cX7_init 14 = .ok (.return_, 1) := by decide +kernel
theorem dX7_read_0 : decode cX7_read 0 = .ok (.aload_n 0, 1) := by decide +kernel
theorem dX7_read_1 : decode cX7_read 1 = .ok (.getfield 15, 3) := by decide +kernel
theorem dX7_read_4 : decode cX7_read 4 = .ok (.invokevirtual 19, 3) := by decide +kernel
theorem dX7_read_7 : decode cX7_read 7 = .ok (.aload_n 0, 1) := by decide +kernel
theorem dX7_read_8 : decode cX7_read 8 = .ok (.iconst 0, 1) := by decide +kernel
theorem dX7_read_9 : decode cX7_read 9 = .ok (.putfield 24, 3) := by decide +kernel
theorem dX7_read_12 : decode cX7_read 12 = .ok (.aload_n 0, 1) := by decide +kernel
theorem dX7_read_13 : decode cX7_read 13 = .ok (.iconst 0, 1) := by decide +kernel
theorem dX7_read_14 : decode cX7_read 14 = .ok (.putfield 28, 3) := by decide +kernel
theorem dX7_read_17 : decode cX7_read 17 = .ok (.aload_n 0, 1) := by decide +kernel
theorem dX7_read_18 : decode cX7_read 18 = .ok (.iconst 0, 1) := by decide +kernel
theorem dX7_read_19 : decode cX7_read 19 = .ok (.putfield 32, 3) := by decide +kernel
theorem dX7_read_22 : decode cX7_read 22 = .ok (.aload_n 0, 1) := by decide +kernel
theorem dX7_read_23 : decode cX7_read 23 = .ok (.iconst 0, 1) := by decide +kernel
theorem dX7_read_24 : decode cX7_read 24 = .ok (.putfield 35, 3) := by decide +kernel
theorem dX7_read_27 : decode cX7_read 27 = .ok (.aload_n 0, 1) := by decide +kernel
theorem dX7_read_28 : decode cX7_read 28 = .ok (.getfield 9, 3) := by decide +kernel
theorem dX7_read_31 : decode cX7_read 31 = .ok (.invokevirtual 38, 3) := by decide +kernel
theorem dX7_read_34 : decode cX7_read 34 = .ok (.aload_n 0, 1) := by decide +kernel
theorem dX7_read_35 : decode cX7_read 35 = .ok (.invokevirtual 43, 3) := by decide +kernel
theorem dX7_read_38 : decode cX7_read 38 = .ok (.ifCond .eq 21, 3) := by decide +kernel
theorem dX7_read_41 : decode cX7_read 41 = .ok (.aload_n 0, 1) := by decide +kernel
theorem dX7_read_42 : decode cX7_read 42 = .ok (.invokevirtual 47, 3) := by decide +kernel
theorem dX7_read_45 : decode cX7_read 45 = .ok (.ifCond .eq 14, 3) := by decide +kernel
theorem dX7_read_48 : decode cX7_read 48 = .ok (.aload_n 0, 1) := by decide +kernel
theorem dX7_read_49 : decode cX7_read 49 = .ok (.invokevirtual 50, 3) := by decide +kernel
theorem dX7_read_52 : decode cX7_read 52 = .ok (.ifCond .eq 7, 3) := by decide +kernel
theorem dX7_read_55 : decode cX7_read 55 = .ok (.iconst 1, 1) := by decide +kernel
theorem dX7_read_56 : decode cX7_read 56 = .ok (.goto 4, 3) := by decide +kernel
theorem dX7_read_59 : decode cX7_read 59 = .ok (.iconst 0, 1) := by decide +kernel
theorem dX7_read_60 : decode cX7_read 60 = .ok (.ireturn, 1) := by decide +kernel
theorem dX7_readRules_0 : decode cX7_readRules 0 = .ok (.iconst 0, 1) := by decide +kernel
theorem dX7_readRules_1 : decode cX7_readRules 1 = .ok (.istore_n 1, 1) := by decide +kernel
theorem dX7_readRules_2 : decode cX7_readRules 2 = .ok (.iload_n 1, 1) := by decide +kernel
theorem dX7_readRules_3 : decode cX7_readRules 3 = .ok (.bipush 40, 2) := by decide +kernel
theorem dX7_readRules_5 : decode cX7_readRules 5 = .ok (.if_icmp .gt 128, 3) := by decide +kernel
theorem dX7_readRules_8 : decode cX7_readRules 8 = .ok (.aload_n 0, 1) := by decide +kernel
theorem dX7_readRules_9 : decode cX7_readRules 9 = .ok (.getfield 9, 3) := by decide +kernel
theorem dX7_readRules_12 : decode cX7_readRules 12 = .ok (.invokevirtual 53, 3) := by decide +kernel
theorem dX7_readRules_15 : decode cX7_readRules 15 = .ok (.getstatic 57, 3) := by decide +kernel
theorem dX7_readRules_18 : decode cX7_readRules 18 = .ok (.if_acmp .ne 115, 3) := by decide +kernel
theorem dX7_readRules_21 : decode cX7_readRules 21 = .ok (.iload_n 1, 1) := by decide +kernel
theorem dX7_readRules_22 : decode cX7_readRules 22 = .ok (.bipush 40, 2) := by decide +kernel
theorem dX7_readRules_24 : decode cX7_readRules 24 = .ok (.if_icmp .ne 12, 3) := by decide +kernel
theorem dX7_readRules_27 : decode cX7_readRules 27 = .ok (.aload_n 0, 1) := by decide +kernel
theorem dX7_readRules_28 : decode cX7_readRules 28 = .ok (.getfield 9, 3) := by decide +kernel
theorem dX7_readRules_31 : decode cX7_readRules 31 = .ok (.iconst 5, 1) := by decide +kernel
theorem dX7_readRules_32 : decode cX7_readRules 32 = .ok (.invokevirtual 63, 3) := by decide +kernel
theorem dX7_readRules_35 : decode cX7_readRules 35 = .ok (.ireturn, 1) := by decide +kernel
theorem dX7_readRules_36 : decode cX7_readRules 36 = .ok (.aload_n 0, 1) := by decide +kernel
theorem dX7_readRules_37 : decode cX7_readRules 37 = .ok (.getfield 9, 3) := by decide +kernel
theorem dX7_readRules_40 : decode cX7_readRules 40 = .ok (.invokevirtual 67, 3) := by decide +kernel
theorem dX7_readRules_43 : decode cX7_readRules 43 = .ok (.aload_n 0, 1) := by decide +kernel
theorem dX7_readRules_44 : decode cX7_readRules 44 = .ok (.aload_n 0, 1) := by decide +kernel
theorem dX7_readRules_45 : decode cX7_readRules 45 = .ok (.getfield 15, 3) := by decide +kernel
theorem dX7_readRules_48 : decode cX7_readRules 48 = .ok (.iload_n 1, 1) := by decide +kernel
theorem dX7_readRules_49 : decode cX7_readRules 49 = .ok (.invokevirtual 70, 3) := by decide +kernel
theorem dX7_readRules_52 : decode cX7_readRules 52 = .ok (.invokevirtual 74, 3) := by decide +kernel
theorem dX7_readRules_55 : decode cX7_readRules 55 = .ok (.ifCond .ne 5, 3) := by decide +kernel
theorem dX7_readRules_58 : decode cX7_readRules 58 = .ok (.iconst 0, 1) := by decide +kernel
theorem dX7_readRules_59 : decode cX7_readRules 59 = .ok (.ireturn, 1) := by decide +kernel
theorem dX7_readRules_60 : decode cX7_readRules 60 = .ok (.aload_n 0, 1) := by decide +kernel
theorem dX7_readRules_61 : decode cX7_readRules 61 = .ok (.getfield 9, 3) := by decide +kernel
theorem dX7_readRules_64 : decode cX7_readRules 64 = .ok (.iconst 3, 1) := by decide +kernel
theorem dX7_readRules_65 : decode cX7_readRules 65 = .ok (.invokevirtual 78, 3) := by decide +kernel
theorem dX7_readRules_68 : decode cX7_readRules 68 = .ok (.ifCond .eq 27, 3) := by decide +kernel
theorem dX7_readRules_71 : decode cX7_readRules 71 = .ok (.aload_n 0, 1) := by decide +kernel
theorem dX7_readRules_72 : decode cX7_readRules 72 = .ok (.getfield 15, 3) := by decide +kernel
theorem dX7_readRules_75 : decode cX7_readRules 75 = .ok (.iload_n 1, 1) := by decide +kernel
theorem dX7_readRules_76 : decode cX7_readRules 76 = .ok (.invokevirtual 70, 3) := by decide +kernel
theorem dX7_readRules_79 : decode cX7_readRules 79 = .ok (.invokevirtual 81, 3) := by decide +kernel
theorem dX7_readRules_82 : decode cX7_readRules 82 = .ok (.iconst 2, 1) := by decide +kernel
theorem dX7_readRules_83 : decode cX7_readRules 83 = .ok (.if_icmp .ge 12, 3) := by decide +kernel
theorem dX7_readRules_86 : decode cX7_readRules 86 = .ok (.aload_n 0, 1) := by decide +kernel
theorem dX7_readRules_87 : decode cX7_readRules 87 = .ok (.getfield 9, 3) := by decide +kernel
theorem dX7_readRules_90 : decode cX7_readRules 90 = .ok (.iconst 3, 1) := by decide +kernel
theorem dX7_readRules_91 : decode cX7_readRules 91 = .ok (.invokevirtual 63, 3) := by decide +kernel
theorem dX7_readRules_94 : decode cX7_readRules 94 = .ok (.ireturn, 1) := by decide +kernel
theorem dX7_readRules_95 : decode cX7_readRules 95 = .ok (.aload_n 0, 1) := by decide +kernel
theorem dX7_readRules_96 : decode cX7_readRules 96 = .ok (.getfield 9, 3) := by decide +kernel
theorem dX7_readRules_99 : decode cX7_readRules 99 = .ok (.iconst 3, 1) := by decide +kernel
theorem dX7_readRules_100 : decode cX7_readRules 100 = .ok (.invokevirtual 87, 3) := by decide +kernel
theorem dX7_readRules_103 : decode cX7_readRules 103 = .ok (.ifCond .ne 5, 3) := by decide +kernel
theorem dX7_readRules_106 : decode cX7_readRules 106 = .ok (.iconst 0, 1) := by decide +kernel
theorem dX7_readRules_107 : decode cX7_readRules 107 = .ok (.ireturn, 1) := by decide +kernel
theorem dX7_readRules_108 : decode cX7_readRules 108 = .ok (.aload_n 0, 1) := by decide +kernel
theorem dX7_readRules_109 : decode cX7_readRules 109 = .ok (.getfield 15, 3) := by decide +kernel
theorem dX7_readRules_112 : decode cX7_readRules 112 = .ok (.iload_n 1, 1) := by decide +kernel
theorem dX7_readRules_113 : decode cX7_readRules 113 = .ok (.aload_n 0, 1) := by decide +kernel
theorem dX7_readRules_114 : decode cX7_readRules 114 = .ok (.getfield 90, 3) := by decide +kernel
theorem dX7_readRules_117 : decode cX7_readRules 117 = .ok (.invokevirtual 93, 3) := by decide +kernel
theorem dX7_readRules_120 : decode cX7_readRules 120 = .ok (.aload_n 0, 1) := by decide +kernel
theorem dX7_readRules_121 : decode cX7_readRules 121 = .ok (.iload_n 1, 1) := by decide +kernel
theorem dX7_readRules_122 : decode cX7_readRules 122 = .ok (.iconst 1, 1) := by decide +kernel
theorem dX7_readRules_123 : decode cX7_readRules 123 = .ok (.iadd, 1) := by decide +kernel
theorem dX7_readRules_124 : decode cX7_readRules 124 = .ok (.putfield 24, 3) := by decide +kernel
theorem dX7_readRules_127 : decode cX7_readRules 127 = .ok (.iinc 1 1, 3) := by decide +kernel
theorem dX7_readRules_130 : decode cX7_readRules 130 = .ok (.goto (-128), 3) := by decide +kernel
theorem dX7_readRules_133 : decode cX7_readRules 133 = .ok (.iconst 1, 1) := by decide +kernel
theorem dX7_readRules_134 : decode cX7_readRules 134 = .ok (.ireturn, 1) := by decide +kernel
theorem dX7_readStart_0 : decode cX7_readStart 0 = .ok (.aload_n 0, 1) := by decide +kernel
theorem dX7_readStart_1 : decode cX7_readStart 1 = .ok (.getfield 9, 3) := by decide +kernel
theorem dX7_readStart_4 : decode cX7_readStart 4 = .ok (.invokevirtual 53, 3) := by decide +kernel
theorem dX7_readStart_7 : decode cX7_readStart 7 = .ok (.getstatic 97, 3) := by decide +kernel
theorem dX7_readStart_10 : decode cX7_readStart 10 = .ok (.if_acmp .eq 12, 3) := by decide +kernel
theorem dX7_readStart_13 : decode cX7_readStart 13 = .ok (.aload_n 0, 1) := by decide +kernel
theorem dX7_readStart_14 : decode cX7_readStart 14 = .ok (.getfield 9, 3) := by decide +kernel
theorem dX7_readStart_17 : decode cX7_readStart 17 = .ok (.iconst 1, 1) := by decide +kernel
theorem dX7_readStart_18 : decode cX7_readStart 18 = .ok (.invokevirtual 63, 3) := by decide +kernel
theorem dX7_readStart_21 : decode cX7_readStart 21 = .ok (.ireturn, 1) := by decide +kernel
theorem dX7_readStart_22 : decode cX7_readStart 22 = .ok (.aload_n 0, 1) := by decide +kernel
theorem dX7_readStart_23 : decode cX7_readStart 23 = .ok (.getfield 9, 3) := by decide +kernel
theorem dX7_readStart_26 : decode cX7_readStart 26 = .ok (.invokevirtual 67, 3) := by decide +kernel
theorem dX7_readStart_29 : decode cX7_readStart 29 = .ok (.aload_n 0, 1) := by decide +kernel
theorem dX7_readStart_30 : decode cX7_readStart 30 = .ok (.aload_n 0, 1) := by decide +kernel
theorem dX7_readStart_31 : decode cX7_readStart 31 = .ok (.getfield 15, 3) := by decide +kernel
theorem dX7_readStart_34 : decode cX7_readStart 34 = .ok (.invokevirtual 100, 3) := by decide +kernel
theorem dX7_readStart_37 : decode cX7_readStart 37 = .ok (.invokevirtual 74, 3) := by decide +kernel
theorem dX7_readStart_40 : decode cX7_readStart 40 = .ok (.ireturn, 1) := by decide +kernel
theorem dX7_readItems_0 : decode cX7_readItems 0 = .ok (.aload_n 0, 1) := by decide +kernel
theorem dX7_readItems_1 : decode cX7_readItems 1 = .ok (.iconst 0, 1) := by decide +kernel
theorem dX7_readItems_2 : decode cX7_readItems 2 = .ok (.putfield 90, 3) := by decide +kernel
theorem dX7_readItems_5 : decode cX7_readItems 5 = .ok (.iconst 0, 1) := by decide +kernel
theorem dX7_readItems_6 : decode cX7_readItems 6 = .ok (.istore_n 2, 1) := by decide +kernel
theorem dX7_readItems_7 : decode cX7_readItems 7 = .ok (.iload_n 2, 1) := by decide +kernel
theorem dX7_readItems_8 : decode cX7_readItems 8 = .ok (.sipush 600, 3) := by decide +kernel
theorem dX7_readItems_11 : decode cX7_readItems 11 = .ok (.if_icmp .gt 76, 3) := by decide +kernel
theorem dX7_readItems_14 : decode cX7_readItems 14 = .ok (.aload_n 0, 1) := by decide +kernel
theorem dX7_readItems_15 : decode cX7_readItems 15 = .ok (.getfield 9, 3) := by decide +kernel
theorem dX7_readItems_18 : decode cX7_readItems 18 = .ok (.iconst 1, 1) := by decide +kernel
theorem dX7_readItems_19 : decode cX7_readItems 19 = .ok (.invokevirtual 78, 3) := by decide +kernel
theorem dX7_readItems_22 : decode cX7_readItems 22 = .ok (.ifCond .eq 12, 3) := by decide +kernel
theorem dX7_readItems_25 : decode cX7_readItems 25 = .ok (.aload_n 0, 1) := by decide +kernel
theorem dX7_readItems_26 : decode cX7_readItems 26 = .ok (.aload_n 1, 1) := by decide +kernel
theorem dX7_readItems_27 : decode cX7_readItems 27 = .ok (.invokevirtual 104, 3) := by decide +kernel
theorem dX7_readItems_30 : decode cX7_readItems 30 = .ok (.istore_n 3, 1) := by decide +kernel
theorem dX7_readItems_31 : decode cX7_readItems 31 = .ok (.goto 44, 3) := by decide +kernel
theorem dX7_readItems_34 : decode cX7_readItems 34 = .ok (.aload_n 0, 1) := by decide +kernel
theorem dX7_readItems_35 : decode cX7_readItems 35 = .ok (.getfield 9, 3) := by decide +kernel
theorem dX7_readItems_38 : decode cX7_readItems 38 = .ok (.iconst 4, 1) := by decide +kernel
theorem dX7_readItems_39 : decode cX7_readItems 39 = .ok (.invokevirtual 78, 3) := by decide +kernel
theorem dX7_readItems_42 : decode cX7_readItems 42 = .ok (.ifCond .eq 12, 3) := by decide +kernel
theorem dX7_readItems_45 : decode cX7_readItems 45 = .ok (.aload_n 0, 1) := by decide +kernel
theorem dX7_readItems_46 : decode cX7_readItems 46 = .ok (.aload_n 1, 1) := by decide +kernel
theorem dX7_readItems_47 : decode cX7_readItems 47 = .ok (.invokevirtual 107, 3) := by decide +kernel
theorem dX7_readItems_50 : decode cX7_readItems 50 = .ok (.istore_n 3, 1) := by decide +kernel
theorem dX7_readItems_51 : decode cX7_readItems 51 = .ok (.goto 24, 3) := by decide +kernel
theorem dX7_readItems_54 : decode cX7_readItems 54 = .ok (.iload_n 2, 1) := by decide +kernel
theorem dX7_readItems_55 : decode cX7_readItems 55 = .ok (.ifCond .gt 14, 3) := by decide +kernel
theorem dX7_readItems_58 : decode cX7_readItems 58 = .ok (.aload_n 0, 1) := by decide +kernel
theorem dX7_readItems_59 : decode cX7_readItems 59 = .ok (.getfield 9, 3) := by decide +kernel
theorem dX7_readItems_62 : decode cX7_readItems 62 = .ok (.iconst 1, 1) := by decide +kernel
theorem dX7_readItems_63 : decode cX7_readItems 63 = .ok (.invokevirtual 63, 3) := by decide +kernel
theorem dX7_readItems_66 : decode cX7_readItems 66 = .ok (.ifCond .eq 7, 3) := by decide +kernel
theorem dX7_readItems_69 : decode cX7_readItems 69 = .ok (.iconst 1, 1) := by decide +kernel
theorem dX7_readItems_70 : decode cX7_readItems 70 = .ok (.goto 4, 3) := by decide +kernel
theorem dX7_readItems_73 : decode cX7_readItems 73 = .ok (.iconst 0, 1) := by decide +kernel
theorem dX7_readItems_74 : decode cX7_readItems 74 = .ok (.ireturn, 1) := by decide +kernel
theorem dX7_readItems_75 : decode cX7_readItems 75 = .ok (.iload_n 3, 1) := by decide +kernel
theorem dX7_readItems_76 : decode cX7_readItems 76 = .ok (.ifCond .ne 5, 3) := by decide +kernel
theorem dX7_readItems_79 : decode cX7_readItems 79 = .ok (.iconst 0, 1) := by decide +kernel
theorem dX7_readItems_80 : decode cX7_readItems 80 = .ok (.ireturn, 1) := by decide +kernel
theorem dX7_readItems_81 : decode cX7_readItems 81 = .ok (.iinc 2 1, 3) := by decide +kernel
theorem dX7_readItems_84 : decode cX7_readItems 84 = .ok (.goto (-77), 3) := by decide +kernel
theorem dX7_readItems_87 : decode cX7_readItems 87 = .ok (.aload_n 0, 1) := by decide +kernel
theorem dX7_readItems_88 : decode cX7_readItems 88 = .ok (.getfield 9, 3) := by decide +kernel
theorem dX7_readItems_91 : decode cX7_readItems 91 = .ok (.iconst 1, 1) := by decide +kernel
theorem dX7_readItems_92 : decode cX7_readItems 92 = .ok (.invokevirtual 63, 3) := by decide +kernel
theorem dX7_readItems_95 : decode cX7_readItems 95 = .ok (.ireturn, 1) := by decide +kernel
theorem dX7_readLetters_0 : decode cX7_readLetters 0 = .ok (.aload_n 0, 1) := by decide +kernel
theorem dX7_readLetters_1 : decode cX7_readLetters 1 = .ok (.getfield 9, 3) := by decide +kernel
theorem dX7_readLetters_4 : decode cX7_readLetters 4 = .ok (.invokevirtual 110, 3) := by decide +kernel
theorem dX7_readLetters_7 : decode cX7_readLetters 7 = .ok (.istore_n 2, 1) := by decide +kernel
theorem dX7_readLetters_8 : decode cX7_readLetters 8 = .ok (.aload_n 0, 1) := by decide +kernel
theorem dX7_readLetters_9 : decode cX7_readLetters 9 = .ok (.getfield 90, 3) := by decide +kernel
theorem dX7_readLetters_12 : decode cX7_readLetters 12 = .ok (.iload_n 2, 1) := by decide +kernel
theorem dX7_readLetters_13 : decode cX7_readLetters 13 = .ok (.iadd, 1) := by decide +kernel
theorem dX7_readLetters_14 : decode cX7_readLetters 14 = .ok (.sipush 400, 3) := by decide +kernel
theorem dX7_readLetters_17 : decode cX7_readLetters 17 = .ok (.if_icmp .le 12, 3) := by decide +kernel
theorem dX7_readLetters_20 : decode cX7_readLetters 20 = .ok (.aload_n 0, 1) := by decide +kernel
theorem dX7_readLetters_21 : decode cX7_readLetters 21 = .ok (.getfield 9, 3) := by decide +kernel
theorem dX7_readLetters_24 : decode cX7_readLetters 24 = .ok (.iconst 5, 1) := by decide +kernel
theorem dX7_readLetters_25 : decode cX7_readLetters 25 = .ok (.invokevirtual 63, 3) := by decide +kernel
theorem dX7_readLetters_28 : decode cX7_readLetters 28 = .ok (.ireturn, 1) := by decide +kernel
theorem dX7_readLetters_29 : decode cX7_readLetters 29 = .ok (.iconst 0, 1) := by decide +kernel
theorem dX7_readLetters_30 : decode cX7_readLetters 30 = .ok (.istore_n 3, 1) := by decide +kernel
theorem dX7_readLetters_31 : decode cX7_readLetters 31 = .ok (.iload_n 3, 1) := by decide +kernel
theorem dX7_readLetters_32 : decode cX7_readLetters 32 = .ok (.iload_n 2, 1) := by decide +kernel
theorem dX7_readLetters_33 : decode cX7_readLetters 33 = .ok (.if_icmp .ge 32, 3) := by decide +kernel
theorem dX7_readLetters_36 : decode cX7_readLetters 36 = .ok (.aload_n 1, 1) := by decide +kernel
theorem dX7_readLetters_37 : decode cX7_readLetters 37 = .ok (.aload_n 0, 1) := by decide +kernel
theorem dX7_readLetters_38 : decode cX7_readLetters 38 = .ok (.getfield 9, 3) := by decide +kernel
theorem dX7_readLetters_41 : decode cX7_readLetters 41 = .ok (.aload_n 0, 1) := by decide +kernel
theorem dX7_readLetters_42 : decode cX7_readLetters 42 = .ok (.getfield 9, 3) := by decide +kernel
theorem dX7_readLetters_45 : decode cX7_readLetters 45 = .ok (.invokevirtual 113, 3) := by decide +kernel
theorem dX7_readLetters_48 : decode cX7_readLetters 48 = .ok (.iload_n 3, 1) := by decide +kernel
theorem dX7_readLetters_49 : decode cX7_readLetters 49 = .ok (.iadd, 1) := by decide +kernel
theorem dX7_readLetters_50 : decode cX7_readLetters 50 = .ok (.invokevirtual 116, 3) := by decide +kernel
theorem dX7_readLetters_53 : decode cX7_readLetters 53 = .ok (.bipush 97, 2) := by decide +kernel
theorem dX7_readLetters_55 : decode cX7_readLetters 55 = .ok (.isub, 1) := by decide +kernel
theorem dX7_readLetters_56 : decode cX7_readLetters 56 = .ok (.invokevirtual 120, 3) := by decide +kernel
theorem dX7_readLetters_59 : decode cX7_readLetters 59 = .ok (.iinc 3 1, 3) := by decide +kernel
theorem dX7_readLetters_62 : decode cX7_readLetters 62 = .ok (.goto (-31), 3) := by decide +kernel
theorem dX7_readLetters_65 : decode cX7_readLetters 65 = .ok (.aload_n 0, 1) := by decide +kernel
theorem dX7_readLetters_66 : decode cX7_readLetters 66 = .ok (.dup, 1) := by decide +kernel
theorem dX7_readLetters_67 : decode cX7_readLetters 67 = .ok (.getfield 90, 3) := by decide +kernel
theorem dX7_readLetters_70 : decode cX7_readLetters 70 = .ok (.iload_n 2, 1) := by decide +kernel
theorem dX7_readLetters_71 : decode cX7_readLetters 71 = .ok (.iadd, 1) := by decide +kernel
theorem dX7_readLetters_72 : decode cX7_readLetters 72 = .ok (.putfield 90, 3) := by decide +kernel
theorem dX7_readLetters_75 : decode cX7_readLetters 75 = .ok (.aload_n 0, 1) := by decide +kernel
theorem dX7_readLetters_76 : decode cX7_readLetters 76 = .ok (.getfield 9, 3) := by decide +kernel
theorem dX7_readLetters_79 : decode cX7_readLetters 79 = .ok (.invokevirtual 67, 3) := by decide +kernel
theorem dX7_readLetters_82 : decode cX7_readLetters 82 = .ok (.iconst 1, 1) := by decide +kernel
theorem dX7_readLetters_83 : decode cX7_readLetters 83 = .ok (.ireturn, 1) := by decide +kernel
theorem dX7_readRule_0 : decode cX7_readRule 0 = .ok (.aload_n 0, 1) := by decide +kernel
theorem dX7_readRule_1 : decode cX7_readRule 1 = .ok (.getfield 9, 3) := by decide +kernel
theorem dX7_readRule_4 : decode cX7_readRule 4 = .ok (.invokevirtual 113, 3) := by decide +kernel
theorem dX7_readRule_7 : decode cX7_readRule 7 = .ok (.istore_n 2, 1) := by decide +kernel
theorem dX7_readRule_8 : decode cX7_readRule 8 = .ok (.aload_n 0, 1) := by decide +kernel
theorem dX7_readRule_9 : decode cX7_readRule 9 = .ok (.getfield 9, 3) := by decide +kernel
theorem dX7_readRule_12 : decode cX7_readRule 12 = .ok (.invokevirtual 67, 3) := by decide +kernel
theorem dX7_readRule_15 : decode cX7_readRule 15 = .ok (.aload_n 0, 1) := by decide +kernel
theorem dX7_readRule_16 : decode cX7_readRule 16 = .ok (.getfield 9, 3) := by decide +kernel
theorem dX7_readRule_19 : decode cX7_readRule 19 = .ok (.getstatic 57, 3) := by decide +kernel
theorem dX7_readRule_22 : decode cX7_readRule 22 = .ok (.getfield 124, 3) := by decide +kernel
theorem dX7_readRule_25 : decode cX7_readRule 25 = .ok (.getstatic 57, 3) := by decide +kernel
theorem dX7_readRule_28 : decode cX7_readRule 28 = .ok (.getfield 127, 3) := by decide +kernel
theorem dX7_readRule_31 : decode cX7_readRule 31 = .ok (.invokevirtual 130, 3) := by decide +kernel
theorem dX7_readRule_34 : decode cX7_readRule 34 = .ok (.ifCond .ne 5, 3) := by decide +kernel
theorem dX7_readRule_37 : decode cX7_readRule 37 = .ok (.iconst 0, 1) := by decide +kernel
theorem dX7_readRule_38 : decode cX7_readRule 38 = .ok (.ireturn, 1) := by decide +kernel
theorem dX7_readRule_39 : decode cX7_readRule 39 = .ok (.aload_n 1, 1) := by decide +kernel
theorem dX7_readRule_40 : decode cX7_readRule 40 = .ok (.invokevirtual 81, 3) := by decide +kernel
theorem dX7_readRule_43 : decode cX7_readRule 43 = .ok (.sipush 400, 3) := by decide +kernel
theorem dX7_readRule_46 : decode cX7_readRule 46 = .ok (.if_icmp .lt 13, 3) := by decide +kernel
theorem dX7_readRule_49 : decode cX7_readRule 49 = .ok (.aload_n 0, 1) := by decide +kernel
theorem dX7_readRule_50 : decode cX7_readRule 50 = .ok (.getfield 9, 3) := by decide +kernel
theorem dX7_readRule_53 : decode cX7_readRule 53 = .ok (.iconst 5, 1) := by decide +kernel
theorem dX7_readRule_54 : decode cX7_readRule 54 = .ok (.iload_n 2, 1) := by decide +kernel
theorem dX7_readRule_55 : decode cX7_readRule 55 = .ok (.invokevirtual 134, 3) := by decide +kernel
theorem dX7_readRule_58 : decode cX7_readRule 58 = .ok (.ireturn, 1) := by decide +kernel
theorem dX7_readRule_59 : decode cX7_readRule 59 = .ok (.aload_n 0, 1) := by decide +kernel
theorem dX7_readRule_60 : decode cX7_readRule 60 = .ok (.getfield 9, 3) := by decide +kernel
theorem dX7_readRule_63 : decode cX7_readRule 63 = .ok (.invokevirtual 137, 3) := by decide +kernel
theorem dX7_readRule_66 : decode cX7_readRule 66 = .ok (.istore_n 3, 1) := by decide +kernel
theorem dX7_readRule_67 : decode cX7_readRule 67 = .ok (.iload_n 3, 1) := by decide +kernel
theorem dX7_readRule_68 : decode cX7_readRule 68 = .ok (.aload_n 0, 1) := by decide +kernel
theorem dX7_readRule_69 : decode cX7_readRule 69 = .ok (.getfield 24, 3) := by decide +kernel
theorem dX7_readRule_72 : decode cX7_readRule 72 = .ok (.if_icmp .lt 12, 3) := by decide +kernel
theorem dX7_readRule_75 : decode cX7_readRule 75 = .ok (.aload_n 0, 1) := by decide +kernel
theorem dX7_readRule_76 : decode cX7_readRule 76 = .ok (.getfield 9, 3) := by decide +kernel
theorem dX7_readRule_79 : decode cX7_readRule 79 = .ok (.iconst 4, 1) := by decide +kernel
theorem dX7_readRule_80 : decode cX7_readRule 80 = .ok (.invokevirtual 63, 3) := by decide +kernel
theorem dX7_readRule_83 : decode cX7_readRule 83 = .ok (.ireturn, 1) := by decide +kernel
theorem dX7_readRule_84 : decode cX7_readRule 84 = .ok (.aload_n 0, 1) := by decide +kernel
theorem dX7_readRule_85 : decode cX7_readRule 85 = .ok (.dup, 1) := by decide +kernel
theorem dX7_readRule_86 : decode cX7_readRule 86 = .ok (.getfield 90, 3) := by decide +kernel
theorem dX7_readRule_89 : decode cX7_readRule 89 = .ok (.aload_n 0, 1) := by decide +kernel
theorem dX7_readRule_90 : decode cX7_readRule 90 = .ok (.getfield 15, 3) := by decide +kernel
theorem dX7_readRule_93 : decode cX7_readRule 93 = .ok (.bipush 26, 2) := by decide +kernel
theorem dX7_readRule_95 : decode cX7_readRule 95 = .ok (.iload_n 3, 1) := by decide +kernel
theorem dX7_readRule_96 : decode cX7_readRule 96 = .ok (.iadd, 1) := by decide +kernel
theorem dX7_readRule_97 : decode cX7_readRule 97 = .ok (.invokevirtual 140, 3) := by decide +kernel
theorem dX7_readRule_100 : decode cX7_readRule 100 = .ok (.iadd, 1) := by decide +kernel
theorem dX7_readRule_101 : decode cX7_readRule 101 = .ok (.putfield 90, 3) := by decide +kernel
theorem dX7_readRule_104 : decode cX7_readRule 104 = .ok (.aload_n 0, 1) := by decide +kernel
theorem dX7_readRule_105 : decode cX7_readRule 105 = .ok (.getfield 90, 3) := by decide +kernel
theorem dX7_readRule_108 : decode cX7_readRule 108 = .ok (.sipush 400, 3) := by decide +kernel
theorem dX7_readRule_111 : decode cX7_readRule 111 = .ok (.if_icmp .le 13, 3) := by decide +kernel
theorem dX7_readRule_114 : decode cX7_readRule 114 = .ok (.aload_n 0, 1) := by decide +kernel
theorem dX7_readRule_115 : decode cX7_readRule 115 = .ok (.getfield 9, 3) := by decide +kernel
theorem dX7_readRule_118 : decode cX7_readRule 118 = .ok (.iconst 5, 1) := by decide +kernel
theorem dX7_readRule_119 : decode cX7_readRule 119 = .ok (.iload_n 2, 1) := by decide +kernel
theorem dX7_readRule_120 : decode cX7_readRule 120 = .ok (.invokevirtual 134, 3) := by decide +kernel
theorem dX7_readRule_123 : decode cX7_readRule 123 = .ok (.ireturn, 1) := by decide +kernel
theorem dX7_readRule_124 : decode cX7_readRule 124 = .ok (.aload_n 1, 1) := by decide +kernel
theorem dX7_readRule_125 : decode cX7_readRule 125 = .ok (.bipush 26, 2) := by decide +kernel
theorem dX7_readRule_127 : decode cX7_readRule 127 = .ok (.iload_n 3, 1) := by decide +kernel
theorem dX7_readRule_128 : decode cX7_readRule 128 = .ok (.iadd, 1) := by decide +kernel
theorem dX7_readRule_129 : decode cX7_readRule 129 = .ok (.invokevirtual 120, 3) := by decide +kernel
theorem dX7_readRule_132 : decode cX7_readRule 132 = .ok (.aload_n 0, 1) := by decide +kernel
theorem dX7_readRule_133 : decode cX7_readRule 133 = .ok (.getfield 9, 3) := by decide +kernel
theorem dX7_readRule_136 : decode cX7_readRule 136 = .ok (.invokevirtual 67, 3) := by decide +kernel
theorem dX7_readRule_139 : decode cX7_readRule 139 = .ok (.aload_n 0, 1) := by decide +kernel
theorem dX7_readRule_140 : decode cX7_readRule 140 = .ok (.getfield 9, 3) := by decide +kernel
theorem dX7_readRule_143 : decode cX7_readRule 143 = .ok (.iconst 5, 1) := by decide +kernel
theorem dX7_readRule_144 : decode cX7_readRule 144 = .ok (.invokevirtual 87, 3) := by decide +kernel
theorem dX7_readRule_147 : decode cX7_readRule 147 = .ok (.ireturn, 1) := by decide +kernel
theorem dX7_readStatements_0 : decode cX7_readStatements 0 = .ok (.iconst 0, 1) := by decide +kernel
theorem dX7_readStatements_1 : decode cX7_readStatements 1 = .ok (.istore_n 1, 1) := by decide +kernel
theorem dX7_readStatements_2 : decode cX7_readStatements 2 = .ok (.iload_n 1, 1) := by decide +kernel
theorem dX7_readStatements_3 : decode cX7_readStatements 3 = .ok (.sipush 600, 3) := by decide +kernel
theorem dX7_readStatements_6 : decode cX7_readStatements 6 = .ok (.if_icmp .gt 40, 3) := by decide +kernel
theorem dX7_readStatements_9 : decode cX7_readStatements 9 = .ok (.aload_n 0, 1) := by decide +kernel
theorem dX7_readStatements_10 : decode cX7_readStatements 10 = .ok (.getfield 9, 3) := by decide +kernel
theorem dX7_readStatements_13 : decode cX7_readStatements 13 = .ok (.iconst 0, 1) := by decide +kernel
theorem dX7_readStatements_14 : decode cX7_readStatements 14 = .ok (.invokevirtual 78, 3) := by decide +kernel
theorem dX7_readStatements_17 : decode cX7_readStatements 17 = .ok (.ifCond .ne 29, 3) := by decide +kernel
theorem dX7_readStatements_20 : decode cX7_readStatements 20 = .ok (.aload_n 0, 1) := by decide +kernel
theorem dX7_readStatements_21 : decode cX7_readStatements 21 = .ok (.getfield 9, 3) := by decide +kernel
theorem dX7_readStatements_24 : decode cX7_readStatements 24 = .ok (.iconst 3, 1) := by decide +kernel
theorem dX7_readStatements_25 : decode cX7_readStatements 25 = .ok (.invokevirtual 87, 3) := by decide +kernel
theorem dX7_readStatements_28 : decode cX7_readStatements 28 = .ok (.ifCond .eq 10, 3) := by decide +kernel
theorem dX7_readStatements_31 : decode cX7_readStatements 31 = .ok (.aload_n 0, 1) := by decide +kernel
theorem dX7_readStatements_32 : decode cX7_readStatements 32 = .ok (.invokevirtual 143, 3) := by decide +kernel
theorem dX7_readStatements_35 : decode cX7_readStatements 35 = .ok (.ifCond .ne 5, 3) := by decide +kernel
theorem dX7_readStatements_38 : decode cX7_readStatements 38 = .ok (.iconst 0, 1) := by decide +kernel
theorem dX7_readStatements_39 : decode cX7_readStatements 39 = .ok (.ireturn, 1) := by decide +kernel
theorem dX7_readStatements_40 : decode cX7_readStatements 40 = .ok (.iinc 1 1, 3) := by decide +kernel
theorem dX7_readStatements_43 : decode cX7_readStatements 43 = .ok (.goto (-41), 3) := by decide +kernel
theorem dX7_readStatements_46 : decode cX7_readStatements 46 = .ok (.iconst 1, 1) := by decide +kernel
theorem dX7_readStatements_47 : decode cX7_readStatements 47 = .ok (.ireturn, 1) := by decide +kernel
theorem dX7_readStatement_0 : decode cX7_readStatement 0 = .ok (.aload_n 0, 1) := by decide +kernel
theorem dX7_readStatement_1 : decode cX7_readStatement 1 = .ok (.getfield 9, 3) := by decide +kernel
theorem dX7_readStatement_4 : decode cX7_readStatement 4 = .ok (.invokevirtual 53, 3) := by decide +kernel
theorem dX7_readStatement_7 : decode cX7_readStatement 7 = .ok (.astore_n 1, 1) := by decide +kernel
theorem dX7_readStatement_8 : decode cX7_readStatement 8 = .ok (.aload_n 1, 1) := by decide +kernel
theorem dX7_readStatement_9 : decode cX7_readStatement 9 = .ok (.getstatic 146, 3) := by decide +kernel
theorem dX7_readStatement_12 : decode cX7_readStatement 12 = .ok (.if_acmp .eq 26, 3) := by decide +kernel
theorem dX7_readStatement_15 : decode cX7_readStatement 15 = .ok (.aload_n 1, 1) := by decide +kernel
theorem dX7_readStatement_16 : decode cX7_readStatement 16 = .ok (.getstatic 149, 3) := by decide +kernel
theorem dX7_readStatement_19 : decode cX7_readStatement 19 = .ok (.if_acmp .eq 19, 3) := by decide +kernel
theorem dX7_readStatement_22 : decode cX7_readStatement 22 = .ok (.aload_n 1, 1) := by decide +kernel
theorem dX7_readStatement_23 : decode cX7_readStatement 23 = .ok (.getstatic 152, 3) := by decide +kernel
theorem dX7_readStatement_26 : decode cX7_readStatement 26 = .ok (.if_acmp .eq 12, 3) := by decide +kernel
theorem dX7_readStatement_29 : decode cX7_readStatement 29 = .ok (.aload_n 0, 1) := by decide +kernel
theorem dX7_readStatement_30 : decode cX7_readStatement 30 = .ok (.getfield 9, 3) := by decide +kernel
theorem dX7_readStatement_33 : decode cX7_readStatement 33 = .ok (.iconst 1, 1) := by decide +kernel
theorem dX7_readStatement_34 : decode cX7_readStatement 34 = .ok (.invokevirtual 63, 3) := by decide +kernel
theorem dX7_readStatement_37 : decode cX7_readStatement 37 = .ok (.ireturn, 1) := by decide +kernel
theorem dX7_readStatement_38 : decode cX7_readStatement 38 = .ok (.aload_n 0, 1) := by decide +kernel
theorem dX7_readStatement_39 : decode cX7_readStatement 39 = .ok (.aload_n 1, 1) := by decide +kernel
theorem dX7_readStatement_40 : decode cX7_readStatement 40 = .ok (.invokevirtual 155, 3) := by decide +kernel
theorem dX7_readStatement_43 : decode cX7_readStatement 43 = .ok (.ifCond .eq 12, 3) := by decide +kernel
theorem dX7_readStatement_46 : decode cX7_readStatement 46 = .ok (.aload_n 0, 1) := by decide +kernel
theorem dX7_readStatement_47 : decode cX7_readStatement 47 = .ok (.getfield 9, 3) := by decide +kernel
theorem dX7_readStatement_50 : decode cX7_readStatement 50 = .ok (.iconst 3, 1) := by decide +kernel
theorem dX7_readStatement_51 : decode cX7_readStatement 51 = .ok (.invokevirtual 63, 3) := by decide +kernel
theorem dX7_readStatement_54 : decode cX7_readStatement 54 = .ok (.ireturn, 1) := by decide +kernel
theorem dX7_readStatement_55 : decode cX7_readStatement 55 = .ok (.aload_n 0, 1) := by decide +kernel
theorem dX7_readStatement_56 : decode cX7_readStatement 56 = .ok (.getfield 9, 3) := by decide +kernel
theorem dX7_readStatement_59 : decode cX7_readStatement 59 = .ok (.invokevirtual 67, 3) := by decide +kernel
theorem dX7_readStatement_62 : decode cX7_readStatement 62 = .ok (.aload_n 0, 1) := by decide +kernel
theorem dX7_readStatement_63 : decode cX7_readStatement 63 = .ok (.getfield 9, 3) := by decide +kernel
theorem dX7_readStatement_66 : decode cX7_readStatement 66 = .ok (.aload_n 1, 1) := by decide +kernel
theorem dX7_readStatement_67 : decode cX7_readStatement 67 = .ok (.getfield 124, 3) := by decide +kernel
theorem dX7_readStatement_70 : decode cX7_readStatement 70 = .ok (.aload_n 1, 1) := by decide +kernel
theorem dX7_readStatement_71 : decode cX7_readStatement 71 = .ok (.getfield 127, 3) := by decide +kernel
theorem dX7_readStatement_74 : decode cX7_readStatement 74 = .ok (.invokevirtual 130, 3) := by decide +kernel
theorem dX7_readStatement_77 : decode cX7_readStatement 77 = .ok (.ifCond .ne 5, 3) := by decide +kernel
theorem dX7_readStatement_80 : decode cX7_readStatement 80 = .ok (.iconst 0, 1) := by decide +kernel
theorem dX7_readStatement_81 : decode cX7_readStatement 81 = .ok (.ireturn, 1) := by decide +kernel
theorem dX7_readStatement_82 : decode cX7_readStatement 82 = .ok (.aload_n 0, 1) := by decide +kernel
theorem dX7_readStatement_83 : decode cX7_readStatement 83 = .ok (.aload_n 1, 1) := by decide +kernel
theorem dX7_readStatement_84 : decode cX7_readStatement 84 = .ok (.aload_n 0, 1) := by decide +kernel
theorem dX7_readStatement_85 : decode cX7_readStatement 85 = .ok (.getfield 9, 3) := by decide +kernel
theorem dX7_readStatement_88 : decode cX7_readStatement 88 = .ok (.invokevirtual 137, 3) := by decide +kernel
theorem dX7_readStatement_91 : decode cX7_readStatement 91 = .ok (.invokevirtual 159, 3) := by decide +kernel
theorem dX7_readStatement_94 : decode cX7_readStatement 94 = .ok (.aload_n 0, 1) := by decide +kernel
theorem dX7_readStatement_95 : decode cX7_readStatement 95 = .ok (.getfield 9, 3) := by decide +kernel
theorem dX7_readStatement_98 : decode cX7_readStatement 98 = .ok (.invokevirtual 67, 3) := by decide +kernel
theorem dX7_readStatement_101 : decode cX7_readStatement 101 = .ok (.iconst 1, 1) := by decide +kernel
theorem dX7_readStatement_102 : decode cX7_readStatement 102 = .ok (.ireturn, 1) := by decide +kernel
theorem dX7_isTold_0 : decode cX7_isTold 0 = .ok (.getstatic 163, 3) := by decide +kernel
theorem dX7_isTold_3 : decode cX7_isTold 3 = .ok (.aload_n 1, 1) := by decide +kernel
theorem dX7_isTold_4 : decode cX7_isTold 4 = .ok (.invokevirtual 169, 3) := by decide +kernel
theorem dX7_isTold_7 : decode cX7_isTold 7 = .ok (.iaload, 1) := by decide +kernel
theorem dX7_isTold_8 : decode cX7_isTold 8 = .ok (.lookupswitch 38 #[(7, 28), (8, 33)], 28) := by decide +kernel
theorem dX7_isTold_36 : decode cX7_isTold 36 = .ok (.aload_n 0, 1) := by decide +kernel
theorem dX7_isTold_37 : decode cX7_isTold 37 = .ok (.getfield 28, 3) := by decide +kernel
theorem dX7_isTold_40 : decode cX7_isTold 40 = .ok (.ireturn, 1) := by decide +kernel
theorem dX7_isTold_41 : decode cX7_isTold 41 = .ok (.aload_n 0, 1) := by decide +kernel
theorem dX7_isTold_42 : decode cX7_isTold 42 = .ok (.getfield 32, 3) := by decide +kernel
theorem dX7_isTold_45 : decode cX7_isTold 45 = .ok (.ireturn, 1) := by decide +kernel
theorem dX7_isTold_46 : decode cX7_isTold 46 = .ok (.aload_n 0, 1) := by decide +kernel
theorem dX7_isTold_47 : decode cX7_isTold 47 = .ok (.getfield 35, 3) := by decide +kernel
theorem dX7_isTold_50 : decode cX7_isTold 50 = .ok (.ireturn, 1) := by decide +kernel
theorem dX7_noteTold_0 : decode cX7_noteTold 0 = .ok (.getstatic 163, 3) := by decide +kernel
theorem dX7_noteTold_3 : decode cX7_noteTold 3 = .ok (.aload_n 1, 1) := by decide +kernel
theorem dX7_noteTold_4 : decode cX7_noteTold 4 = .ok (.invokevirtual 169, 3) := by decide +kernel
theorem dX7_noteTold_7 : decode cX7_noteTold 7 = .ok (.iaload, 1) := by decide +kernel
theorem dX7_noteTold_8 : decode cX7_noteTold 8 = .ok (.lookupswitch 62 #[(7, 28), (8, 45)], 28) := by decide +kernel
theorem dX7_noteTold_36 : decode cX7_noteTold 36 = .ok (.aload_n 0, 1) := by decide +kernel
theorem dX7_noteTold_37 : decode cX7_noteTold 37 = .ok (.iconst 1, 1) := by decide +kernel
theorem dX7_noteTold_38 : decode cX7_noteTold 38 = .ok (.putfield 28, 3) := by decide +kernel
theorem dX7_noteTold_41 : decode cX7_noteTold 41 = .ok (.aload_n 0, 1) := by decide +kernel
theorem dX7_noteTold_42 : decode cX7_noteTold 42 = .ok (.getfield 15, 3) := by decide +kernel
theorem dX7_noteTold_45 : decode cX7_noteTold 45 = .ok (.iconst 4, 1) := by decide +kernel
theorem dX7_noteTold_46 : decode cX7_noteTold 46 = .ok (.iload_n 2, 1) := by decide +kernel
theorem dX7_noteTold_47 : decode cX7_noteTold 47 = .ok (.invokevirtual 172, 3) := by decide +kernel
theorem dX7_noteTold_50 : decode cX7_noteTold 50 = .ok (.goto 35, 3) := by decide +kernel
theorem dX7_noteTold_53 : decode cX7_noteTold 53 = .ok (.aload_n 0, 1) := by decide +kernel
theorem dX7_noteTold_54 : decode cX7_noteTold 54 = .ok (.iconst 1, 1) := by decide +kernel
theorem dX7_noteTold_55 : decode cX7_noteTold 55 = .ok (.putfield 32, 3) := by decide +kernel
theorem dX7_noteTold_58 : decode cX7_noteTold 58 = .ok (.aload_n 0, 1) := by decide +kernel
theorem dX7_noteTold_59 : decode cX7_noteTold 59 = .ok (.getfield 15, 3) := by decide +kernel
theorem dX7_noteTold_62 : decode cX7_noteTold 62 = .ok (.iconst 5, 1) := by decide +kernel
theorem dX7_noteTold_63 : decode cX7_noteTold 63 = .ok (.iload_n 2, 1) := by decide +kernel
theorem dX7_noteTold_64 : decode cX7_noteTold 64 = .ok (.invokevirtual 172, 3) := by decide +kernel
theorem dX7_noteTold_67 : decode cX7_noteTold 67 = .ok (.goto 18, 3) := by decide +kernel
theorem dX7_noteTold_70 : decode cX7_noteTold 70 = .ok (.aload_n 0, 1) := by decide +kernel
theorem dX7_noteTold_71 : decode cX7_noteTold 71 = .ok (.iconst 1, 1) := by decide +kernel
theorem dX7_noteTold_72 : decode cX7_noteTold 72 = .ok (.putfield 35, 3) := by decide +kernel
theorem dX7_noteTold_75 : decode cX7_noteTold 75 = .ok (.aload_n 0, 1) := by decide +kernel
theorem dX7_noteTold_76 : decode cX7_noteTold 76 = .ok (.getfield 15, 3) := by decide +kernel
theorem dX7_noteTold_79 : decode cX7_noteTold 79 = .ok (.bipush 6, 2) := by decide +kernel
theorem dX7_noteTold_81 : decode cX7_noteTold 81 = .ok (.iload_n 2, 1) := by decide +kernel
theorem dX7_noteTold_82 : decode cX7_noteTold 82 = .ok (.invokevirtual 172, 3) := by decide +kernel
theorem dX7_noteTold_85 : decode cX7_noteTold 85 = .ok (.return_, 1) := by decide +kernel
theorem dX8_init_0 : decode cX8_init 0 = .ok (.aload_n 0, 1) := by decide +kernel
theorem dX8_init_1 : decode cX8_init 1 = .ok (.invokespecial 3, 3) := by decide +kernel
theorem dX8_init_4 : decode cX8_init 4 = .ok (.aload_n 0, 1) := by decide +kernel
theorem dX8_init_5 : decode cX8_init 5 = .ok (.sipush 600, 3) := by decide +kernel
theorem dX8_init_8 : decode cX8_init 8 = .ok (.newarray .int, 2) := by decide +kernel
theorem dX8_init_10 : decode cX8_init 10 = .ok (.putfield 9, 3) := by decide +kernel
theorem dX8_init_13 : decode cX8_init 13 = .ok (.return_, 1) := by decide +kernel
theorem dX8_many_0 : decode cX8_many 0 = .ok (.aload_n 0, 1) := by decide +kernel
theorem dX8_many_1 : decode cX8_many 1 = .ok (.getfield 15, 3) := by decide +kernel
theorem dX8_many_4 : decode cX8_many 4 = .ok (.ireturn, 1) := by decide +kernel
theorem dX8_dropAll_0 : decode cX8_dropAll 0 = .ok (.aload_n 0, 1) := by decide +kernel
theorem dX8_dropAll_1 : decode cX8_dropAll 1 = .ok (.iconst 0, 1) := by decide +kernel
theorem dX8_dropAll_2 : decode cX8_dropAll 2 = .ok (.putfield 15, 3) := by decide +kernel
theorem dX8_dropAll_5 : decode cX8_dropAll 5 = .ok (.return_, 1) := by decide +kernel
theorem dX8_bytesIn_0 : decode cX8_bytesIn 0 = .ok (.iconst 0, 1) := by decide +kernel
theorem dX8_bytesIn_1 : decode cX8_bytesIn 1 = .ok (.istore_n 2, 1) := by decide +kernel
theorem dX8_bytesIn_2 : decode cX8_bytesIn 2 = .ok (.bipush 24, 2) := by decide +kernel
theorem dX8_bytesIn_4 : decode cX8_bytesIn 4 = .ok (.istore_n 3, 1) := by decide +kernel
theorem dX8_bytesIn_5 : decode cX8_bytesIn 5 = .ok (.iload_n 3, 1) := by decide +kernel
theorem dX8_bytesIn_6 : decode cX8_bytesIn 6 = .ok (.ifCond .lt 27, 3) := by decide +kernel
theorem dX8_bytesIn_9 : decode cX8_bytesIn 9 = .ok (.iload_n 2, 1) := by decide +kernel
theorem dX8_bytesIn_10 : decode cX8_bytesIn 10 = .ok (.iload_n 1, 1) := by decide +kernel
theorem dX8_bytesIn_11 : decode cX8_bytesIn 11 = .ok (.iload_n 3, 1) := by decide +kernel
theorem dX8_bytesIn_12 : decode cX8_bytesIn 12 = .ok (.iushr, 1) := by decide +kernel
theorem dX8_bytesIn_13 : decode cX8_bytesIn 13 = .ok (.sipush 255, 3) := by decide +kernel
theorem dX8_bytesIn_16 : decode cX8_bytesIn 16 = .ok (.iand, 1) := by decide +kernel
theorem dX8_bytesIn_17 : decode cX8_bytesIn 17 = .ok (.ifCond .eq 7, 3) := by decide +kernel
theorem dX8_bytesIn_20 : decode cX8_bytesIn 20 = .ok (.iconst 1, 1) := by decide +kernel
theorem dX8_bytesIn_21 : decode cX8_bytesIn 21 = .ok (.goto 4, 3) := by decide +kernel
theorem dX8_bytesIn_24 : decode cX8_bytesIn 24 = .ok (.iconst 0, 1) := by decide +kernel
theorem dX8_bytesIn_25 : decode cX8_bytesIn 25 = .ok (.iadd, 1) := by decide +kernel
theorem dX8_bytesIn_26 : decode cX8_bytesIn 26 = .ok (.istore_n 2, 1) := by decide +kernel
theorem dX8_bytesIn_27 : decode cX8_bytesIn 27 = .ok (.iinc 3 (-8), 3) := by decide +kernel
theorem dX8_bytesIn_30 : decode cX8_bytesIn 30 = .ok (.goto (-25), 3) := by decide +kernel
theorem dX8_bytesIn_33 : decode cX8_bytesIn 33 = .ok (.iload_n 2, 1) := by decide +kernel
theorem dX8_bytesIn_34 : decode cX8_bytesIn 34 = .ok (.ireturn, 1) := by decide +kernel
theorem dX8_hasRoomFor_0 : decode cX8_hasRoomFor 0 = .ok (.aload_n 0, 1) := by decide +kernel
theorem dX8_hasRoomFor_1 : decode cX8_hasRoomFor 1 = .ok (.getfield 15, 3) := by decide +kernel
theorem dX8_hasRoomFor_4 : decode cX8_hasRoomFor 4 = .ok (.iload_n 1, 1) := by decide +kernel
theorem dX8_hasRoomFor_5 : decode cX8_hasRoomFor 5 = .ok (.iadd, 1) := by decide +kernel
theorem dX8_hasRoomFor_6 : decode cX8_hasRoomFor 6 = .ok (.sipush 600, 3) := by decide +kernel
theorem dX8_hasRoomFor_9 : decode cX8_hasRoomFor 9 = .ok (.if_icmp .gt 7, 3) := by decide +kernel
theorem dX8_hasRoomFor_12 : decode cX8_hasRoomFor 12 = .ok (.iconst 1, 1) := by decide +kernel
theorem dX8_hasRoomFor_13 : decode cX8_hasRoomFor 13 = .ok (.goto 4, 3) := by decide +kernel
theorem dX8_hasRoomFor_16 : decode cX8_hasRoomFor 16 = .ok (.iconst 0, 1) := by decide +kernel
theorem dX8_hasRoomFor_17 : decode cX8_hasRoomFor 17 = .ok (.ireturn, 1) := by decide +kernel
theorem dX8_take_0 : decode cX8_take 0 = .ok (.bipush 24, 2) := by decide +kernel
theorem dX8_take_2 : decode cX8_take 2 = .ok (.istore_n 2, 1) := by decide +kernel
theorem dX8_take_3 : decode cX8_take 3 = .ok (.iload_n 2, 1) := by decide +kernel
theorem dX8_take_4 : decode cX8_take 4 = .ok (.ifCond .lt 51, 3) := by decide +kernel
theorem dX8_take_7 : decode cX8_take 7 = .ok (.iload_n 1, 1) := by decide +kernel
theorem dX8_take_8 : decode cX8_take 8 = .ok (.iload_n 2, 1) := by decide +kernel
theorem dX8_take_9 : decode cX8_take 9 = .ok (.iushr, 1) := by decide +kernel
theorem dX8_take_10 : decode cX8_take 10 = .ok (.sipush 255, 3) := by decide +kernel
theorem dX8_take_13 : decode cX8_take 13 = .ok (.iand, 1) := by decide +kernel
theorem dX8_take_14 : decode cX8_take 14 = .ok (.istore_n 3, 1) := by decide +kernel
theorem dX8_take_15 : decode cX8_take 15 = .ok (.iload_n 3, 1) := by decide +kernel
theorem dX8_take_16 : decode cX8_take 16 = .ok (.ifCond .eq 33, 3) := by decide +kernel
theorem dX8_take_19 : decode cX8_take 19 = .ok (.aload_n 0, 1) := by decide +kernel
theorem dX8_take_20 : decode cX8_take 20 = .ok (.getfield 15, 3) := by decide +kernel
theorem dX8_take_23 : decode cX8_take 23 = .ok (.sipush 600, 3) := by decide +kernel
theorem dX8_take_26 : decode cX8_take 26 = .ok (.if_icmp .ge 23, 3) := by decide +kernel
theorem dX8_take_29 : decode cX8_take 29 = .ok (.aload_n 0, 1) := by decide +kernel
theorem dX8_take_30 : decode cX8_take 30 = .ok (.getfield 9, 3) := by decide +kernel
theorem dX8_take_33 : decode cX8_take 33 = .ok (.aload_n 0, 1) := by decide +kernel
theorem dX8_take_34 : decode cX8_take 34 = .ok (.getfield 15, 3) := by decide +kernel
theorem dX8_take_37 : decode cX8_take 37 = .ok (.iload_n 3, 1) := by decide +kernel
theorem dX8_take_38 : decode cX8_take 38 = .ok (.iastore, 1) := by decide +kernel
theorem dX8_take_39 : decode cX8_take 39 = .ok (.aload_n 0, 1) := by decide +kernel
theorem dX8_take_40 : decode cX8_take 40 = .ok (.dup, 1) := by decide +kernel
theorem dX8_take_41 : decode cX8_take 41 = .ok (.getfield 15, 3) := by decide +kernel
theorem dX8_take_44 : decode cX8_take 44 = .ok (.iconst 1, 1) := by decide +kernel
theorem dX8_take_45 : decode cX8_take 45 = .ok (.iadd, 1) := by decide +kernel
theorem dX8_take_46 : decode cX8_take 46 = .ok (.putfield 15, 3) := by decide +kernel
theorem dX8_take_49 : decode cX8_take 49 = .ok (.iinc 2 (-8), 3) := by decide +kernel
theorem dX8_take_52 : decode cX8_take 52 = .ok (.goto (-49), 3) := by decide +kernel
theorem dX8_take_55 : decode cX8_take 55 = .ok (.return_, 1) := by decide +kernel
theorem dX8_byteAt_0 : decode cX8_byteAt 0 = .ok (.iload_n 1, 1) := by decide +kernel
theorem dX8_byteAt_1 : decode cX8_byteAt 1 = .ok (.ifCond .lt 19, 3) := by decide +kernel
theorem dX8_byteAt_4 : decode cX8_byteAt 4 = .ok (.iload_n 1, 1) := by decide +kernel
theorem dX8_byteAt_5 : decode cX8_byteAt 5 = .ok (.sipush 600, 3) := by decide +kernel
theorem dX8_byteAt_8 : decode cX8_byteAt 8 = .ok (.if_icmp .ge 12, 3) := by decide +kernel
theorem dX8_byteAt_11 : decode cX8_byteAt 11 = .ok (.aload_n 0, 1) := by decide +kernel
theorem dX8_byteAt_12 : decode cX8_byteAt 12 = .ok (.getfield 9, 3) := by decide +kernel
theorem dX8_byteAt_15 : decode cX8_byteAt 15 = .ok (.iload_n 1, 1) := by decide +kernel
theorem dX8_byteAt_16 : decode cX8_byteAt 16 = .ok (.iaload, 1) := by decide +kernel
theorem dX8_byteAt_17 : decode cX8_byteAt 17 = .ok (.goto 4, 3) := by decide +kernel
theorem dX8_byteAt_20 : decode cX8_byteAt 20 = .ok (.iconst 0, 1) := by decide +kernel
theorem dX8_byteAt_21 : decode cX8_byteAt 21 = .ok (.ireturn, 1) := by decide +kernel
theorem dX8_rewind_0 : decode cX8_rewind 0 = .ok (.aload_n 0, 1) := by decide +kernel
theorem dX8_rewind_1 : decode cX8_rewind 1 = .ok (.iconst 0, 1) := by decide +kernel
theorem dX8_rewind_2 : decode cX8_rewind 2 = .ok (.putfield 19, 3) := by decide +kernel
theorem dX8_rewind_5 : decode cX8_rewind 5 = .ok (.aload_n 0, 1) := by decide +kernel
theorem dX8_rewind_6 : decode cX8_rewind 6 = .ok (.iconst 0, 1) := by decide +kernel
theorem dX8_rewind_7 : decode cX8_rewind 7 = .ok (.putfield 22, 3) := by decide +kernel
theorem dX8_rewind_10 : decode cX8_rewind 10 = .ok (.aload_n 0, 1) := by decide +kernel
theorem dX8_rewind_11 : decode cX8_rewind 11 = .ok (.iconst (-1), 1) := by decide +kernel
theorem dX8_rewind_12 : decode cX8_rewind 12 = .ok (.putfield 25, 3) := by decide +kernel
theorem dX8_rewind_15 : decode cX8_rewind 15 = .ok (.aload_n 0, 1) := by decide +kernel
theorem dX8_rewind_16 : decode cX8_rewind 16 = .ok (.invokevirtual 28, 3) := by decide +kernel
theorem dX8_rewind_19 : decode cX8_rewind 19 = .ok (.return_, 1) := by decide +kernel
theorem dX8_advance_0 : decode cX8_advance 0 = .ok (.aload_n 0, 1) := by decide +kernel
theorem dX8_advance_1 : decode cX8_advance 1 = .ok (.getfield 19, 3) := by decide +kernel
theorem dX8_advance_4 : decode cX8_advance 4 = .ok (.istore_n 1, 1) := by decide +kernel
theorem dX8_advance_5 : decode cX8_advance 5 = .ok (.iload_n 1, 1) := by decide +kernel
theorem dX8_advance_6 : decode cX8_advance 6 = .ok (.aload_n 0, 1) := by decide +kernel
theorem dX8_advance_7 : decode cX8_advance 7 = .ok (.getfield 15, 3) := by decide +kernel
theorem dX8_advance_10 : decode cX8_advance 10 = .ok (.if_icmp .ge 31, 3) := by decide +kernel
theorem dX8_advance_13 : decode cX8_advance 13 = .ok (.aload_n 0, 1) := by decide +kernel
theorem dX8_advance_14 : decode cX8_advance 14 = .ok (.getfield 9, 3) := by decide +kernel
theorem dX8_advance_17 : decode cX8_advance 17 = .ok (.iload_n 1, 1) := by decide +kernel
theorem dX8_advance_18 : decode cX8_advance 18 = .ok (.iaload, 1) := by decide +kernel
theorem dX8_advance_19 : decode cX8_advance 19 = .ok (.bipush 32, 2) := by decide +kernel
theorem dX8_advance_21 : decode cX8_advance 21 = .ok (.if_icmp .eq 14, 3) := by decide +kernel
theorem dX8_advance_24 : decode cX8_advance 24 = .ok (.aload_n 0, 1) := by decide +kernel
theorem dX8_advance_25 : decode cX8_advance 25 = .ok (.getfield 9, 3) := by decide +kernel
theorem dX8_advance_28 : decode cX8_advance 28 = .ok (.iload_n 1, 1) := by decide +kernel
theorem dX8_advance_29 : decode cX8_advance 29 = .ok (.iaload, 1) := by decide +kernel
theorem dX8_advance_30 : decode cX8_advance 30 = .ok (.bipush 10, 2) := by decide +kernel
theorem dX8_advance_32 : decode cX8_advance 32 = .ok (.if_icmp .ne 9, 3) := by decide +kernel
theorem dX8_advance_35 : decode cX8_advance 35 = .ok (.iinc 1 1, 3) := by decide +kernel
theorem dX8_advance_38 : decode cX8_advance 38 = .ok (.goto (-33), 3) := by decide +kernel
theorem dX8_advance_41 : decode cX8_advance 41 = .ok (.aload_n 0, 1) := by decide +kernel
theorem dX8_advance_42 : decode cX8_advance 42 = .ok (.iload_n 1, 1) := by decide +kernel
theorem dX8_advance_43 : decode cX8_advance 43 = .ok (.putfield 31, 3) := by decide +kernel
theorem dX8_advance_46 : decode cX8_advance 46 = .ok (.aload_n 0, 1) := by decide +kernel
theorem dX8_advance_47 : decode cX8_advance 47 = .ok (.iload_n 1, 1) := by decide +kernel
theorem dX8_advance_48 : decode cX8_advance 48 = .ok (.aload_n 0, 1) := by decide +kernel
theorem dX8_advance_49 : decode cX8_advance 49 = .ok (.getfield 15, 3) := by decide +kernel
theorem dX8_advance_52 : decode cX8_advance 52 = .ok (.if_icmp .ge 16, 3) := by decide +kernel
theorem dX8_advance_55 : decode cX8_advance 55 = .ok (.aload_n 0, 1) := by decide +kernel
theorem dX8_advance_56 : decode cX8_advance 56 = .ok (.aload_n 0, 1) := by decide +kernel
theorem dX8_advance_57 : decode cX8_advance 57 = .ok (.getfield 9, 3) := by decide +kernel
theorem dX8_advance_60 : decode cX8_advance 60 = .ok (.iload_n 1, 1) := by decide +kernel
theorem dX8_advance_61 : decode cX8_advance 61 = .ok (.iaload, 1) := by decide +kernel
theorem dX8_advance_62 : decode cX8_advance 62 = .ok (.invokevirtual 34, 3) := by decide +kernel
theorem dX8_advance_65 : decode cX8_advance 65 = .ok (.goto 4, 3) := by decide +kernel
theorem dX8_advance_68 : decode cX8_advance 68 = .ok (.iconst 0, 1) := by decide +kernel
theorem dX8_advance_69 : decode cX8_advance 69 = .ok (.putfield 38, 3) := by decide +kernel
theorem dX8_advance_72 : decode cX8_advance 72 = .ok (.aload_n 0, 1) := by decide +kernel
theorem dX8_advance_73 : decode cX8_advance 73 = .ok (.getfield 38, 3) := by decide +kernel
theorem dX8_advance_76 : decode cX8_advance 76 = .ok (.iconst 1, 1) := by decide +kernel
theorem dX8_advance_77 : decode cX8_advance 77 = .ok (.if_icmp .eq 11, 3) := by decide +kernel
theorem dX8_advance_80 : decode cX8_advance 80 = .ok (.aload_n 0, 1) := by decide +kernel
theorem dX8_advance_81 : decode cX8_advance 81 = .ok (.getfield 38, 3) := by decide +kernel
theorem dX8_advance_84 : decode cX8_advance 84 = .ok (.iconst 2, 1) := by decide +kernel
theorem dX8_advance_85 : decode cX8_advance 85 = .ok (.if_icmp .ne 7, 3) := by decide +kernel
theorem dX8_advance_88 : decode cX8_advance 88 = .ok (.iconst 1, 1) := by decide +kernel
theorem dX8_advance_89 : decode cX8_advance 89 = .ok (.goto 4, 3) := by decide +kernel
theorem dX8_advance_92 : decode cX8_advance 92 = .ok (.iconst 0, 1) := by decide +kernel
theorem dX8_advance_93 : decode cX8_advance 93 = .ok (.istore_n 2, 1) := by decide +kernel
theorem dX8_advance_94 : decode cX8_advance 94 = .ok (.iload_n 1, 1) := by decide +kernel
theorem dX8_advance_95 : decode cX8_advance 95 = .ok (.aload_n 0, 1) := by decide +kernel
theorem dX8_advance_96 : decode cX8_advance 96 = .ok (.getfield 38, 3) := by decide +kernel
theorem dX8_advance_99 : decode cX8_advance 99 = .ok (.ifCond .ne 7, 3) := by decide +kernel
theorem dX8_advance_102 : decode cX8_advance 102 = .ok (.iconst 0, 1) := by decide +kernel
theorem dX8_advance_103 : decode cX8_advance 103 = .ok (.goto 4, 3) := by decide +kernel
theorem dX8_advance_106 : decode cX8_advance 106 = .ok (.iconst 1, 1) := by decide +kernel
theorem dX8_advance_107 : decode cX8_advance 107 = .ok (.iadd, 1) := by decide +kernel
theorem dX8_advance_108 : decode cX8_advance 108 = .ok (.istore_n 1, 1) := by decide +kernel
theorem dX8_advance_109 : decode cX8_advance 109 = .ok (.iload_n 2, 1) := by decide +kernel
theorem dX8_advance_110 : decode cX8_advance 110 = .ok (.ifCond .eq 34, 3) := by decide +kernel
theorem dX8_advance_113 : decode cX8_advance 113 = .ok (.iload_n 1, 1) := by decide +kernel
theorem dX8_advance_114 : decode cX8_advance 114 = .ok (.aload_n 0, 1) := by decide +kernel
theorem dX8_advance_115 : decode cX8_advance 115 = .ok (.getfield 15, 3) := by decide +kernel
theorem dX8_advance_118 : decode cX8_advance 118 = .ok (.if_icmp .ge 26, 3) := by decide +kernel
theorem dX8_advance_121 : decode cX8_advance 121 = .ok (.aload_n 0, 1) := by decide +kernel
theorem dX8_advance_122 : decode cX8_advance 122 = .ok (.aload_n 0, 1) := by decide +kernel
theorem dX8_advance_123 : decode cX8_advance 123 = .ok (.getfield 9, 3) := by decide +kernel
theorem dX8_advance_126 : decode cX8_advance 126 = .ok (.iload_n 1, 1) := by decide +kernel
theorem dX8_advance_127 : decode cX8_advance 127 = .ok (.iaload, 1) := by decide +kernel
theorem dX8_advance_128 : decode cX8_advance 128 = .ok (.invokevirtual 34, 3) := by decide +kernel
theorem dX8_advance_131 : decode cX8_advance 131 = .ok (.aload_n 0, 1) := by decide +kernel
theorem dX8_advance_132 : decode cX8_advance 132 = .ok (.getfield 38, 3) := by decide +kernel
theorem dX8_advance_135 : decode cX8_advance 135 = .ok (.if_icmp .ne 9, 3) := by decide +kernel
theorem dX8_advance_138 : decode cX8_advance 138 = .ok (.iinc 1 1, 3) := by decide +kernel
theorem dX8_advance_141 : decode cX8_advance 141 = .ok (.goto (-32), 3) := by decide +kernel
theorem dX8_advance_144 : decode cX8_advance 144 = .ok (.aload_n 0, 1) := by decide +kernel
theorem dX8_advance_145 : decode cX8_advance 145 = .ok (.iload_n 1, 1) := by decide +kernel
theorem dX8_advance_146 : decode cX8_advance 146 = .ok (.putfield 19, 3) := by decide +kernel
theorem dX8_advance_149 : decode cX8_advance 149 = .ok (.return_, 1) := by decide +kernel
theorem dX8_kindOf_0 : decode cX8_kindOf 0 = .ok (.iload_n 1, 1) := by decide +kernel
theorem dX8_kindOf_1 : decode cX8_kindOf 1 = .ok (.bipush 97, 2) := by decide +kernel
theorem dX8_kindOf_3 : decode cX8_kindOf 3 = .ok (.if_icmp .lt 11, 3) := by decide +kernel
theorem dX8_kindOf_6 : decode cX8_kindOf 6 = .ok (.iload_n 1, 1) := by decide +kernel
theorem dX8_kindOf_7 : decode cX8_kindOf 7 = .ok (.bipush 122, 2) := by decide +kernel
theorem dX8_kindOf_9 : decode cX8_kindOf 9 = .ok (.if_icmp .gt 5, 3) := by decide +kernel
theorem dX8_kindOf_12 : decode cX8_kindOf 12 = .ok (.iconst 1, 1) := by decide +kernel
theorem dX8_kindOf_13 : decode cX8_kindOf 13 = .ok (.ireturn, 1) := by decide +kernel
theorem dX8_kindOf_14 : decode cX8_kindOf 14 = .ok (.iload_n 1, 1) := by decide +kernel
theorem dX8_kindOf_15 : decode cX8_kindOf 15 = .ok (.bipush 48, 2) := by decide +kernel
theorem dX8_kindOf_17 : decode cX8_kindOf 17 = .ok (.if_icmp .lt 11, 3) := by decide +kernel
theorem dX8_kindOf_20 : decode cX8_kindOf 20 = .ok (.iload_n 1, 1) := by decide +kernel
theorem dX8_kindOf_21 : decode cX8_kindOf 21 = .ok (.bipush 57, 2) := by decide +kernel
theorem dX8_kindOf_23 : decode cX8_kindOf 23 = .ok (.if_icmp .gt 5, 3) := by decide +kernel
theorem dX8_kindOf_26 : decode cX8_kindOf 26 = .ok (.iconst 2, 1) := by decide +kernel
theorem dX8_kindOf_27 : decode cX8_kindOf 27 = .ok (.ireturn, 1) := by decide +kernel
theorem dX8_kindOf_28 : decode cX8_kindOf 28 = .ok (.iload_n 1, 1) := by decide +kernel
theorem dX8_kindOf_29 : decode cX8_kindOf 29 = .ok (.lookupswitch 41 #[(40, 37), (41, 39), (59, 35)], 35) := by decide +kernel
theorem dX8_kindOf_64 : decode cX8_kindOf 64 = .ok (.iconst 3, 1) := by decide +kernel
theorem dX8_kindOf_65 : decode cX8_kindOf 65 = .ok (.ireturn, 1) := by decide +kernel
theorem dX8_kindOf_66 : decode cX8_kindOf 66 = .ok (.iconst 4, 1) := by decide +kernel
theorem dX8_kindOf_67 : decode cX8_kindOf 67 = .ok (.ireturn, 1) := by decide +kernel
theorem dX8_kindOf_68 : decode cX8_kindOf 68 = .ok (.iconst 5, 1) := by decide +kernel
theorem dX8_kindOf_69 : decode cX8_kindOf 69 = .ok (.ireturn, 1) := by decide +kernel
theorem dX8_kindOf_70 : decode cX8_kindOf 70 = .ok (.bipush 6, 2) := by decide +kernel
theorem dX8_kindOf_72 : decode cX8_kindOf 72 = .ok (.ireturn, 1) := by decide +kernel
theorem dX8_is_0 : decode cX8_is 0 = .ok (.aload_n 0, 1) := by decide +kernel
theorem dX8_is_1 : decode cX8_is 1 = .ok (.getfield 38, 3) := by decide +kernel
theorem dX8_is_4 : decode cX8_is 4 = .ok (.iload_n 1, 1) := by decide +kernel
theorem dX8_is_5 : decode cX8_is 5 = .ok (.if_icmp .ne 7, 3) := by decide +kernel
theorem dX8_is_8 : decode cX8_is 8 = .ok (.iconst 1, 1) := by decide +kernel
theorem dX8_is_9 : decode cX8_is 9 = .ok (.goto 4, 3) := by decide +kernel
theorem dX8_is_12 : decode cX8_is 12 = .ok (.iconst 0, 1) := by decide +kernel
theorem dX8_is_13 : decode cX8_is 13 = .ok (.ireturn, 1) := by decide +kernel
theorem dX8_from_0 : decode cX8_from 0 = .ok (.aload_n 0, 1) := by decide +kernel
theorem dX8_from_1 : decode cX8_from 1 = .ok (.getfield 31, 3) := by decide +kernel
theorem dX8_from_4 : decode cX8_from 4 = .ok (.ireturn, 1) := by decide +kernel
theorem dX8_manyInToken_0 : decode cX8_manyInToken 0 = .ok (.aload_n 0, 1) := by decide +kernel
theorem dX8_manyInToken_1 : decode cX8_manyInToken 1 = .ok (.getfield 19, 3) := by decide +kernel
theorem dX8_manyInToken_4 : decode cX8_manyInToken 4 = .ok (.aload_n 0, 1) := by decide +kernel
theorem dX8_manyInToken_5 : decode cX8_manyInToken 5 = .ok (.getfield 31, 3) := by decide +kernel
theorem dX8_manyInToken_8 : decode cX8_manyInToken 8 = .ok (.isub, 1) := by decide +kernel
theorem dX8_manyInToken_9 : decode cX8_manyInToken 9 = .ok (.ireturn, 1) := by decide +kernel
theorem dX8_word_0 : decode cX8_word 0 = .ok (.aload_n 0, 1) := by decide +kernel
theorem dX8_word_1 : decode cX8_word 1 = .ok (.getfield 38, 3) := by decide +kernel
theorem dX8_word_4 : decode cX8_word 4 = .ok (.iconst 1, 1) := by decide +kernel
theorem dX8_word_5 : decode cX8_word 5 = .ok (.if_icmp .ne 40, 3) := by decide +kernel
theorem dX8_word_8 : decode cX8_word 8 = .ok (.iconst 0, 1) := by decide +kernel
theorem dX8_word_9 : decode cX8_word 9 = .ok (.istore_n 1, 1) := by decide +kernel
theorem dX8_word_10 : decode cX8_word 10 = .ok (.iload_n 1, 1) := by decide +kernel
theorem dX8_word_11 : decode cX8_word 11 = .ok (.getstatic 41, 3) := by decide +kernel
theorem dX8_word_14 : decode cX8_word 14 = .ok (.arraylength, 1) := by decide +kernel
theorem dX8_word_15 : decode cX8_word 15 = .ok (.if_icmp .ge 30, 3) := by decide +kernel
theorem dX8_word_18 : decode cX8_word 18 = .ok (.aload_n 0, 1) := by decide +kernel
theorem dX8_word_19 : decode cX8_word 19 = .ok (.getstatic 41, 3) := by decide +kernel
theorem dX8_word_22 : decode cX8_word 22 = .ok (.iload_n 1, 1) := by decide +kernel
theorem dX8_word_23 : decode cX8_word 23 = .ok (.aaload, 1) := by decide +kernel
theorem dX8_word_24 : decode cX8_word 24 = .ok (.getfield 45, 3) := by decide +kernel
theorem dX8_word_27 : decode cX8_word 27 = .ok (.invokevirtual 51, 3) := by decide +kernel
theorem dX8_word_30 : decode cX8_word 30 = .ok (.ifCond .eq 9, 3) := by decide +kernel
theorem dX8_word_33 : decode cX8_word 33 = .ok (.getstatic 41, 3) := by decide +kernel
theorem dX8_word_36 : decode cX8_word 36 = .ok (.iload_n 1, 1) := by decide +kernel
theorem dX8_word_37 : decode cX8_word 37 = .ok (.aaload, 1) := by decide +kernel
theorem dX8_word_38 : decode cX8_word 38 = .ok (.areturn, 1) := by decide +kernel
theorem dX8_word_39 : decode cX8_word 39 = .ok (.iinc 1 1, 3) := by decide +kernel
theorem dX8_word_42 : decode cX8_word 42 = .ok (.goto (-32), 3) := by decide +kernel
theorem dX8_word_45 : decode cX8_word 45 = .ok (.getstatic 55, 3) := by decide +kernel
theorem dX8_word_48 : decode cX8_word 48 = .ok (.areturn, 1) := by decide +kernel
theorem dX8_spells_0 : decode cX8_spells 0 = .ok (.aload_n 1, 1) := by decide +kernel
theorem dX8_spells_1 : decode cX8_spells 1 = .ok (.invokevirtual 59, 3) := by decide +kernel
theorem dX8_spells_4 : decode cX8_spells 4 = .ok (.aload_n 0, 1) := by decide +kernel
theorem dX8_spells_5 : decode cX8_spells 5 = .ok (.getfield 19, 3) := by decide +kernel
theorem dX8_spells_8 : decode cX8_spells 8 = .ok (.aload_n 0, 1) := by decide +kernel
theorem dX8_spells_9 : decode cX8_spells 9 = .ok (.getfield 31, 3) := by decide +kernel
theorem dX8_spells_12 : decode cX8_spells 12 = .ok (.isub, 1) := by decide +kernel
theorem dX8_spells_13 : decode cX8_spells 13 = .ok (.if_icmp .eq 5, 3) := by decide +kernel
theorem dX8_spells_16 : decode cX8_spells 16 = .ok (.iconst 0, 1) := by decide +kernel
theorem dX8_spells_17 : decode cX8_spells 17 = .ok (.ireturn, 1) := by decide +kernel
theorem dX8_spells_18 : decode cX8_spells 18 = .ok (.iconst 0, 1) := by decide +kernel
theorem dX8_spells_19 : decode cX8_spells 19 = .ok (.istore_n 2, 1) := by decide +kernel
theorem dX8_spells_20 : decode cX8_spells 20 = .ok (.iload_n 2, 1) := by decide +kernel
theorem dX8_spells_21 : decode cX8_spells 21 = .ok (.aload_n 1, 1) := by decide +kernel
theorem dX8_spells_22 : decode cX8_spells 22 = .ok (.invokevirtual 59, 3) := by decide +kernel
theorem dX8_spells_25 : decode cX8_spells 25 = .ok (.if_icmp .ge 29, 3) := by decide +kernel
theorem dX8_spells_28 : decode cX8_spells 28 = .ok (.aload_n 0, 1) := by decide +kernel
theorem dX8_spells_29 : decode cX8_spells 29 = .ok (.aload_n 0, 1) := by decide +kernel
theorem dX8_spells_30 : decode cX8_spells 30 = .ok (.getfield 31, 3) := by decide +kernel
theorem dX8_spells_33 : decode cX8_spells 33 = .ok (.iload_n 2, 1) := by decide +kernel
theorem dX8_spells_34 : decode cX8_spells 34 = .ok (.iadd, 1) := by decide +kernel
theorem dX8_spells_35 : decode cX8_spells 35 = .ok (.invokevirtual 65, 3) := by decide +kernel
theorem dX8_spells_38 : decode cX8_spells 38 = .ok (.aload_n 1, 1) := by decide +kernel
theorem dX8_spells_39 : decode cX8_spells 39 = .ok (.iload_n 2, 1) := by decide +kernel
theorem dX8_spells_40 : decode cX8_spells 40 = .ok (.invokevirtual 68, 3) := by decide +kernel
theorem dX8_spells_43 : decode cX8_spells 43 = .ok (.if_icmp .eq 5, 3) := by decide +kernel
theorem dX8_spells_46 : decode cX8_spells 46 = .ok (.iconst 0, 1) := by decide +kernel
theorem dX8_spells_47 : decode cX8_spells 47 = .ok (.ireturn, 1) := by decide +kernel
theorem dX8_spells_48 : decode cX8_spells 48 = .ok (.iinc 2 1, 3) := by decide +kernel
theorem dX8_spells_51 : decode cX8_spells 51 = .ok (.goto (-31), 3) := by decide +kernel
theorem dX8_spells_54 : decode cX8_spells 54 = .ok (.iconst 1, 1) := by decide +kernel
theorem dX8_spells_55 : decode cX8_spells 55 = .ok (.ireturn, 1) := by decide +kernel
theorem dX8_readNumber_0 : decode cX8_readNumber 0 = .ok (.aload_n 0, 1) := by decide +kernel
theorem dX8_readNumber_1 : decode cX8_readNumber 1 = .ok (.getfield 38, 3) := by decide +kernel
theorem dX8_readNumber_4 : decode cX8_readNumber 4 = .ok (.iconst 2, 1) := by decide +kernel
theorem dX8_readNumber_5 : decode cX8_readNumber 5 = .ok (.if_icmp .eq 9, 3) := by decide +kernel
theorem dX8_readNumber_8 : decode cX8_readNumber 8 = .ok (.aload_n 0, 1) := by decide +kernel
theorem dX8_readNumber_9 : decode cX8_readNumber 9 = .ok (.iconst 1, 1) := by decide +kernel
theorem dX8_readNumber_10 : decode cX8_readNumber 10 = .ok (.invokevirtual 72, 3) := by decide +kernel
theorem dX8_readNumber_13 : decode cX8_readNumber 13 = .ok (.ireturn, 1) := by decide +kernel
theorem dX8_readNumber_14 : decode cX8_readNumber 14 = .ok (.aload_n 0, 1) := by decide +kernel
theorem dX8_readNumber_15 : decode cX8_readNumber 15 = .ok (.getfield 19, 3) := by decide +kernel
theorem dX8_readNumber_18 : decode cX8_readNumber 18 = .ok (.aload_n 0, 1) := by decide +kernel
theorem dX8_readNumber_19 : decode cX8_readNumber 19 = .ok (.getfield 31, 3) := by decide +kernel
theorem dX8_readNumber_22 : decode cX8_readNumber 22 = .ok (.isub, 1) := by decide +kernel
theorem dX8_readNumber_23 : decode cX8_readNumber 23 = .ok (.bipush 6, 2) := by decide +kernel
theorem dX8_readNumber_25 : decode cX8_readNumber 25 = .ok (.if_icmp .le 9, 3) := by decide +kernel
theorem dX8_readNumber_28 : decode cX8_readNumber 28 = .ok (.aload_n 0, 1) := by decide +kernel
theorem dX8_readNumber_29 : decode cX8_readNumber 29 = .ok (.iconst 2, 1) := by decide +kernel
theorem dX8_readNumber_30 : decode cX8_readNumber 30 = .ok (.invokevirtual 72, 3) := by decide +kernel
theorem dX8_readNumber_33 : decode cX8_readNumber 33 = .ok (.ireturn, 1) := by decide +kernel
theorem dX8_readNumber_34 : decode cX8_readNumber 34 = .ok (.aload_n 0, 1) := by decide +kernel
theorem dX8_readNumber_35 : decode cX8_readNumber 35 = .ok (.iconst 0, 1) := by decide +kernel
theorem dX8_readNumber_36 : decode cX8_readNumber 36 = .ok (.putfield 76, 3) := by decide +kernel
theorem dX8_readNumber_39 : decode cX8_readNumber 39 = .ok (.aload_n 0, 1) := by decide +kernel
theorem dX8_readNumber_40 : decode cX8_readNumber 40 = .ok (.getfield 31, 3) := by decide +kernel
theorem dX8_readNumber_43 : decode cX8_readNumber 43 = .ok (.istore_n 3, 1) := by decide +kernel
theorem dX8_readNumber_44 : decode cX8_readNumber 44 = .ok (.iload_n 3, 1) := by decide +kernel
theorem dX8_readNumber_45 : decode cX8_readNumber 45 = .ok (.aload_n 0, 1) := by decide +kernel
theorem dX8_readNumber_46 : decode cX8_readNumber 46 = .ok (.getfield 19, 3) := by decide +kernel
theorem dX8_readNumber_49 : decode cX8_readNumber 49 = .ok (.if_icmp .ge 29, 3) := by decide +kernel
theorem dX8_readNumber_52 : decode cX8_readNumber 52 = .ok (.aload_n 0, 1) := by decide +kernel
theorem dX8_readNumber_53 : decode cX8_readNumber 53 = .ok (.aload_n 0, 1) := by decide +kernel
theorem dX8_readNumber_54 : decode cX8_readNumber 54 = .ok (.getfield 76, 3) := by decide +kernel
theorem dX8_readNumber_57 : decode cX8_readNumber 57 = .ok (.bipush 10, 2) := by decide +kernel
theorem dX8_readNumber_59 : decode cX8_readNumber 59 = .ok (.imul, 1) := by decide +kernel
theorem dX8_readNumber_60 : decode cX8_readNumber 60 = .ok (.aload_n 0, 1) := by decide +kernel
theorem dX8_readNumber_61 : decode cX8_readNumber 61 = .ok (.iload_n 3, 1) := by decide +kernel
theorem dX8_readNumber_62 : decode cX8_readNumber 62 = .ok (.invokevirtual 65, 3) := by decide +kernel
theorem dX8_readNumber_65 : decode cX8_readNumber 65 = .ok (.iadd, 1) := by decide +kernel
theorem dX8_readNumber_66 : decode cX8_readNumber 66 = .ok (.bipush 48, 2) := by decide +kernel
theorem dX8_readNumber_68 : decode cX8_readNumber 68 = .ok (.isub, 1) := by decide +kernel
theorem dX8_readNumber_69 : decode cX8_readNumber 69 = .ok (.putfield 76, 3) := by decide +kernel
theorem dX8_readNumber_72 : decode cX8_readNumber 72 = .ok (.iinc 3 1, 3) := by decide +kernel
theorem dX8_readNumber_75 : decode cX8_readNumber 75 = .ok (.goto (-31), 3) := by decide +kernel
theorem dX8_readNumber_78 : decode cX8_readNumber 78 = .ok (.aload_n 0, 1) := by decide +kernel
theorem dX8_readNumber_79 : decode cX8_readNumber 79 = .ok (.getfield 76, 3) := by decide +kernel
theorem dX8_readNumber_82 : decode cX8_readNumber 82 = .ok (.iload_n 1, 1) := by decide +kernel
theorem dX8_readNumber_83 : decode cX8_readNumber 83 = .ok (.if_icmp .lt 11, 3) := by decide +kernel
theorem dX8_readNumber_86 : decode cX8_readNumber 86 = .ok (.aload_n 0, 1) := by decide +kernel
theorem dX8_readNumber_87 : decode cX8_readNumber 87 = .ok (.getfield 76, 3) := by decide +kernel
theorem dX8_readNumber_90 : decode cX8_readNumber 90 = .ok (.iload_n 2, 1) := by decide +kernel
theorem dX8_readNumber_91 : decode cX8_readNumber 91 = .ok (.if_icmp .le 11, 3) := by decide +kernel
theorem dX8_readNumber_94 : decode cX8_readNumber 94 = .ok (.aload_n 0, 1) := by decide +kernel
theorem dX8_readNumber_95 : decode cX8_readNumber 95 = .ok (.iconst 2, 1) := by decide +kernel
theorem dX8_readNumber_96 : decode cX8_readNumber 96 = .ok (.invokevirtual 72, 3) := by decide +kernel
theorem dX8_readNumber_99 : decode cX8_readNumber 99 = .ok (.ifCond .eq 7, 3) := by decide +kernel
theorem dX8_readNumber_102 : decode cX8_readNumber 102 = .ok (.iconst 1, 1) := by decide +kernel
theorem dX8_readNumber_103 : decode cX8_readNumber 103 = .ok (.goto 4, 3) := by decide +kernel
theorem dX8_readNumber_106 : decode cX8_readNumber 106 = .ok (.iconst 0, 1) := by decide +kernel
theorem dX8_readNumber_107 : decode cX8_readNumber 107 = .ok (.ireturn, 1) := by decide +kernel
theorem dX8_value_0 : decode cX8_value 0 = .ok (.aload_n 0, 1) := by decide +kernel
theorem dX8_value_1 : decode cX8_value 1 = .ok (.getfield 76, 3) := by decide +kernel
theorem dX8_value_4 : decode cX8_value 4 = .ok (.ireturn, 1) := by decide +kernel
theorem dX8_pass_0 : decode cX8_pass 0 = .ok (.aload_n 0, 1) := by decide +kernel
theorem dX8_pass_1 : decode cX8_pass 1 = .ok (.getfield 38, 3) := by decide +kernel
theorem dX8_pass_4 : decode cX8_pass 4 = .ok (.iload_n 1, 1) := by decide +kernel
theorem dX8_pass_5 : decode cX8_pass 5 = .ok (.if_icmp .eq 9, 3) := by decide +kernel
theorem dX8_pass_8 : decode cX8_pass 8 = .ok (.aload_n 0, 1) := by decide +kernel
theorem dX8_pass_9 : decode cX8_pass 9 = .ok (.iconst 1, 1) := by decide +kernel
theorem dX8_pass_10 : decode cX8_pass 10 = .ok (.invokevirtual 72, 3) := by decide +kernel
theorem dX8_pass_13 : decode cX8_pass 13 = .ok (.ireturn, 1) := by decide +kernel
theorem dX8_pass_14 : decode cX8_pass 14 = .ok (.aload_n 0, 1) := by decide +kernel
theorem dX8_pass_15 : decode cX8_pass 15 = .ok (.invokevirtual 28, 3) := by decide +kernel
theorem dX8_pass_18 : decode cX8_pass 18 = .ok (.iconst 1, 1) := by decide +kernel
theorem dX8_pass_19 : decode cX8_pass 19 = .ok (.ireturn, 1) := by decide +kernel
theorem dX8_fail_0 : decode cX8_fail 0 = .ok (.aload_n 0, 1) := by decide +kernel
theorem dX8_fail_1 : decode cX8_fail 1 = .ok (.iload_n 1, 1) := by decide +kernel
theorem dX8_fail_2 : decode cX8_fail 2 = .ok (.aload_n 0, 1) := by decide +kernel
theorem dX8_fail_3 : decode cX8_fail 3 = .ok (.getfield 31, 3) := by decide +kernel
theorem dX8_fail_6 : decode cX8_fail 6 = .ok (.invokevirtual 79, 3) := by decide +kernel
theorem dX8_fail_9 : decode cX8_fail 9 = .ok (.ireturn, 1) := by decide +kernel
theorem dX8_failAt_0 : decode cX8_failAt 0 = .ok (.aload_n 0, 1) := by decide +kernel
theorem dX8_failAt_1 : decode cX8_failAt 1 = .ok (.iload_n 1, 1) := by decide +kernel
theorem dX8_failAt_2 : decode cX8_failAt 2 = .ok (.putfield 22, 3) := by decide +kernel
theorem dX8_failAt_5 : decode cX8_failAt 5 = .ok (.aload_n 0, 1) := by decide +kernel
theorem dX8_failAt_6 : decode cX8_failAt 6 = .ok (.iload_n 2, 1) := by decide +kernel
theorem dX8_failAt_7 : decode cX8_failAt 7 = .ok (.putfield 25, 3) := by decide +kernel
theorem dX8_failAt_10 : decode cX8_failAt 10 = .ok (.iconst 0, 1) := by decide +kernel
theorem dX8_failAt_11 : decode cX8_failAt 11 = .ok (.ireturn, 1) := by decide +kernel
theorem dX8_errorCode_0 : decode cX8_errorCode 0 = .ok (.aload_n 0, 1) := by decide +kernel
theorem dX8_errorCode_1 : decode cX8_errorCode 1 = .ok (.getfield 22, 3) := by decide +kernel
theorem dX8_errorCode_4 : decode cX8_errorCode 4 = .ok (.ireturn, 1) := by decide +kernel
theorem dX8_errorAt_0 : decode cX8_errorAt 0 = .ok (.aload_n 0, 1) := by decide +kernel
theorem dX8_errorAt_1 : decode cX8_errorAt 1 = .ok (.getfield 25, 3) := by decide +kernel
theorem dX8_errorAt_4 : decode cX8_errorAt 4 = .ok (.ireturn, 1) := by decide +kernel
theorem dX9_init_0 : decode cX9_init 0 = .ok (.aload_n 0, 1) := by decide +kernel
theorem dX9_init_1 : decode cX9_init 1 = .ok (.invokespecial 3, 3) := by decide +kernel
theorem dX9_init_4 : decode cX9_init 4 = .ok (.aload_n 0, 1) := by decide +kernel
theorem dX9_init_5 : decode cX9_init 5 = .ok (.new 9, 3) := by decide +kernel
theorem dX9_init_8 : decode cX9_init 8 = .ok (.dup, 1) := by decide +kernel
theorem dX9_init_9 : decode cX9_init 9 = .ok (.invokespecial 11, 3) := by decide +kernel
theorem dX9_init_12 : decode cX9_init 12 = .ok (.putfield 12, 3) := by decide +kernel
theorem dX9_init_15 : decode cX9_init 15 = .ok (.aload_n 0, 1) := by decide +kernel
theorem dX9_init_16 : decode cX9_init 16 = .ok (.bipush 40, 2) := by decide +kernel
theorem dX9_init_18 : decode cX9_init 18 = .ok (.newarray .int, 2) := by decide +kernel
theorem dX9_init_20 : decode cX9_init 20 = .ok (.putfield 18, 3) := by decide +kernel
theorem dX9_init_23 : decode cX9_init 23 = .ok (.return_, 1) := by decide +kernel
theorem dX9_pairs_0 : decode cX9_pairs 0 = .ok (.aload_n 0, 1) := by decide +kernel
theorem dX9_pairs_1 : decode cX9_pairs 1 = .ok (.getfield 12, 3) := by decide +kernel
theorem dX9_pairs_4 : decode cX9_pairs 4 = .ok (.areturn, 1) := by decide +kernel
theorem dX9_makeSteps_0 : decode cX9_makeSteps 0 = .ok (.iconst 0, 1) := by decide +kernel
theorem dX9_makeSteps_1 : decode cX9_makeSteps 1 = .ok (.istore_n 3, 1) := by decide +kernel
theorem dX9_makeSteps_2 : decode cX9_makeSteps 2 = .ok (.iload_n 3, 1) := by decide +kernel
theorem dX9_makeSteps_3 : decode cX9_makeSteps 3 = .ok (.iload_n 2, 1) := by decide +kernel
theorem dX9_makeSteps_4 : decode cX9_makeSteps 4 = .ok (.if_icmp .ge 79, 3) := by decide +kernel
theorem dX9_makeSteps_7 : decode cX9_makeSteps 7 = .ok (.aload_n 0, 1) := by decide +kernel
theorem dX9_makeSteps_8 : decode cX9_makeSteps 8 = .ok (.getfield 12, 3) := by decide +kernel
theorem dX9_makeSteps_11 : decode cX9_makeSteps 11 = .ok (.aload_n 1, 1) := by decide +kernel
theorem dX9_makeSteps_12 : decode cX9_makeSteps 12 = .ok (.invokevirtual 22, 3) := by decide +kernel
theorem dX9_makeSteps_15 : decode cX9_makeSteps 15 = .ok (.aload_n 0, 1) := by decide +kernel
theorem dX9_makeSteps_16 : decode cX9_makeSteps 16 = .ok (.getfield 12, 3) := by decide +kernel
theorem dX9_makeSteps_19 : decode cX9_makeSteps 19 = .ok (.invokevirtual 26, 3) := by decide +kernel
theorem dX9_makeSteps_22 : decode cX9_makeSteps 22 = .ok (.istore 4, 2) := by decide +kernel
theorem dX9_makeSteps_24 : decode cX9_makeSteps 24 = .ok (.iload 4, 2) := by decide +kernel
theorem dX9_makeSteps_26 : decode cX9_makeSteps 26 = .ok (.iconst (-1), 1) := by decide +kernel
theorem dX9_makeSteps_27 : decode cX9_makeSteps 27 = .ok (.if_icmp .ne 5, 3) := by decide +kernel
theorem dX9_makeSteps_30 : decode cX9_makeSteps 30 = .ok (.iload_n 3, 1) := by decide +kernel
theorem dX9_makeSteps_31 : decode cX9_makeSteps 31 = .ok (.ireturn, 1) := by decide +kernel
theorem dX9_makeSteps_32 : decode cX9_makeSteps 32 = .ok (.aload_n 1, 1) := by decide +kernel
theorem dX9_makeSteps_33 : decode cX9_makeSteps 33 = .ok (.aload_n 0, 1) := by decide +kernel
theorem dX9_makeSteps_34 : decode cX9_makeSteps 34 = .ok (.getfield 12, 3) := by decide +kernel
theorem dX9_makeSteps_37 : decode cX9_makeSteps 37 = .ok (.iload 4, 2) := by decide +kernel
theorem dX9_makeSteps_39 : decode cX9_makeSteps 39 = .ok (.invokevirtual 30, 3) := by decide +kernel
theorem dX9_makeSteps_42 : decode cX9_makeSteps 42 = .ok (.aload_n 0, 1) := by decide +kernel
theorem dX9_makeSteps_43 : decode cX9_makeSteps 43 = .ok (.getfield 12, 3) := by decide +kernel
theorem dX9_makeSteps_46 : decode cX9_makeSteps 46 = .ok (.iload 4, 2) := by decide +kernel
theorem dX9_makeSteps_48 : decode cX9_makeSteps 48 = .ok (.invokevirtual 34, 3) := by decide +kernel
theorem dX9_makeSteps_51 : decode cX9_makeSteps 51 = .ok (.invokevirtual 37, 3) := by decide +kernel
theorem dX9_makeSteps_54 : decode cX9_makeSteps 54 = .ok (.pop, 1) := by decide +kernel
theorem dX9_makeSteps_55 : decode cX9_makeSteps 55 = .ok (.aload_n 1, 1) := by decide +kernel
theorem dX9_makeSteps_56 : decode cX9_makeSteps 56 = .ok (.iconst 0, 1) := by decide +kernel
theorem dX9_makeSteps_57 : decode cX9_makeSteps 57 = .ok (.iconst 1, 1) := by decide +kernel
theorem dX9_makeSteps_58 : decode cX9_makeSteps 58 = .ok (.invokevirtual 43, 3) := by decide +kernel
theorem dX9_makeSteps_61 : decode cX9_makeSteps 61 = .ok (.aload_n 1, 1) := by decide +kernel
theorem dX9_makeSteps_62 : decode cX9_makeSteps 62 = .ok (.bipush 6, 2) := by decide +kernel
theorem dX9_makeSteps_64 : decode cX9_makeSteps 64 = .ok (.invokevirtual 47, 3) := by decide +kernel
theorem dX9_makeSteps_67 : decode cX9_makeSteps 67 = .ok (.iconst 1, 1) := by decide +kernel
theorem dX9_makeSteps_68 : decode cX9_makeSteps 68 = .ok (.if_icmp .ne 9, 3) := by decide +kernel
theorem dX9_makeSteps_71 : decode cX9_makeSteps 71 = .ok (.aload_n 0, 1) := by decide +kernel
theorem dX9_makeSteps_72 : decode cX9_makeSteps 72 = .ok (.aload_n 1, 1) := by decide +kernel
theorem dX9_makeSteps_73 : decode cX9_makeSteps 73 = .ok (.invokevirtual 50, 3) := by decide +kernel
theorem dX9_makeSteps_76 : decode cX9_makeSteps 76 = .ok (.pop, 1) := by decide +kernel
theorem dX9_makeSteps_77 : decode cX9_makeSteps 77 = .ok (.iinc 3 1, 3) := by decide +kernel
theorem dX9_makeSteps_80 : decode cX9_makeSteps 80 = .ok (.goto (-78), 3) := by decide +kernel
theorem dX9_makeSteps_83 : decode cX9_makeSteps 83 = .ok (.iload_n 3, 1) := by decide +kernel
theorem dX9_makeSteps_84 : decode cX9_makeSteps 84 = .ok (.ireturn, 1) := by decide +kernel
theorem dX9_inlineAll_0 : decode cX9_inlineAll 0 = .ok (.aload_n 0, 1) := by decide +kernel
theorem dX9_inlineAll_1 : decode cX9_inlineAll 1 = .ok (.aload_n 1, 1) := by decide +kernel
theorem dX9_inlineAll_2 : decode cX9_inlineAll 2 = .ok (.invokevirtual 54, 3) := by decide +kernel
theorem dX9_inlineAll_5 : decode cX9_inlineAll 5 = .ok (.iconst 0, 1) := by decide +kernel
theorem dX9_inlineAll_6 : decode cX9_inlineAll 6 = .ok (.istore_n 2, 1) := by decide +kernel
theorem dX9_inlineAll_7 : decode cX9_inlineAll 7 = .ok (.iload_n 2, 1) := by decide +kernel
theorem dX9_inlineAll_8 : decode cX9_inlineAll 8 = .ok (.bipush 40, 2) := by decide +kernel
theorem dX9_inlineAll_10 : decode cX9_inlineAll 10 = .ok (.if_icmp .ge 59, 3) := by decide +kernel
theorem dX9_inlineAll_13 : decode cX9_inlineAll 13 = .ok (.aload_n 0, 1) := by decide +kernel
theorem dX9_inlineAll_14 : decode cX9_inlineAll 14 = .ok (.aload_n 1, 1) := by decide +kernel
theorem dX9_inlineAll_15 : decode cX9_inlineAll 15 = .ok (.invokevirtual 57, 3) := by decide +kernel
theorem dX9_inlineAll_18 : decode cX9_inlineAll 18 = .ok (.istore_n 3, 1) := by decide +kernel
theorem dX9_inlineAll_19 : decode cX9_inlineAll 19 = .ok (.iload_n 3, 1) := by decide +kernel
theorem dX9_inlineAll_20 : decode cX9_inlineAll 20 = .ok (.iconst (-1), 1) := by decide +kernel
theorem dX9_inlineAll_21 : decode cX9_inlineAll 21 = .ok (.if_icmp .ne 5, 3) := by decide +kernel
theorem dX9_inlineAll_24 : decode cX9_inlineAll 24 = .ok (.iload_n 2, 1) := by decide +kernel
theorem dX9_inlineAll_25 : decode cX9_inlineAll 25 = .ok (.ireturn, 1) := by decide +kernel
theorem dX9_inlineAll_26 : decode cX9_inlineAll 26 = .ok (.aload_n 0, 1) := by decide +kernel
theorem dX9_inlineAll_27 : decode cX9_inlineAll 27 = .ok (.getfield 18, 3) := by decide +kernel
theorem dX9_inlineAll_30 : decode cX9_inlineAll 30 = .ok (.iload_n 3, 1) := by decide +kernel
theorem dX9_inlineAll_31 : decode cX9_inlineAll 31 = .ok (.iaload, 1) := by decide +kernel
theorem dX9_inlineAll_32 : decode cX9_inlineAll 32 = .ok (.iconst 1, 1) := by decide +kernel
theorem dX9_inlineAll_33 : decode cX9_inlineAll 33 = .ok (.if_icmp .ne 13, 3) := by decide +kernel
theorem dX9_inlineAll_36 : decode cX9_inlineAll 36 = .ok (.aload_n 1, 1) := by decide +kernel
theorem dX9_inlineAll_37 : decode cX9_inlineAll 37 = .ok (.iload_n 3, 1) := by decide +kernel
theorem dX9_inlineAll_38 : decode cX9_inlineAll 38 = .ok (.iconst 2, 1) := by decide +kernel
theorem dX9_inlineAll_39 : decode cX9_inlineAll 39 = .ok (.invokevirtual 60, 3) := by decide +kernel
theorem dX9_inlineAll_42 : decode cX9_inlineAll 42 = .ok (.pop, 1) := by decide +kernel
theorem dX9_inlineAll_43 : decode cX9_inlineAll 43 = .ok (.goto 20, 3) := by decide +kernel
theorem dX9_inlineAll_46 : decode cX9_inlineAll 46 = .ok (.aload_n 0, 1) := by decide +kernel
theorem dX9_inlineAll_47 : decode cX9_inlineAll 47 = .ok (.aload_n 1, 1) := by decide +kernel
theorem dX9_inlineAll_48 : decode cX9_inlineAll 48 = .ok (.iload_n 3, 1) := by decide +kernel
theorem dX9_inlineAll_49 : decode cX9_inlineAll 49 = .ok (.invokevirtual 63, 3) := by decide +kernel
theorem dX9_inlineAll_52 : decode cX9_inlineAll 52 = .ok (.iconst (-1), 1) := by decide +kernel
theorem dX9_inlineAll_53 : decode cX9_inlineAll 53 = .ok (.invokevirtual 67, 3) := by decide +kernel
theorem dX9_inlineAll_56 : decode cX9_inlineAll 56 = .ok (.aload_n 1, 1) := by decide +kernel
theorem dX9_inlineAll_57 : decode cX9_inlineAll 57 = .ok (.iload_n 3, 1) := by decide +kernel
theorem dX9_inlineAll_58 : decode cX9_inlineAll 58 = .ok (.iconst 3, 1) := by decide +kernel
theorem dX9_inlineAll_59 : decode cX9_inlineAll 59 = .ok (.invokevirtual 60, 3) := by decide +kernel
theorem dX9_inlineAll_62 : decode cX9_inlineAll 62 = .ok (.pop, 1) := by decide +kernel
theorem dX9_inlineAll_63 : decode cX9_inlineAll 63 = .ok (.iinc 2 1, 3) := by decide +kernel
theorem dX9_inlineAll_66 : decode cX9_inlineAll 66 = .ok (.goto (-59), 3) := by decide +kernel
theorem dX9_inlineAll_69 : decode cX9_inlineAll 69 = .ok (.bipush 40, 2) := by decide +kernel
theorem dX9_inlineAll_71 : decode cX9_inlineAll 71 = .ok (.ireturn, 1) := by decide +kernel
theorem dX9_countUses_0 : decode cX9_countUses 0 = .ok (.iconst 0, 1) := by decide +kernel
theorem dX9_countUses_1 : decode cX9_countUses 1 = .ok (.istore_n 2, 1) := by decide +kernel
theorem dX9_countUses_2 : decode cX9_countUses 2 = .ok (.iload_n 2, 1) := by decide +kernel
theorem dX9_countUses_3 : decode cX9_countUses 3 = .ok (.bipush 40, 2) := by decide +kernel
theorem dX9_countUses_5 : decode cX9_countUses 5 = .ok (.if_icmp .ge 16, 3) := by decide +kernel
theorem dX9_countUses_8 : decode cX9_countUses 8 = .ok (.aload_n 0, 1) := by decide +kernel
theorem dX9_countUses_9 : decode cX9_countUses 9 = .ok (.getfield 18, 3) := by decide +kernel
theorem dX9_countUses_12 : decode cX9_countUses 12 = .ok (.iload_n 2, 1) := by decide +kernel
theorem dX9_countUses_13 : decode cX9_countUses 13 = .ok (.iconst 0, 1) := by decide +kernel
theorem dX9_countUses_14 : decode cX9_countUses 14 = .ok (.iastore, 1) := by decide +kernel
theorem dX9_countUses_15 : decode cX9_countUses 15 = .ok (.iinc 2 1, 3) := by decide +kernel
theorem dX9_countUses_18 : decode cX9_countUses 18 = .ok (.goto (-16), 3) := by decide +kernel
theorem dX9_countUses_21 : decode cX9_countUses 21 = .ok (.aload_n 0, 1) := by decide +kernel
theorem dX9_countUses_22 : decode cX9_countUses 22 = .ok (.aload_n 1, 1) := by decide +kernel
theorem dX9_countUses_23 : decode cX9_countUses 23 = .ok (.invokevirtual 71, 3) := by decide +kernel
theorem dX9_countUses_26 : decode cX9_countUses 26 = .ok (.iconst 1, 1) := by decide +kernel
theorem dX9_countUses_27 : decode cX9_countUses 27 = .ok (.invokevirtual 67, 3) := by decide +kernel
theorem dX9_countUses_30 : decode cX9_countUses 30 = .ok (.iconst 0, 1) := by decide +kernel
theorem dX9_countUses_31 : decode cX9_countUses 31 = .ok (.istore_n 2, 1) := by decide +kernel
theorem dX9_countUses_32 : decode cX9_countUses 32 = .ok (.iload_n 2, 1) := by decide +kernel
theorem dX9_countUses_33 : decode cX9_countUses 33 = .ok (.bipush 40, 2) := by decide +kernel
theorem dX9_countUses_35 : decode cX9_countUses 35 = .ok (.if_icmp .ge 19, 3) := by decide +kernel
theorem dX9_countUses_38 : decode cX9_countUses 38 = .ok (.aload_n 0, 1) := by decide +kernel
theorem dX9_countUses_39 : decode cX9_countUses 39 = .ok (.aload_n 1, 1) := by decide +kernel
theorem dX9_countUses_40 : decode cX9_countUses 40 = .ok (.iload_n 2, 1) := by decide +kernel
theorem dX9_countUses_41 : decode cX9_countUses 41 = .ok (.invokevirtual 63, 3) := by decide +kernel
theorem dX9_countUses_44 : decode cX9_countUses 44 = .ok (.iconst 1, 1) := by decide +kernel
theorem dX9_countUses_45 : decode cX9_countUses 45 = .ok (.invokevirtual 67, 3) := by decide +kernel
theorem dX9_countUses_48 : decode cX9_countUses 48 = .ok (.iinc 2 1, 3) := by decide +kernel
theorem dX9_countUses_51 : decode cX9_countUses 51 = .ok (.goto (-19), 3) := by decide +kernel
theorem dX9_countUses_54 : decode cX9_countUses 54 = .ok (.return_, 1) := by decide +kernel
theorem dX9_noteUses_0 : decode cX9_noteUses 0 = .ok (.iconst 0, 1) := by decide +kernel
theorem dX9_noteUses_1 : decode cX9_noteUses 1 = .ok (.istore_n 3, 1) := by decide +kernel
theorem dX9_noteUses_2 : decode cX9_noteUses 2 = .ok (.iload_n 3, 1) := by decide +kernel
theorem dX9_noteUses_3 : decode cX9_noteUses 3 = .ok (.aload_n 1, 1) := by decide +kernel
theorem dX9_noteUses_4 : decode cX9_noteUses 4 = .ok (.invokevirtual 75, 3) := by decide +kernel
theorem dX9_noteUses_7 : decode cX9_noteUses 7 = .ok (.if_icmp .ge 42, 3) := by decide +kernel
theorem dX9_noteUses_10 : decode cX9_noteUses 10 = .ok (.aload_n 1, 1) := by decide +kernel
theorem dX9_noteUses_11 : decode cX9_noteUses 11 = .ok (.iload_n 3, 1) := by decide +kernel
theorem dX9_noteUses_12 : decode cX9_noteUses 12 = .ok (.invokevirtual 80, 3) := by decide +kernel
theorem dX9_noteUses_15 : decode cX9_noteUses 15 = .ok (.bipush 26, 2) := by decide +kernel
theorem dX9_noteUses_17 : decode cX9_noteUses 17 = .ok (.isub, 1) := by decide +kernel
theorem dX9_noteUses_18 : decode cX9_noteUses 18 = .ok (.istore 4, 2) := by decide +kernel
theorem dX9_noteUses_20 : decode cX9_noteUses 20 = .ok (.iload 4, 2) := by decide +kernel
theorem dX9_noteUses_22 : decode cX9_noteUses 22 = .ok (.ifCond .lt 21, 3) := by decide +kernel
theorem dX9_noteUses_25 : decode cX9_noteUses 25 = .ok (.iload 4, 2) := by decide +kernel
theorem dX9_noteUses_27 : decode cX9_noteUses 27 = .ok (.bipush 40, 2) := by decide +kernel
theorem dX9_noteUses_29 : decode cX9_noteUses 29 = .ok (.if_icmp .ge 14, 3) := by decide +kernel
theorem dX9_noteUses_32 : decode cX9_noteUses 32 = .ok (.aload_n 0, 1) := by decide +kernel
theorem dX9_noteUses_33 : decode cX9_noteUses 33 = .ok (.getfield 18, 3) := by decide +kernel
theorem dX9_noteUses_36 : decode cX9_noteUses 36 = .ok (.iload 4, 2) := by decide +kernel
theorem dX9_noteUses_38 : decode cX9_noteUses 38 = .ok (.dup2, 1) := by decide +kernel
theorem dX9_noteUses_39 : decode cX9_noteUses 39 = .ok (.iaload, 1) := by decide +kernel
theorem dX9_noteUses_40 : decode cX9_noteUses 40 = .ok (.iload_n 2, 1) := by decide +kernel
theorem dX9_noteUses_41 : decode cX9_noteUses 41 = .ok (.iadd, 1) := by decide +kernel
theorem dX9_noteUses_42 : decode cX9_noteUses 42 = .ok (.iastore, 1) := by decide +kernel
theorem dX9_noteUses_43 : decode cX9_noteUses 43 = .ok (.iinc 3 1, 3) := by decide +kernel
theorem dX9_noteUses_46 : decode cX9_noteUses 46 = .ok (.goto (-44), 3) := by decide +kernel
theorem dX9_noteUses_49 : decode cX9_noteUses 49 = .ok (.return_, 1) := by decide +kernel
theorem dX9_lowestHardlyUsed_0 : decode cX9_lowestHardlyUsed 0 = .ok (.iconst 0, 1) := by decide +kernel
theorem dX9_lowestHardlyUsed_1 : decode cX9_lowestHardlyUsed 1 = .ok (.istore_n 2, 1) := by decide +kernel
theorem dX9_lowestHardlyUsed_2 : decode cX9_lowestHardlyUsed 2 = .ok (.iload_n 2, 1) := by decide +kernel
theorem dX9_lowestHardlyUsed_3 : decode cX9_lowestHardlyUsed 3 = .ok (.bipush 40, 2) := by decide +kernel
theorem dX9_lowestHardlyUsed_5 : decode cX9_lowestHardlyUsed 5 = .ok (.if_icmp .ge 29, 3) := by decide +kernel
theorem dX9_lowestHardlyUsed_8 : decode cX9_lowestHardlyUsed 8 = .ok (.aload_n 0, 1) := by decide +kernel
theorem dX9_lowestHardlyUsed_9 : decode cX9_lowestHardlyUsed 9 = .ok (.getfield 18, 3) := by decide +kernel
theorem dX9_lowestHardlyUsed_12 : decode cX9_lowestHardlyUsed 12 = .ok (.iload_n 2, 1) := by decide +kernel
theorem dX9_lowestHardlyUsed_13 : decode cX9_lowestHardlyUsed 13 = .ok (.iaload, 1) := by decide +kernel
theorem dX9_lowestHardlyUsed_14 : decode cX9_lowestHardlyUsed 14 = .ok (.iconst 2, 1) := by decide +kernel
theorem dX9_lowestHardlyUsed_15 : decode cX9_lowestHardlyUsed 15 = .ok (.if_icmp .ge 13, 3) := by decide +kernel
theorem dX9_lowestHardlyUsed_18 : decode cX9_lowestHardlyUsed 18 = .ok (.aload_n 1, 1) := by decide +kernel
theorem dX9_lowestHardlyUsed_19 : decode cX9_lowestHardlyUsed 19 = .ok (.iload_n 2, 1) := by decide +kernel
theorem dX9_lowestHardlyUsed_20 : decode cX9_lowestHardlyUsed 20 = .ok (.invokevirtual 83, 3) := by decide +kernel
theorem dX9_lowestHardlyUsed_23 : decode cX9_lowestHardlyUsed 23 = .ok (.ifCond .eq 5, 3) := by decide +kernel
theorem dX9_lowestHardlyUsed_26 : decode cX9_lowestHardlyUsed 26 = .ok (.iload_n 2, 1) := by decide +kernel
theorem dX9_lowestHardlyUsed_27 : decode cX9_lowestHardlyUsed 27 = .ok (.ireturn, 1) := by decide +kernel
theorem dX9_lowestHardlyUsed_28 : decode cX9_lowestHardlyUsed 28 = .ok (.iinc 2 1, 3) := by decide +kernel
theorem dX9_lowestHardlyUsed_31 : decode cX9_lowestHardlyUsed 31 = .ok (.goto (-29), 3) := by decide +kernel
theorem dX9_lowestHardlyUsed_34 : decode cX9_lowestHardlyUsed 34 = .ok (.iconst (-1), 1) := by decide +kernel
theorem dX9_lowestHardlyUsed_35 : decode cX9_lowestHardlyUsed 35 = .ok (.ireturn, 1) := by decide +kernel
theorem dX10_init_0 : decode cX10_init 0 = .ok (.aload_n 0, 1) := by decide +kernel
theorem dX10_init_1 : decode cX10_init 1 = .ok (.invokespecial 3, 3) := by decide +kernel
theorem dX10_init_4 : decode cX10_init 4 = .ok (.aload_n 0, 1) := by decide +kernel
theorem dX10_init_5 : decode cX10_init 5 = .ok (.bipush 40, 2) := by decide +kernel
theorem dX10_init_7 : decode cX10_init 7 = .ok (.newarray .int, 2) := by decide +kernel
theorem dX10_init_9 : decode cX10_init 9 = .ok (.putfield 9, 3) := by decide +kernel
theorem dX10_init_12 : decode cX10_init 12 = .ok (.aload_n 0, 1) := by decide +kernel
theorem dX10_init_13 : decode cX10_init 13 = .ok (.bipush 40, 2) := by decide +kernel
theorem dX10_init_15 : decode cX10_init 15 = .ok (.newarray .int, 2) := by decide +kernel
theorem dX10_init_17 : decode cX10_init 17 = .ok (.putfield 15, 3) := by decide +kernel
theorem dX10_init_20 : decode cX10_init 20 = .ok (.aload_n 0, 1) := by decide +kernel
theorem dX10_init_21 : decode cX10_init 21 = .ok (.bipush 40, 2) := by decide +kernel
theorem dX10_init_23 : decode cX10_init 23 = .ok (.newarray .int, 2) := by decide +kernel
theorem dX10_init_25 : decode cX10_init 25 = .ok (.putfield 18, 3) := by decide +kernel
theorem dX10_init_28 : decode cX10_init 28 = .ok (.aload_n 0, 1) := by decide +kernel
theorem dX10_init_29 : decode cX10_init 29 = .ok (.sipush 400, 3) := by decide +kernel
theorem dX10_init_32 : decode cX10_init 32 = .ok (.newarray .int, 2) := by decide +kernel
theorem dX10_init_34 : decode cX10_init 34 = .ok (.putfield 21, 3) := by decide +kernel
theorem dX10_init_37 : decode cX10_init 37 = .ok (.aload_n 0, 1) := by decide +kernel
theorem dX10_init_38 : decode cX10_init 38 = .ok (.bipush 41, 2) := by decide +kernel
theorem dX10_init_40 : decode cX10_init 40 = .ok (.newarray .int, 2) := by decide +kernel
theorem dX10_init_42 : decode cX10_init 42 = .ok (.putfield 24, 3) := by decide +kernel
theorem dX10_init_45 : decode cX10_init 45 = .ok (.aload_n 0, 1) := by decide +kernel
theorem dX10_init_46 : decode cX10_init 46 = .ok (.bipush 41, 2) := by decide +kernel
theorem dX10_init_48 : decode cX10_init 48 = .ok (.newarray .int, 2) := by decide +kernel
theorem dX10_init_50 : decode cX10_init 50 = .ok (.putfield 27, 3) := by decide +kernel
theorem dX10_init_53 : decode cX10_init 53 = .ok (.return_, 1) := by decide +kernel
theorem dX10_measure_0 : decode cX10_measure 0 = .ok (.aload_n 0, 1) := by decide +kernel
theorem dX10_measure_1 : decode cX10_measure 1 = .ok (.aload_n 1, 1) := by decide +kernel
theorem dX10_measure_2 : decode cX10_measure 2 = .ok (.invokevirtual 30, 3) := by decide +kernel
theorem dX10_measure_5 : decode cX10_measure 5 = .ok (.iconst 0, 1) := by decide +kernel
theorem dX10_measure_6 : decode cX10_measure 6 = .ok (.istore_n 2, 1) := by decide +kernel
theorem dX10_measure_7 : decode cX10_measure 7 = .ok (.iload_n 2, 1) := by decide +kernel
theorem dX10_measure_8 : decode cX10_measure 8 = .ok (.bipush 40, 2) := by decide +kernel
theorem dX10_measure_10 : decode cX10_measure 10 = .ok (.if_icmp .ge 23, 3) := by decide +kernel
theorem dX10_measure_13 : decode cX10_measure 13 = .ok (.aload_n 0, 1) := by decide +kernel
theorem dX10_measure_14 : decode cX10_measure 14 = .ok (.getfield 15, 3) := by decide +kernel
theorem dX10_measure_17 : decode cX10_measure 17 = .ok (.iload_n 2, 1) := by decide +kernel
theorem dX10_measure_18 : decode cX10_measure 18 = .ok (.iconst 0, 1) := by decide +kernel
theorem dX10_measure_19 : decode cX10_measure 19 = .ok (.iastore, 1) := by decide +kernel
theorem dX10_measure_20 : decode cX10_measure 20 = .ok (.aload_n 0, 1) := by decide +kernel
theorem dX10_measure_21 : decode cX10_measure 21 = .ok (.getfield 18, 3) := by decide +kernel
theorem dX10_measure_24 : decode cX10_measure 24 = .ok (.iload_n 2, 1) := by decide +kernel
theorem dX10_measure_25 : decode cX10_measure 25 = .ok (.iconst 0, 1) := by decide +kernel
theorem dX10_measure_26 : decode cX10_measure 26 = .ok (.iastore, 1) := by decide +kernel
theorem dX10_measure_27 : decode cX10_measure 27 = .ok (.iinc 2 1, 3) := by decide +kernel
theorem dX10_measure_30 : decode cX10_measure 30 = .ok (.goto (-23), 3) := by decide +kernel
theorem dX10_measure_33 : decode cX10_measure 33 = .ok (.iconst 0, 1) := by decide +kernel
theorem dX10_measure_34 : decode cX10_measure 34 = .ok (.istore_n 2, 1) := by decide +kernel
theorem dX10_measure_35 : decode cX10_measure 35 = .ok (.iload_n 2, 1) := by decide +kernel
theorem dX10_measure_36 : decode cX10_measure 36 = .ok (.aload_n 0, 1) := by decide +kernel
theorem dX10_measure_37 : decode cX10_measure 37 = .ok (.getfield 34, 3) := by decide +kernel
theorem dX10_measure_40 : decode cX10_measure 40 = .ok (.if_icmp .ge 36, 3) := by decide +kernel
theorem dX10_measure_43 : decode cX10_measure 43 = .ok (.aload_n 0, 1) := by decide +kernel
theorem dX10_measure_44 : decode cX10_measure 44 = .ok (.getfield 15, 3) := by decide +kernel
theorem dX10_measure_47 : decode cX10_measure 47 = .ok (.aload_n 0, 1) := by decide +kernel
theorem dX10_measure_48 : decode cX10_measure 48 = .ok (.getfield 9, 3) := by decide +kernel
theorem dX10_measure_51 : decode cX10_measure 51 = .ok (.iload_n 2, 1) := by decide +kernel
theorem dX10_measure_52 : decode cX10_measure 52 = .ok (.iaload, 1) := by decide +kernel
theorem dX10_measure_53 : decode cX10_measure 53 = .ok (.iconst 1, 1) := by decide +kernel
theorem dX10_measure_54 : decode cX10_measure 54 = .ok (.aload_n 0, 1) := by decide +kernel
theorem dX10_measure_55 : decode cX10_measure 55 = .ok (.aload_n 1, 1) := by decide +kernel
theorem dX10_measure_56 : decode cX10_measure 56 = .ok (.aload_n 0, 1) := by decide +kernel
theorem dX10_measure_57 : decode cX10_measure 57 = .ok (.getfield 9, 3) := by decide +kernel
theorem dX10_measure_60 : decode cX10_measure 60 = .ok (.iload_n 2, 1) := by decide +kernel
theorem dX10_measure_61 : decode cX10_measure 61 = .ok (.iaload, 1) := by decide +kernel
theorem dX10_measure_62 : decode cX10_measure 62 = .ok (.invokevirtual 38, 3) := by decide +kernel
theorem dX10_measure_65 : decode cX10_measure 65 = .ok (.invokevirtual 44, 3) := by decide +kernel
theorem dX10_measure_68 : decode cX10_measure 68 = .ok (.iadd, 1) := by decide +kernel
theorem dX10_measure_69 : decode cX10_measure 69 = .ok (.iastore, 1) := by decide +kernel
theorem dX10_measure_70 : decode cX10_measure 70 = .ok (.iinc 2 1, 3) := by decide +kernel
theorem dX10_measure_73 : decode cX10_measure 73 = .ok (.goto (-38), 3) := by decide +kernel
theorem dX10_measure_76 : decode cX10_measure 76 = .ok (.aload_n 0, 1) := by decide +kernel
theorem dX10_measure_77 : decode cX10_measure 77 = .ok (.aload_n 1, 1) := by decide +kernel
theorem dX10_measure_78 : decode cX10_measure 78 = .ok (.invokevirtual 48, 3) := by decide +kernel
theorem dX10_measure_81 : decode cX10_measure 81 = .ok (.iconst 1, 1) := by decide +kernel
theorem dX10_measure_82 : decode cX10_measure 82 = .ok (.invokevirtual 52, 3) := by decide +kernel
theorem dX10_measure_85 : decode cX10_measure 85 = .ok (.aload_n 0, 1) := by decide +kernel
theorem dX10_measure_86 : decode cX10_measure 86 = .ok (.getfield 34, 3) := by decide +kernel
theorem dX10_measure_89 : decode cX10_measure 89 = .ok (.iconst 1, 1) := by decide +kernel
theorem dX10_measure_90 : decode cX10_measure 90 = .ok (.isub, 1) := by decide +kernel
theorem dX10_measure_91 : decode cX10_measure 91 = .ok (.istore_n 2, 1) := by decide +kernel
theorem dX10_measure_92 : decode cX10_measure 92 = .ok (.iload_n 2, 1) := by decide +kernel
theorem dX10_measure_93 : decode cX10_measure 93 = .ok (.ifCond .lt 34, 3) := by decide +kernel
theorem dX10_measure_96 : decode cX10_measure 96 = .ok (.aload_n 0, 1) := by decide +kernel
theorem dX10_measure_97 : decode cX10_measure 97 = .ok (.aload_n 1, 1) := by decide +kernel
theorem dX10_measure_98 : decode cX10_measure 98 = .ok (.aload_n 0, 1) := by decide +kernel
theorem dX10_measure_99 : decode cX10_measure 99 = .ok (.getfield 9, 3) := by decide +kernel
theorem dX10_measure_102 : decode cX10_measure 102 = .ok (.iload_n 2, 1) := by decide +kernel
theorem dX10_measure_103 : decode cX10_measure 103 = .ok (.iaload, 1) := by decide +kernel
theorem dX10_measure_104 : decode cX10_measure 104 = .ok (.invokevirtual 38, 3) := by decide +kernel
theorem dX10_measure_107 : decode cX10_measure 107 = .ok (.aload_n 0, 1) := by decide +kernel
theorem dX10_measure_108 : decode cX10_measure 108 = .ok (.getfield 18, 3) := by decide +kernel
theorem dX10_measure_111 : decode cX10_measure 111 = .ok (.aload_n 0, 1) := by decide +kernel
theorem dX10_measure_112 : decode cX10_measure 112 = .ok (.getfield 9, 3) := by decide +kernel
theorem dX10_measure_115 : decode cX10_measure 115 = .ok (.iload_n 2, 1) := by decide +kernel
theorem dX10_measure_116 : decode cX10_measure 116 = .ok (.iaload, 1) := by decide +kernel
theorem dX10_measure_117 : decode cX10_measure 117 = .ok (.iaload, 1) := by decide +kernel
theorem dX10_measure_118 : decode cX10_measure 118 = .ok (.invokevirtual 52, 3) := by decide +kernel
theorem dX10_measure_121 : decode cX10_measure 121 = .ok (.iinc 2 (-1), 3) := by decide +kernel
theorem dX10_measure_124 : decode cX10_measure 124 = .ok (.goto (-32), 3) := by decide +kernel
theorem dX10_measure_127 : decode cX10_measure 127 = .ok (.return_, 1) := by decide +kernel
theorem dX10_depthOf_0 : decode cX10_depthOf 0 = .ok (.iload_n 1, 1) := by decide +kernel
theorem dX10_depthOf_1 : decode cX10_depthOf 1 = .ok (.bipush 26, 2) := by decide +kernel
theorem dX10_depthOf_3 : decode cX10_depthOf 3 = .ok (.if_icmp .lt 21, 3) := by decide +kernel
theorem dX10_depthOf_6 : decode cX10_depthOf 6 = .ok (.iload_n 1, 1) := by decide +kernel
theorem dX10_depthOf_7 : decode cX10_depthOf 7 = .ok (.bipush 66, 2) := by decide +kernel
theorem dX10_depthOf_9 : decode cX10_depthOf 9 = .ok (.if_icmp .ge 15, 3) := by decide +kernel
theorem dX10_depthOf_12 : decode cX10_depthOf 12 = .ok (.aload_n 0, 1) := by decide +kernel
theorem dX10_depthOf_13 : decode cX10_depthOf 13 = .ok (.getfield 15, 3) := by decide +kernel
theorem dX10_depthOf_16 : decode cX10_depthOf 16 = .ok (.iload_n 1, 1) := by decide +kernel
theorem dX10_depthOf_17 : decode cX10_depthOf 17 = .ok (.bipush 26, 2) := by decide +kernel
theorem dX10_depthOf_19 : decode cX10_depthOf 19 = .ok (.isub, 1) := by decide +kernel
theorem dX10_depthOf_20 : decode cX10_depthOf 20 = .ok (.iaload, 1) := by decide +kernel
theorem dX10_depthOf_21 : decode cX10_depthOf 21 = .ok (.goto 4, 3) := by decide +kernel
theorem dX10_depthOf_24 : decode cX10_depthOf 24 = .ok (.iconst 0, 1) := by decide +kernel
theorem dX10_depthOf_25 : decode cX10_depthOf 25 = .ok (.ireturn, 1) := by decide +kernel
theorem dX10_deepestIn_0 : decode cX10_deepestIn 0 = .ok (.iconst 0, 1) := by decide +kernel
theorem dX10_deepestIn_1 : decode cX10_deepestIn 1 = .ok (.istore_n 2, 1) := by decide +kernel
theorem dX10_deepestIn_2 : decode cX10_deepestIn 2 = .ok (.iconst 0, 1) := by decide +kernel
theorem dX10_deepestIn_3 : decode cX10_deepestIn 3 = .ok (.istore_n 3, 1) := by decide +kernel
theorem dX10_deepestIn_4 : decode cX10_deepestIn 4 = .ok (.iload_n 3, 1) := by decide +kernel
theorem dX10_deepestIn_5 : decode cX10_deepestIn 5 = .ok (.aload_n 1, 1) := by decide +kernel
theorem dX10_deepestIn_6 : decode cX10_deepestIn 6 = .ok (.invokevirtual 56, 3) := by decide +kernel
theorem dX10_deepestIn_9 : decode cX10_deepestIn 9 = .ok (.if_icmp .ge 23, 3) := by decide +kernel
theorem dX10_deepestIn_12 : decode cX10_deepestIn 12 = .ok (.iload_n 2, 1) := by decide +kernel
theorem dX10_deepestIn_13 : decode cX10_deepestIn 13 = .ok (.aload_n 0, 1) := by decide +kernel
theorem dX10_deepestIn_14 : decode cX10_deepestIn 14 = .ok (.aload_n 1, 1) := by decide +kernel
theorem dX10_deepestIn_15 : decode cX10_deepestIn 15 = .ok (.iload_n 3, 1) := by decide +kernel
theorem dX10_deepestIn_16 : decode cX10_deepestIn 16 = .ok (.invokevirtual 62, 3) := by decide +kernel
theorem dX10_deepestIn_19 : decode cX10_deepestIn 19 = .ok (.invokevirtual 66, 3) := by decide +kernel
theorem dX10_deepestIn_22 : decode cX10_deepestIn 22 = .ok (.invokestatic 69, 3) := by decide +kernel
theorem dX10_deepestIn_25 : decode cX10_deepestIn 25 = .ok (.istore_n 2, 1) := by decide +kernel
theorem dX10_deepestIn_26 : decode cX10_deepestIn 26 = .ok (.iinc 3 1, 3) := by decide +kernel
theorem dX10_deepestIn_29 : decode cX10_deepestIn 29 = .ok (.goto (-25), 3) := by decide +kernel
theorem dX10_deepestIn_32 : decode cX10_deepestIn 32 = .ok (.iload_n 2, 1) := by decide +kernel
theorem dX10_deepestIn_33 : decode cX10_deepestIn 33 = .ok (.ireturn, 1) := by decide +kernel
theorem dX10_comingsOf_0 : decode cX10_comingsOf 0 = .ok (.iload_n 1, 1) := by decide +kernel
theorem dX10_comingsOf_1 : decode cX10_comingsOf 1 = .ok (.ifCond .lt 18, 3) := by decide +kernel
theorem dX10_comingsOf_4 : decode cX10_comingsOf 4 = .ok (.iload_n 1, 1) := by decide +kernel
theorem dX10_comingsOf_5 : decode cX10_comingsOf 5 = .ok (.bipush 40, 2) := by decide +kernel
theorem dX10_comingsOf_7 : decode cX10_comingsOf 7 = .ok (.if_icmp .ge 12, 3) := by decide +kernel
theorem dX10_comingsOf_10 : decode cX10_comingsOf 10 = .ok (.aload_n 0, 1) := by decide +kernel
theorem dX10_comingsOf_11 : decode cX10_comingsOf 11 = .ok (.getfield 18, 3) := by decide +kernel
theorem dX10_comingsOf_14 : decode cX10_comingsOf 14 = .ok (.iload_n 1, 1) := by decide +kernel
theorem dX10_comingsOf_15 : decode cX10_comingsOf 15 = .ok (.iaload, 1) := by decide +kernel
theorem dX10_comingsOf_16 : decode cX10_comingsOf 16 = .ok (.goto 4, 3) := by decide +kernel
theorem dX10_comingsOf_19 : decode cX10_comingsOf 19 = .ok (.iconst 0, 1) := by decide +kernel
theorem dX10_comingsOf_20 : decode cX10_comingsOf 20 = .ok (.ireturn, 1) := by decide +kernel
theorem dX10_orderByLength_0 : decode cX10_orderByLength 0 = .ok (.aload_n 0, 1) := by decide +kernel
theorem dX10_orderByLength_1 : decode cX10_orderByLength 1 = .ok (.iconst 0, 1) := by decide +kernel
theorem dX10_orderByLength_2 : decode cX10_orderByLength 2 = .ok (.putfield 34, 3) := by decide +kernel
theorem dX10_orderByLength_5 : decode cX10_orderByLength 5 = .ok (.iconst 0, 1) := by decide +kernel
theorem dX10_orderByLength_6 : decode cX10_orderByLength 6 = .ok (.istore_n 2, 1) := by decide +kernel
theorem dX10_orderByLength_7 : decode cX10_orderByLength 7 = .ok (.iload_n 2, 1) := by decide +kernel
theorem dX10_orderByLength_8 : decode cX10_orderByLength 8 = .ok (.bipush 40, 2) := by decide +kernel
theorem dX10_orderByLength_10 : decode cX10_orderByLength 10 = .ok (.if_icmp .ge 100, 3) := by decide +kernel
theorem dX10_orderByLength_13 : decode cX10_orderByLength 13 = .ok (.aload_n 1, 1) := by decide +kernel
theorem dX10_orderByLength_14 : decode cX10_orderByLength 14 = .ok (.iload_n 2, 1) := by decide +kernel
theorem dX10_orderByLength_15 : decode cX10_orderByLength 15 = .ok (.invokevirtual 75, 3) := by decide +kernel
theorem dX10_orderByLength_18 : decode cX10_orderByLength 18 = .ok (.ifCond .ne 6, 3) := by decide +kernel
theorem dX10_orderByLength_21 : decode cX10_orderByLength 21 = .ok (.goto 83, 3) := by decide +kernel
theorem dX10_orderByLength_24 : decode cX10_orderByLength 24 = .ok (.aload_n 1, 1) := by decide +kernel
theorem dX10_orderByLength_25 : decode cX10_orderByLength 25 = .ok (.bipush 26, 2) := by decide +kernel
theorem dX10_orderByLength_27 : decode cX10_orderByLength 27 = .ok (.iload_n 2, 1) := by decide +kernel
theorem dX10_orderByLength_28 : decode cX10_orderByLength 28 = .ok (.iadd, 1) := by decide +kernel
theorem dX10_orderByLength_29 : decode cX10_orderByLength 29 = .ok (.invokevirtual 79, 3) := by decide +kernel
theorem dX10_orderByLength_32 : decode cX10_orderByLength 32 = .ok (.istore_n 3, 1) := by decide +kernel
theorem dX10_orderByLength_33 : decode cX10_orderByLength 33 = .ok (.aload_n 0, 1) := by decide +kernel
theorem dX10_orderByLength_34 : decode cX10_orderByLength 34 = .ok (.getfield 34, 3) := by decide +kernel
theorem dX10_orderByLength_37 : decode cX10_orderByLength 37 = .ok (.istore 4, 2) := by decide +kernel
theorem dX10_orderByLength_39 : decode cX10_orderByLength 39 = .ok (.iload 4, 2) := by decide +kernel
theorem dX10_orderByLength_41 : decode cX10_orderByLength 41 = .ok (.ifCond .le 45, 3) := by decide +kernel
theorem dX10_orderByLength_44 : decode cX10_orderByLength 44 = .ok (.aload_n 1, 1) := by decide +kernel
theorem dX10_orderByLength_45 : decode cX10_orderByLength 45 = .ok (.bipush 26, 2) := by decide +kernel
theorem dX10_orderByLength_47 : decode cX10_orderByLength 47 = .ok (.aload_n 0, 1) := by decide +kernel
theorem dX10_orderByLength_48 : decode cX10_orderByLength 48 = .ok (.getfield 9, 3) := by decide +kernel
theorem dX10_orderByLength_51 : decode cX10_orderByLength 51 = .ok (.iload 4, 2) := by decide +kernel
theorem dX10_orderByLength_53 : decode cX10_orderByLength 53 = .ok (.iconst 1, 1) := by decide +kernel
theorem dX10_orderByLength_54 : decode cX10_orderByLength 54 = .ok (.isub, 1) := by decide +kernel
theorem dX10_orderByLength_55 : decode cX10_orderByLength 55 = .ok (.iaload, 1) := by decide +kernel
theorem dX10_orderByLength_56 : decode cX10_orderByLength 56 = .ok (.iadd, 1) := by decide +kernel
theorem dX10_orderByLength_57 : decode cX10_orderByLength 57 = .ok (.invokevirtual 79, 3) := by decide +kernel
theorem dX10_orderByLength_60 : decode cX10_orderByLength 60 = .ok (.iload_n 3, 1) := by decide +kernel
theorem dX10_orderByLength_61 : decode cX10_orderByLength 61 = .ok (.if_icmp .le 25, 3) := by decide +kernel
theorem dX10_orderByLength_64 : decode cX10_orderByLength 64 = .ok (.aload_n 0, 1) := by decide +kernel
theorem dX10_orderByLength_65 : decode cX10_orderByLength 65 = .ok (.getfield 9, 3) := by decide +kernel
theorem dX10_orderByLength_68 : decode cX10_orderByLength 68 = .ok (.iload 4, 2) := by decide +kernel
theorem dX10_orderByLength_70 : decode cX10_orderByLength 70 = .ok (.aload_n 0, 1) := by decide +kernel
theorem dX10_orderByLength_71 : decode cX10_orderByLength 71 = .ok (.getfield 9, 3) := by decide +kernel
theorem dX10_orderByLength_74 : decode cX10_orderByLength 74 = .ok (.iload 4, 2) := by decide +kernel
theorem dX10_orderByLength_76 : decode cX10_orderByLength 76 = .ok (.iconst 1, 1) := by decide +kernel
theorem dX10_orderByLength_77 : decode cX10_orderByLength 77 = .ok (.isub, 1) := by decide +kernel
theorem dX10_orderByLength_78 : decode cX10_orderByLength 78 = .ok (.iaload, 1) := by decide +kernel
theorem dX10_orderByLength_79 : decode cX10_orderByLength 79 = .ok (.iastore, 1) := by decide +kernel
theorem dX10_orderByLength_80 : decode cX10_orderByLength 80 = .ok (.iinc 4 (-1), 3) := by decide +kernel
theorem dX10_orderByLength_83 : decode cX10_orderByLength 83 = .ok (.goto (-44), 3) := by decide +kernel
theorem dX10_orderByLength_86 : decode cX10_orderByLength 86 = .ok (.aload_n 0, 1) := by decide +kernel
theorem dX10_orderByLength_87 : decode cX10_orderByLength 87 = .ok (.getfield 9, 3) := by decide +kernel
theorem dX10_orderByLength_90 : decode cX10_orderByLength 90 = .ok (.iload 4, 2) := by decide +kernel
theorem dX10_orderByLength_92 : decode cX10_orderByLength 92 = .ok (.iload_n 2, 1) := by decide +kernel
theorem dX10_orderByLength_93 : decode cX10_orderByLength 93 = .ok (.iastore, 1) := by decide +kernel
theorem dX10_orderByLength_94 : decode cX10_orderByLength 94 = .ok (.aload_n 0, 1) := by decide +kernel
theorem dX10_orderByLength_95 : decode cX10_orderByLength 95 = .ok (.dup, 1) := by decide +kernel
theorem dX10_orderByLength_96 : decode cX10_orderByLength 96 = .ok (.getfield 34, 3) := by decide +kernel
theorem dX10_orderByLength_99 : decode cX10_orderByLength 99 = .ok (.iconst 1, 1) := by decide +kernel
theorem dX10_orderByLength_100 : decode cX10_orderByLength 100 = .ok (.iadd, 1) := by decide +kernel
theorem dX10_orderByLength_101 : decode cX10_orderByLength 101 = .ok (.putfield 34, 3) := by decide +kernel
theorem dX10_orderByLength_104 : decode cX10_orderByLength 104 = .ok (.iinc 2 1, 3) := by decide +kernel
theorem dX10_orderByLength_107 : decode cX10_orderByLength 107 = .ok (.goto (-100), 3) := by decide +kernel
theorem dX10_orderByLength_110 : decode cX10_orderByLength 110 = .ok (.return_, 1) := by decide +kernel
theorem dX10_addComings_0 : decode cX10_addComings 0 = .ok (.iconst 0, 1) := by decide +kernel
theorem dX10_addComings_1 : decode cX10_addComings 1 = .ok (.istore_n 3, 1) := by decide +kernel
theorem dX10_addComings_2 : decode cX10_addComings 2 = .ok (.iload_n 3, 1) := by decide +kernel
theorem dX10_addComings_3 : decode cX10_addComings 3 = .ok (.aload_n 1, 1) := by decide +kernel
theorem dX10_addComings_4 : decode cX10_addComings 4 = .ok (.invokevirtual 56, 3) := by decide +kernel
theorem dX10_addComings_7 : decode cX10_addComings 7 = .ok (.if_icmp .ge 42, 3) := by decide +kernel
theorem dX10_addComings_10 : decode cX10_addComings 10 = .ok (.aload_n 1, 1) := by decide +kernel
theorem dX10_addComings_11 : decode cX10_addComings 11 = .ok (.iload_n 3, 1) := by decide +kernel
theorem dX10_addComings_12 : decode cX10_addComings 12 = .ok (.invokevirtual 62, 3) := by decide +kernel
theorem dX10_addComings_15 : decode cX10_addComings 15 = .ok (.bipush 26, 2) := by decide +kernel
theorem dX10_addComings_17 : decode cX10_addComings 17 = .ok (.isub, 1) := by decide +kernel
theorem dX10_addComings_18 : decode cX10_addComings 18 = .ok (.istore 4, 2) := by decide +kernel
theorem dX10_addComings_20 : decode cX10_addComings 20 = .ok (.iload 4, 2) := by decide +kernel
theorem dX10_addComings_22 : decode cX10_addComings 22 = .ok (.ifCond .lt 21, 3) := by decide +kernel
theorem dX10_addComings_25 : decode cX10_addComings 25 = .ok (.iload 4, 2) := by decide +kernel
theorem dX10_addComings_27 : decode cX10_addComings 27 = .ok (.bipush 40, 2) := by decide +kernel
theorem dX10_addComings_29 : decode cX10_addComings 29 = .ok (.if_icmp .ge 14, 3) := by decide +kernel
theorem dX10_addComings_32 : decode cX10_addComings 32 = .ok (.aload_n 0, 1) := by decide +kernel
theorem dX10_addComings_33 : decode cX10_addComings 33 = .ok (.getfield 18, 3) := by decide +kernel
theorem dX10_addComings_36 : decode cX10_addComings 36 = .ok (.iload 4, 2) := by decide +kernel
theorem dX10_addComings_38 : decode cX10_addComings 38 = .ok (.dup2, 1) := by decide +kernel
theorem dX10_addComings_39 : decode cX10_addComings 39 = .ok (.iaload, 1) := by decide +kernel
theorem dX10_addComings_40 : decode cX10_addComings 40 = .ok (.iload_n 2, 1) := by decide +kernel
theorem dX10_addComings_41 : decode cX10_addComings 41 = .ok (.iadd, 1) := by decide +kernel
theorem dX10_addComings_42 : decode cX10_addComings 42 = .ok (.iastore, 1) := by decide +kernel
theorem dX10_addComings_43 : decode cX10_addComings 43 = .ok (.iinc 3 1, 3) := by decide +kernel
theorem dX10_addComings_46 : decode cX10_addComings 46 = .ok (.goto (-44), 3) := by decide +kernel
theorem dX10_addComings_49 : decode cX10_addComings 49 = .ok (.return_, 1) := by decide +kernel
theorem dX10_unfold_0 : decode cX10_unfold 0 = .ok (.aload_n 0, 1) := by decide +kernel
theorem dX10_unfold_1 : decode cX10_unfold 1 = .ok (.iconst 0, 1) := by decide +kernel
theorem dX10_unfold_2 : decode cX10_unfold 2 = .ok (.putfield 82, 3) := by decide +kernel
theorem dX10_unfold_5 : decode cX10_unfold 5 = .ok (.iconst 0, 1) := by decide +kernel
theorem dX10_unfold_6 : decode cX10_unfold 6 = .ok (.istore_n 2, 1) := by decide +kernel
theorem dX10_unfold_7 : decode cX10_unfold 7 = .ok (.aload_n 0, 1) := by decide +kernel
theorem dX10_unfold_8 : decode cX10_unfold 8 = .ok (.getfield 27, 3) := by decide +kernel
theorem dX10_unfold_11 : decode cX10_unfold 11 = .ok (.iconst 0, 1) := by decide +kernel
theorem dX10_unfold_12 : decode cX10_unfold 12 = .ok (.iconst 0, 1) := by decide +kernel
theorem dX10_unfold_13 : decode cX10_unfold 13 = .ok (.iastore, 1) := by decide +kernel
theorem dX10_unfold_14 : decode cX10_unfold 14 = .ok (.iconst 0, 1) := by decide +kernel
theorem dX10_unfold_15 : decode cX10_unfold 15 = .ok (.istore_n 3, 1) := by decide +kernel
theorem dX10_unfold_16 : decode cX10_unfold 16 = .ok (.iload_n 3, 1) := by decide +kernel
theorem dX10_unfold_17 : decode cX10_unfold 17 = .ok (.ldc 85, 2) := by decide +kernel
theorem dX10_unfold_19 : decode cX10_unfold 19 = .ok (.if_icmp .ge 114, 3) := by decide +kernel
theorem dX10_unfold_22 : decode cX10_unfold 22 = .ok (.iload_n 2, 1) := by decide +kernel
theorem dX10_unfold_23 : decode cX10_unfold 23 = .ok (.ifCond .lt 110, 3) := by decide +kernel
theorem dX10_unfold_26 : decode cX10_unfold 26 = .ok (.iload_n 2, 1) := by decide +kernel
theorem dX10_unfold_27 : decode cX10_unfold 27 = .ok (.ifCond .ne 10, 3) := by decide +kernel
theorem dX10_unfold_30 : decode cX10_unfold 30 = .ok (.aload_n 1, 1) := by decide +kernel
theorem dX10_unfold_31 : decode cX10_unfold 31 = .ok (.invokevirtual 48, 3) := by decide +kernel
theorem dX10_unfold_34 : decode cX10_unfold 34 = .ok (.goto 13, 3) := by decide +kernel
theorem dX10_unfold_37 : decode cX10_unfold 37 = .ok (.aload_n 1, 1) := by decide +kernel
theorem dX10_unfold_38 : decode cX10_unfold 38 = .ok (.aload_n 0, 1) := by decide +kernel
theorem dX10_unfold_39 : decode cX10_unfold 39 = .ok (.getfield 24, 3) := by decide +kernel
theorem dX10_unfold_42 : decode cX10_unfold 42 = .ok (.iload_n 2, 1) := by decide +kernel
theorem dX10_unfold_43 : decode cX10_unfold 43 = .ok (.iaload, 1) := by decide +kernel
theorem dX10_unfold_44 : decode cX10_unfold 44 = .ok (.invokevirtual 38, 3) := by decide +kernel
theorem dX10_unfold_47 : decode cX10_unfold 47 = .ok (.astore 4, 2) := by decide +kernel
theorem dX10_unfold_49 : decode cX10_unfold 49 = .ok (.aload 4, 2) := by decide +kernel
theorem dX10_unfold_51 : decode cX10_unfold 51 = .ok (.aload_n 0, 1) := by decide +kernel
theorem dX10_unfold_52 : decode cX10_unfold 52 = .ok (.getfield 27, 3) := by decide +kernel
theorem dX10_unfold_55 : decode cX10_unfold 55 = .ok (.iload_n 2, 1) := by decide +kernel
theorem dX10_unfold_56 : decode cX10_unfold 56 = .ok (.iaload, 1) := by decide +kernel
theorem dX10_unfold_57 : decode cX10_unfold 57 = .ok (.invokevirtual 62, 3) := by decide +kernel
theorem dX10_unfold_60 : decode cX10_unfold 60 = .ok (.istore 5, 2) := by decide +kernel
theorem dX10_unfold_62 : decode cX10_unfold 62 = .ok (.aload_n 0, 1) := by decide +kernel
theorem dX10_unfold_63 : decode cX10_unfold 63 = .ok (.getfield 27, 3) := by decide +kernel
theorem dX10_unfold_66 : decode cX10_unfold 66 = .ok (.iload_n 2, 1) := by decide +kernel
theorem dX10_unfold_67 : decode cX10_unfold 67 = .ok (.dup2, 1) := by decide +kernel
theorem dX10_unfold_68 : decode cX10_unfold 68 = .ok (.iaload, 1) := by decide +kernel
theorem dX10_unfold_69 : decode cX10_unfold 69 = .ok (.iconst 1, 1) := by decide +kernel
theorem dX10_unfold_70 : decode cX10_unfold 70 = .ok (.iadd, 1) := by decide +kernel
theorem dX10_unfold_71 : decode cX10_unfold 71 = .ok (.iastore, 1) := by decide +kernel
theorem dX10_unfold_72 : decode cX10_unfold 72 = .ok (.iload 5, 2) := by decide +kernel
theorem dX10_unfold_74 : decode cX10_unfold 74 = .ok (.iconst (-1), 1) := by decide +kernel
theorem dX10_unfold_75 : decode cX10_unfold 75 = .ok (.if_icmp .ne 9, 3) := by decide +kernel
theorem dX10_unfold_78 : decode cX10_unfold 78 = .ok (.iinc 2 (-1), 3) := by decide +kernel
theorem dX10_unfold_81 : decode cX10_unfold 81 = .ok (.goto 46, 3) := by decide +kernel
theorem dX10_unfold_84 : decode cX10_unfold 84 = .ok (.iload 5, 2) := by decide +kernel
theorem dX10_unfold_86 : decode cX10_unfold 86 = .ok (.bipush 26, 2) := by decide +kernel
theorem dX10_unfold_88 : decode cX10_unfold 88 = .ok (.if_icmp .ge 12, 3) := by decide +kernel
theorem dX10_unfold_91 : decode cX10_unfold 91 = .ok (.aload_n 0, 1) := by decide +kernel
theorem dX10_unfold_92 : decode cX10_unfold 92 = .ok (.iload 5, 2) := by decide +kernel
theorem dX10_unfold_94 : decode cX10_unfold 94 = .ok (.invokevirtual 86, 3) := by decide +kernel
theorem dX10_unfold_97 : decode cX10_unfold 97 = .ok (.goto 30, 3) := by decide +kernel
theorem dX10_unfold_100 : decode cX10_unfold 100 = .ok (.iload_n 2, 1) := by decide +kernel
theorem dX10_unfold_101 : decode cX10_unfold 101 = .ok (.bipush 40, 2) := by decide +kernel
theorem dX10_unfold_103 : decode cX10_unfold 103 = .ok (.if_icmp .ge 24, 3) := by decide +kernel
theorem dX10_unfold_106 : decode cX10_unfold 106 = .ok (.iinc 2 1, 3) := by decide +kernel
theorem dX10_unfold_109 : decode cX10_unfold 109 = .ok (.aload_n 0, 1) := by decide +kernel
theorem dX10_unfold_110 : decode cX10_unfold 110 = .ok (.getfield 24, 3) := by decide +kernel
theorem dX10_unfold_113 : decode cX10_unfold 113 = .ok (.iload_n 2, 1) := by decide +kernel
theorem dX10_unfold_114 : decode cX10_unfold 114 = .ok (.iload 5, 2) := by decide +kernel
theorem dX10_unfold_116 : decode cX10_unfold 116 = .ok (.bipush 26, 2) := by decide +kernel
theorem dX10_unfold_118 : decode cX10_unfold 118 = .ok (.isub, 1) := by decide +kernel
theorem dX10_unfold_119 : decode cX10_unfold 119 = .ok (.iastore, 1) := by decide +kernel
theorem dX10_unfold_120 : decode cX10_unfold 120 = .ok (.aload_n 0, 1) := by decide +kernel
theorem dX10_unfold_121 : decode cX10_unfold 121 = .ok (.getfield 27, 3) := by decide +kernel
theorem dX10_unfold_124 : decode cX10_unfold 124 = .ok (.iload_n 2, 1) := by decide +kernel
theorem dX10_unfold_125 : decode cX10_unfold 125 = .ok (.iconst 0, 1) := by decide +kernel
theorem dX10_unfold_126 : decode cX10_unfold 126 = .ok (.iastore, 1) := by decide +kernel
theorem dX10_unfold_127 : decode cX10_unfold 127 = .ok (.iinc 3 1, 3) := by decide +kernel
theorem dX10_unfold_130 : decode cX10_unfold 130 = .ok (.goto (-114), 3) := by decide +kernel
theorem dX10_unfold_133 : decode cX10_unfold 133 = .ok (.return_, 1) := by decide +kernel
theorem dX10_addLetter_0 : decode cX10_addLetter 0 = .ok (.aload_n 0, 1) := by decide +kernel
theorem dX10_addLetter_1 : decode cX10_addLetter 1 = .ok (.getfield 82, 3) := by decide +kernel
theorem dX10_addLetter_4 : decode cX10_addLetter 4 = .ok (.sipush 400, 3) := by decide +kernel
theorem dX10_addLetter_7 : decode cX10_addLetter 7 = .ok (.if_icmp .ge 23, 3) := by decide +kernel
theorem dX10_addLetter_10 : decode cX10_addLetter 10 = .ok (.aload_n 0, 1) := by decide +kernel
theorem dX10_addLetter_11 : decode cX10_addLetter 11 = .ok (.getfield 21, 3) := by decide +kernel
theorem dX10_addLetter_14 : decode cX10_addLetter 14 = .ok (.aload_n 0, 1) := by decide +kernel
theorem dX10_addLetter_15 : decode cX10_addLetter 15 = .ok (.getfield 82, 3) := by decide +kernel
theorem dX10_addLetter_18 : decode cX10_addLetter 18 = .ok (.iload_n 1, 1) := by decide +kernel
theorem dX10_addLetter_19 : decode cX10_addLetter 19 = .ok (.iastore, 1) := by decide +kernel
theorem dX10_addLetter_20 : decode cX10_addLetter 20 = .ok (.aload_n 0, 1) := by decide +kernel
theorem dX10_addLetter_21 : decode cX10_addLetter 21 = .ok (.dup, 1) := by decide +kernel
theorem dX10_addLetter_22 : decode cX10_addLetter 22 = .ok (.getfield 82, 3) := by decide +kernel
theorem dX10_addLetter_25 : decode cX10_addLetter 25 = .ok (.iconst 1, 1) := by decide +kernel
theorem dX10_addLetter_26 : decode cX10_addLetter 26 = .ok (.iadd, 1) := by decide +kernel
theorem dX10_addLetter_27 : decode cX10_addLetter 27 = .ok (.putfield 82, 3) := by decide +kernel
theorem dX10_addLetter_30 : decode cX10_addLetter 30 = .ok (.return_, 1) := by decide +kernel
theorem dX10_writeTextTo_0 : decode cX10_writeTextTo 0 = .ok (.aload_n 1, 1) := by decide +kernel
theorem dX10_writeTextTo_1 : decode cX10_writeTextTo 1 = .ok (.invokevirtual 90, 3) := by decide +kernel
theorem dX10_writeTextTo_4 : decode cX10_writeTextTo 4 = .ok (.iconst 0, 1) := by decide +kernel
theorem dX10_writeTextTo_5 : decode cX10_writeTextTo 5 = .ok (.istore_n 2, 1) := by decide +kernel
theorem dX10_writeTextTo_6 : decode cX10_writeTextTo 6 = .ok (.iload_n 2, 1) := by decide +kernel
theorem dX10_writeTextTo_7 : decode cX10_writeTextTo 7 = .ok (.aload_n 0, 1) := by decide +kernel
theorem dX10_writeTextTo_8 : decode cX10_writeTextTo 8 = .ok (.getfield 82, 3) := by decide +kernel
theorem dX10_writeTextTo_11 : decode cX10_writeTextTo 11 = .ok (.if_icmp .ge 19, 3) := by decide +kernel
theorem dX10_writeTextTo_14 : decode cX10_writeTextTo 14 = .ok (.aload_n 1, 1) := by decide +kernel
theorem dX10_writeTextTo_15 : decode cX10_writeTextTo 15 = .ok (.aload_n 0, 1) := by decide +kernel
theorem dX10_writeTextTo_16 : decode cX10_writeTextTo 16 = .ok (.getfield 21, 3) := by decide +kernel
theorem dX10_writeTextTo_19 : decode cX10_writeTextTo 19 = .ok (.iload_n 2, 1) := by decide +kernel
theorem dX10_writeTextTo_20 : decode cX10_writeTextTo 20 = .ok (.iaload, 1) := by decide +kernel
theorem dX10_writeTextTo_21 : decode cX10_writeTextTo 21 = .ok (.invokevirtual 93, 3) := by decide +kernel
theorem dX10_writeTextTo_24 : decode cX10_writeTextTo 24 = .ok (.iinc 2 1, 3) := by decide +kernel
theorem dX10_writeTextTo_27 : decode cX10_writeTextTo 27 = .ok (.goto (-21), 3) := by decide +kernel
theorem dX10_writeTextTo_30 : decode cX10_writeTextTo 30 = .ok (.return_, 1) := by decide +kernel
theorem dX10_timesOfLetter_0 : decode cX10_timesOfLetter 0 = .ok (.iconst 0, 1) := by decide +kernel
theorem dX10_timesOfLetter_1 : decode cX10_timesOfLetter 1 = .ok (.istore_n 2, 1) := by decide +kernel
theorem dX10_timesOfLetter_2 : decode cX10_timesOfLetter 2 = .ok (.iconst 0, 1) := by decide +kernel
theorem dX10_timesOfLetter_3 : decode cX10_timesOfLetter 3 = .ok (.istore_n 3, 1) := by decide +kernel
theorem dX10_timesOfLetter_4 : decode cX10_timesOfLetter 4 = .ok (.iload_n 3, 1) := by decide +kernel
theorem dX10_timesOfLetter_5 : decode cX10_timesOfLetter 5 = .ok (.aload_n 0, 1) := by decide +kernel
theorem dX10_timesOfLetter_6 : decode cX10_timesOfLetter 6 = .ok (.getfield 82, 3) := by decide +kernel
theorem dX10_timesOfLetter_9 : decode cX10_timesOfLetter 9 = .ok (.if_icmp .ge 27, 3) := by decide +kernel
theorem dX10_timesOfLetter_12 : decode cX10_timesOfLetter 12 = .ok (.iload_n 2, 1) := by decide +kernel
theorem dX10_timesOfLetter_13 : decode cX10_timesOfLetter 13 = .ok (.aload_n 0, 1) := by decide +kernel
theorem dX10_timesOfLetter_14 : decode cX10_timesOfLetter 14 = .ok (.getfield 21, 3) := by decide +kernel
theorem dX10_timesOfLetter_17 : decode cX10_timesOfLetter 17 = .ok (.iload_n 3, 1) := by decide +kernel
theorem dX10_timesOfLetter_18 : decode cX10_timesOfLetter 18 = .ok (.iaload, 1) := by decide +kernel
theorem dX10_timesOfLetter_19 : decode cX10_timesOfLetter 19 = .ok (.iload_n 1, 1) := by decide +kernel
theorem dX10_timesOfLetter_20 : decode cX10_timesOfLetter 20 = .ok (.if_icmp .ne 7, 3) := by decide +kernel
theorem dX10_timesOfLetter_23 : decode cX10_timesOfLetter 23 = .ok (.iconst 1, 1) := by decide +kernel
theorem dX10_timesOfLetter_24 : decode cX10_timesOfLetter 24 = .ok (.goto 4, 3) := by decide +kernel
theorem dX10_timesOfLetter_27 : decode cX10_timesOfLetter 27 = .ok (.iconst 0, 1) := by decide +kernel
theorem dX10_timesOfLetter_28 : decode cX10_timesOfLetter 28 = .ok (.iadd, 1) := by decide +kernel
theorem dX10_timesOfLetter_29 : decode cX10_timesOfLetter 29 = .ok (.istore_n 2, 1) := by decide +kernel
theorem dX10_timesOfLetter_30 : decode cX10_timesOfLetter 30 = .ok (.iinc 3 1, 3) := by decide +kernel
theorem dX10_timesOfLetter_33 : decode cX10_timesOfLetter 33 = .ok (.goto (-29), 3) := by decide +kernel
theorem dX10_timesOfLetter_36 : decode cX10_timesOfLetter 36 = .ok (.iload_n 2, 1) := by decide +kernel
theorem dX10_timesOfLetter_37 : decode cX10_timesOfLetter 37 = .ok (.ireturn, 1) := by decide +kernel
theorem dX10_unlikeLetters_0 : decode cX10_unlikeLetters 0 = .ok (.iconst 0, 1) := by decide +kernel
theorem dX10_unlikeLetters_1 : decode cX10_unlikeLetters 1 = .ok (.istore_n 1, 1) := by decide +kernel
theorem dX10_unlikeLetters_2 : decode cX10_unlikeLetters 2 = .ok (.iconst 0, 1) := by decide +kernel
theorem dX10_unlikeLetters_3 : decode cX10_unlikeLetters 3 = .ok (.istore_n 2, 1) := by decide +kernel
theorem dX10_unlikeLetters_4 : decode cX10_unlikeLetters 4 = .ok (.iload_n 2, 1) := by decide +kernel
theorem dX10_unlikeLetters_5 : decode cX10_unlikeLetters 5 = .ok (.bipush 26, 2) := by decide +kernel
theorem dX10_unlikeLetters_7 : decode cX10_unlikeLetters 7 = .ok (.if_icmp .ge 25, 3) := by decide +kernel
theorem dX10_unlikeLetters_10 : decode cX10_unlikeLetters 10 = .ok (.iload_n 1, 1) := by decide +kernel
theorem dX10_unlikeLetters_11 : decode cX10_unlikeLetters 11 = .ok (.aload_n 0, 1) := by decide +kernel
theorem dX10_unlikeLetters_12 : decode cX10_unlikeLetters 12 = .ok (.iload_n 2, 1) := by decide +kernel
theorem dX10_unlikeLetters_13 : decode cX10_unlikeLetters 13 = .ok (.invokevirtual 96, 3) := by decide +kernel
theorem dX10_unlikeLetters_16 : decode cX10_unlikeLetters 16 = .ok (.ifCond .le 7, 3) := by decide +kernel
theorem dX10_unlikeLetters_19 : decode cX10_unlikeLetters 19 = .ok (.iconst 1, 1) := by decide +kernel
theorem dX10_unlikeLetters_20 : decode cX10_unlikeLetters 20 = .ok (.goto 4, 3) := by decide +kernel
theorem dX10_unlikeLetters_23 : decode cX10_unlikeLetters 23 = .ok (.iconst 0, 1) := by decide +kernel
theorem dX10_unlikeLetters_24 : decode cX10_unlikeLetters 24 = .ok (.iadd, 1) := by decide +kernel
theorem dX10_unlikeLetters_25 : decode cX10_unlikeLetters 25 = .ok (.istore_n 1, 1) := by decide +kernel
theorem dX10_unlikeLetters_26 : decode cX10_unlikeLetters 26 = .ok (.iinc 2 1, 3) := by decide +kernel
theorem dX10_unlikeLetters_29 : decode cX10_unlikeLetters 29 = .ok (.goto (-25), 3) := by decide +kernel
theorem dX10_unlikeLetters_32 : decode cX10_unlikeLetters 32 = .ok (.iload_n 1, 1) := by decide +kernel
theorem dX10_unlikeLetters_33 : decode cX10_unlikeLetters 33 = .ok (.ireturn, 1) := by decide +kernel
theorem dX10_unlike_0 : decode cX10_unlike 0 = .ok (.aload_n 0, 1) := by decide +kernel
theorem dX10_unlike_1 : decode cX10_unlike 1 = .ok (.getfield 82, 3) := by decide +kernel
theorem dX10_unlike_4 : decode cX10_unlike 4 = .ok (.aload_n 1, 1) := by decide +kernel
theorem dX10_unlike_5 : decode cX10_unlike 5 = .ok (.invokevirtual 56, 3) := by decide +kernel
theorem dX10_unlike_8 : decode cX10_unlike 8 = .ok (.invokestatic 99, 3) := by decide +kernel
theorem dX10_unlike_11 : decode cX10_unlike 11 = .ok (.istore_n 2, 1) := by decide +kernel
theorem dX10_unlike_12 : decode cX10_unlike 12 = .ok (.aload_n 0, 1) := by decide +kernel
theorem dX10_unlike_13 : decode cX10_unlike 13 = .ok (.getfield 82, 3) := by decide +kernel
theorem dX10_unlike_16 : decode cX10_unlike 16 = .ok (.aload_n 1, 1) := by decide +kernel
theorem dX10_unlike_17 : decode cX10_unlike 17 = .ok (.invokevirtual 56, 3) := by decide +kernel
theorem dX10_unlike_20 : decode cX10_unlike 20 = .ok (.invokestatic 69, 3) := by decide +kernel
theorem dX10_unlike_23 : decode cX10_unlike 23 = .ok (.iload_n 2, 1) := by decide +kernel
theorem dX10_unlike_24 : decode cX10_unlike 24 = .ok (.isub, 1) := by decide +kernel
theorem dX10_unlike_25 : decode cX10_unlike 25 = .ok (.istore_n 3, 1) := by decide +kernel
theorem dX10_unlike_26 : decode cX10_unlike 26 = .ok (.iconst 0, 1) := by decide +kernel
theorem dX10_unlike_27 : decode cX10_unlike 27 = .ok (.istore 4, 2) := by decide +kernel
theorem dX10_unlike_29 : decode cX10_unlike 29 = .ok (.iload 4, 2) := by decide +kernel
theorem dX10_unlike_31 : decode cX10_unlike 31 = .ok (.iload_n 2, 1) := by decide +kernel
theorem dX10_unlike_32 : decode cX10_unlike 32 = .ok (.if_icmp .ge 33, 3) := by decide +kernel
theorem dX10_unlike_35 : decode cX10_unlike 35 = .ok (.iload_n 3, 1) := by decide +kernel
theorem dX10_unlike_36 : decode cX10_unlike 36 = .ok (.aload_n 0, 1) := by decide +kernel
theorem dX10_unlike_37 : decode cX10_unlike 37 = .ok (.getfield 21, 3) := by decide +kernel
theorem dX10_unlike_40 : decode cX10_unlike 40 = .ok (.iload 4, 2) := by decide +kernel
theorem dX10_unlike_42 : decode cX10_unlike 42 = .ok (.iaload, 1) := by decide +kernel
theorem dX10_unlike_43 : decode cX10_unlike 43 = .ok (.aload_n 1, 1) := by decide +kernel
theorem dX10_unlike_44 : decode cX10_unlike 44 = .ok (.iload 4, 2) := by decide +kernel
theorem dX10_unlike_46 : decode cX10_unlike 46 = .ok (.invokevirtual 62, 3) := by decide +kernel
theorem dX10_unlike_49 : decode cX10_unlike 49 = .ok (.if_icmp .ne 7, 3) := by decide +kernel
theorem dX10_unlike_52 : decode cX10_unlike 52 = .ok (.iconst 0, 1) := by decide +kernel
theorem dX10_unlike_53 : decode cX10_unlike 53 = .ok (.goto 4, 3) := by decide +kernel
theorem dX10_unlike_56 : decode cX10_unlike 56 = .ok (.iconst 1, 1) := by decide +kernel
theorem dX10_unlike_57 : decode cX10_unlike 57 = .ok (.iadd, 1) := by decide +kernel
theorem dX10_unlike_58 : decode cX10_unlike 58 = .ok (.istore_n 3, 1) := by decide +kernel
theorem dX10_unlike_59 : decode cX10_unlike 59 = .ok (.iinc 4 1, 3) := by decide +kernel
theorem dX10_unlike_62 : decode cX10_unlike 62 = .ok (.goto (-33), 3) := by decide +kernel
theorem dX10_unlike_65 : decode cX10_unlike 65 = .ok (.iload_n 3, 1) := by decide +kernel
theorem dX10_unlike_66 : decode cX10_unlike 66 = .ok (.ireturn, 1) := by decide +kernel
theorem dX10_numberOfText_0 : decode cX10_numberOfText 0 = .ok (.lconst 1, 1) := by decide +kernel
theorem dX10_numberOfText_1 : decode cX10_numberOfText 1 = .ok (.lstore_n 1, 1) := by decide +kernel
theorem dX10_numberOfText_2 : decode cX10_numberOfText 2 = .ok (.iconst 0, 1) := by decide +kernel
theorem dX10_numberOfText_3 : decode cX10_numberOfText 3 = .ok (.istore_n 3, 1) := by decide +kernel
theorem dX10_numberOfText_4 : decode cX10_numberOfText 4 = .ok (.iload_n 3, 1) := by decide +kernel
theorem dX10_numberOfText_5 : decode cX10_numberOfText 5 = .ok (.aload_n 0, 1) := by decide +kernel
theorem dX10_numberOfText_6 : decode cX10_numberOfText 6 = .ok (.getfield 82, 3) := by decide +kernel
theorem dX10_numberOfText_9 : decode cX10_numberOfText 9 = .ok (.if_icmp .ge 25, 3) := by decide +kernel
theorem dX10_numberOfText_12 : decode cX10_numberOfText 12 = .ok (.lload_n 1, 1) := by decide +kernel
theorem dX10_numberOfText_13 : decode cX10_numberOfText 13 = .ok (.ldc2_w 102, 3) := by decide +kernel
theorem dX10_numberOfText_16 : decode cX10_numberOfText 16 = .ok (.lmul, 1) := by decide +kernel
theorem dX10_numberOfText_17 : decode cX10_numberOfText 17 = .ok (.aload_n 0, 1) := by decide +kernel
theorem dX10_numberOfText_18 : decode cX10_numberOfText 18 = .ok (.getfield 21, 3) := by decide +kernel
theorem dX10_numberOfText_21 : decode cX10_numberOfText 21 = .ok (.iload_n 3, 1) := by decide +kernel
theorem dX10_numberOfText_22 : decode cX10_numberOfText 22 = .ok (.iaload, 1) := by decide +kernel
theorem dX10_numberOfText_23 : decode cX10_numberOfText 23 = .ok (.i2l, 1) := by decide +kernel
theorem dX10_numberOfText_24 : decode cX10_numberOfText 24 = .ok (.ladd, 1) := by decide +kernel
theorem dX10_numberOfText_25 : decode cX10_numberOfText 25 = .ok (.lconst 1, 1) := by decide +kernel
theorem dX10_numberOfText_26 : decode cX10_numberOfText 26 = .ok (.ladd, 1) := by decide +kernel
theorem dX10_numberOfText_27 : decode cX10_numberOfText 27 = .ok (.lstore_n 1, 1) := by decide +kernel
theorem dX10_numberOfText_28 : decode cX10_numberOfText 28 = .ok (.iinc 3 1, 3) := by decide +kernel
theorem dX10_numberOfText_31 : decode cX10_numberOfText 31 = .ok (.goto (-27), 3) := by decide +kernel
theorem dX10_numberOfText_34 : decode cX10_numberOfText 34 = .ok (.lload_n 1, 1) := by decide +kernel
theorem dX10_numberOfText_35 : decode cX10_numberOfText 35 = .ok (.lreturn, 1) := by decide +kernel
theorem dX12_init_0 : decode cX12_init 0 = .ok (.aload_n 0, 1) := by decide +kernel
theorem dX12_init_1 : decode cX12_init 1 = .ok (.invokespecial 3, 3) := by decide +kernel
theorem dX12_init_4 : decode cX12_init 4 = .ok (.aload_n 0, 1) := by decide +kernel
theorem dX12_init_5 : decode cX12_init 5 = .ok (.new 9, 3) := by decide +kernel
theorem dX12_init_8 : decode cX12_init 8 = .ok (.dup, 1) := by decide +kernel
theorem dX12_init_9 : decode cX12_init 9 = .ok (.invokespecial 11, 3) := by decide +kernel
theorem dX12_init_12 : decode cX12_init 12 = .ok (.putfield 12, 3) := by decide +kernel
theorem dX12_init_15 : decode cX12_init 15 = .ok (.aload_n 0, 1) := by decide +kernel
theorem dX12_init_16 : decode cX12_init 16 = .ok (.new 9, 3) := by decide +kernel
theorem dX12_init_19 : decode cX12_init 19 = .ok (.dup, 1) := by decide +kernel
theorem dX12_init_20 : decode cX12_init 20 = .ok (.invokespecial 11, 3) := by decide +kernel
theorem dX12_init_23 : decode cX12_init 23 = .ok (.putfield 16, 3) := by decide +kernel
theorem dX12_init_26 : decode cX12_init 26 = .ok (.aload_n 0, 1) := by decide +kernel
theorem dX12_init_27 : decode cX12_init 27 = .ok (.new 19, 3) := by decide +kernel
theorem dX12_init_30 : decode cX12_init 30 = .ok (.dup, 1) := by decide +kernel
theorem dX12_init_31 : decode cX12_init 31 = .ok (.invokespecial 21, 3) := by decide +kernel
theorem dX12_init_34 : decode cX12_init 34 = .ok (.putfield 22, 3) := by decide +kernel
theorem dX12_init_37 : decode cX12_init 37 = .ok (.aload_n 0, 1) := by decide +kernel
theorem dX12_init_38 : decode cX12_init 38 = .ok (.new 26, 3) := by decide +kernel
theorem dX12_init_41 : decode cX12_init 41 = .ok (.dup, 1) := by decide +kernel
theorem dX12_init_42 : decode cX12_init 42 = .ok (.invokespecial 28, 3) := by decide +kernel
theorem dX12_init_45 : decode cX12_init 45 = .ok (.putfield 29, 3) := by decide +kernel
theorem dX12_init_48 : decode cX12_init 48 = .ok (.aload_n 0, 1) := by decide +kernel
theorem dX12_init_49 : decode cX12_init 49 = .ok (.new 33, 3) := by decide +kernel
theorem dX12_init_52 : decode cX12_init 52 = .ok (.dup, 1) := by decide +kernel
theorem dX12_init_53 : decode cX12_init 53 = .ok (.invokespecial 35, 3) := by decide +kernel
theorem dX12_init_56 : decode cX12_init 56 = .ok (.putfield 36, 3) := by decide +kernel
theorem dX12_init_59 : decode cX12_init 59 = .ok (.aload_n 0, 1) := by decide +kernel
theorem dX12_init_60 : decode cX12_init 60 = .ok (.new 40, 3) := by decide +kernel
theorem dX12_init_63 : decode cX12_init 63 = .ok (.dup, 1) := by decide +kernel
theorem dX12_init_64 : decode cX12_init 64 = .ok (.aload_n 0, 1) := by decide +kernel
theorem dX12_init_65 : decode cX12_init 65 = .ok (.getfield 36, 3) := by decide +kernel
theorem dX12_init_68 : decode cX12_init 68 = .ok (.aload_n 0, 1) := by decide +kernel
theorem dX12_init_69 : decode cX12_init 69 = .ok (.getfield 16, 3) := by decide +kernel
theorem dX12_init_72 : decode cX12_init 72 = .ok (.invokespecial 42, 3) := by decide +kernel
theorem dX12_init_75 : decode cX12_init 75 = .ok (.putfield 45, 3) := by decide +kernel
theorem dX12_init_78 : decode cX12_init 78 = .ok (.aload_n 0, 1) := by decide +kernel
theorem dX12_init_79 : decode cX12_init 79 = .ok (.new 49, 3) := by decide +kernel
theorem dX12_init_82 : decode cX12_init 82 = .ok (.dup, 1) := by decide +kernel
theorem dX12_init_83 : decode cX12_init 83 = .ok (.aload_n 0, 1) := by decide +kernel
theorem dX12_init_84 : decode cX12_init 84 = .ok (.getfield 36, 3) := by decide +kernel
theorem dX12_init_87 : decode cX12_init 87 = .ok (.invokespecial 51, 3) := by decide +kernel
theorem dX12_init_90 : decode cX12_init 90 = .ok (.putfield 54, 3) := by decide +kernel
theorem dX12_init_93 : decode cX12_init 93 = .ok (.aload_n 0, 1) := by decide +kernel
theorem dX12_init_94 : decode cX12_init 94 = .ok (.new 58, 3) := by decide +kernel
theorem dX12_init_97 : decode cX12_init 97 = .ok (.dup, 1) := by decide +kernel
theorem dX12_init_98 : decode cX12_init 98 = .ok (.invokespecial 60, 3) := by decide +kernel
theorem dX12_init_101 : decode cX12_init 101 = .ok (.putfield 61, 3) := by decide +kernel
theorem dX12_init_104 : decode cX12_init 104 = .ok (.aload_n 0, 1) := by decide +kernel
theorem dX12_init_105 : decode cX12_init 105 = .ok (.new 65, 3) := by decide +kernel
theorem dX12_init_108 : decode cX12_init 108 = .ok (.dup, 1) := by decide +kernel
theorem dX12_init_109 : decode cX12_init 109 = .ok (.invokespecial 67, 3) := by decide +kernel
theorem dX12_init_112 : decode cX12_init 112 = .ok (.putfield 68, 3) := by decide +kernel
theorem dX12_init_115 : decode cX12_init 115 = .ok (.aload_n 0, 1) := by decide +kernel
theorem dX12_init_116 : decode cX12_init 116 = .ok (.iconst (-1), 1) := by decide +kernel
theorem dX12_init_117 : decode cX12_init 117 = .ok (.putfield 72, 3) := by decide +kernel
theorem dX12_init_120 : decode cX12_init 120 = .ok (.aload_n 0, 1) := by decide +kernel
theorem dX12_init_121 : decode cX12_init 121 = .ok (.getfield 12, 3) := by decide +kernel
theorem dX12_init_124 : decode cX12_init 124 = .ok (.invokevirtual 76, 3) := by decide +kernel
theorem dX12_init_127 : decode cX12_init 127 = .ok (.return_, 1) := by decide +kernel
theorem dX12_feed_0 : decode cX12_feed 0 = .ok (.aload_n 0, 1) := by decide +kernel
theorem dX12_feed_1 : decode cX12_feed 1 = .ok (.getfield 36, 3) := by decide +kernel
theorem dX12_feed_4 : decode cX12_feed 4 = .ok (.iload_n 1, 1) := by decide +kernel
theorem dX12_feed_5 : decode cX12_feed 5 = .ok (.invokevirtual 79, 3) := by decide +kernel
theorem dX12_feed_8 : decode cX12_feed 8 = .ok (.aload_n 0, 1) := by decide +kernel
theorem dX12_feed_9 : decode cX12_feed 9 = .ok (.getfield 36, 3) := by decide +kernel
theorem dX12_feed_12 : decode cX12_feed 12 = .ok (.iload_n 2, 1) := by decide +kernel
theorem dX12_feed_13 : decode cX12_feed 13 = .ok (.invokevirtual 79, 3) := by decide +kernel
theorem dX12_feed_16 : decode cX12_feed 16 = .ok (.iadd, 1) := by decide +kernel
theorem dX12_feed_17 : decode cX12_feed 17 = .ok (.aload_n 0, 1) := by decide +kernel
theorem dX12_feed_18 : decode cX12_feed 18 = .ok (.getfield 36, 3) := by decide +kernel
theorem dX12_feed_21 : decode cX12_feed 21 = .ok (.iload_n 3, 1) := by decide +kernel
theorem dX12_feed_22 : decode cX12_feed 22 = .ok (.invokevirtual 79, 3) := by decide +kernel
theorem dX12_feed_25 : decode cX12_feed 25 = .ok (.iadd, 1) := by decide +kernel
theorem dX12_feed_26 : decode cX12_feed 26 = .ok (.aload_n 0, 1) := by decide +kernel
theorem dX12_feed_27 : decode cX12_feed 27 = .ok (.getfield 36, 3) := by decide +kernel
theorem dX12_feed_30 : decode cX12_feed 30 = .ok (.iload 4, 2) := by decide +kernel
theorem dX12_feed_32 : decode cX12_feed 32 = .ok (.invokevirtual 79, 3) := by decide +kernel
theorem dX12_feed_35 : decode cX12_feed 35 = .ok (.iadd, 1) := by decide +kernel
theorem dX12_feed_36 : decode cX12_feed 36 = .ok (.aload_n 0, 1) := by decide +kernel
theorem dX12_feed_37 : decode cX12_feed 37 = .ok (.getfield 36, 3) := by decide +kernel
theorem dX12_feed_40 : decode cX12_feed 40 = .ok (.iload 5, 2) := by decide +kernel
theorem dX12_feed_42 : decode cX12_feed 42 = .ok (.invokevirtual 79, 3) := by decide +kernel
theorem dX12_feed_45 : decode cX12_feed 45 = .ok (.iadd, 1) := by decide +kernel
theorem dX12_feed_46 : decode cX12_feed 46 = .ok (.istore 6, 2) := by decide +kernel
theorem dX12_feed_48 : decode cX12_feed 48 = .ok (.aload_n 0, 1) := by decide +kernel
theorem dX12_feed_49 : decode cX12_feed 49 = .ok (.getfield 36, 3) := by decide +kernel
theorem dX12_feed_52 : decode cX12_feed 52 = .ok (.iload 6, 2) := by decide +kernel
theorem dX12_feed_54 : decode cX12_feed 54 = .ok (.invokevirtual 83, 3) := by decide +kernel
theorem dX12_feed_57 : decode cX12_feed 57 = .ok (.ifCond .ne 5, 3) := by decide +kernel
theorem dX12_feed_60 : decode cX12_feed 60 = .ok (.iconst (-1), 1) := by decide +kernel
theorem dX12_feed_61 : decode cX12_feed 61 = .ok (.ireturn, 1) := by decide +kernel
theorem dX12_feed_62 : decode cX12_feed 62 = .ok (.aload_n 0, 1) := by decide +kernel
theorem dX12_feed_63 : decode cX12_feed 63 = .ok (.getfield 36, 3) := by decide +kernel
theorem dX12_feed_66 : decode cX12_feed 66 = .ok (.iload_n 1, 1) := by decide +kernel
theorem dX12_feed_67 : decode cX12_feed 67 = .ok (.invokevirtual 87, 3) := by decide +kernel
theorem dX12_feed_70 : decode cX12_feed 70 = .ok (.aload_n 0, 1) := by decide +kernel
theorem dX12_feed_71 : decode cX12_feed 71 = .ok (.getfield 36, 3) := by decide +kernel
theorem dX12_feed_74 : decode cX12_feed 74 = .ok (.iload_n 2, 1) := by decide +kernel
theorem dX12_feed_75 : decode cX12_feed 75 = .ok (.invokevirtual 87, 3) := by decide +kernel
theorem dX12_feed_78 : decode cX12_feed 78 = .ok (.aload_n 0, 1) := by decide +kernel
theorem dX12_feed_79 : decode cX12_feed 79 = .ok (.getfield 36, 3) := by decide +kernel
theorem dX12_feed_82 : decode cX12_feed 82 = .ok (.iload_n 3, 1) := by decide +kernel
theorem dX12_feed_83 : decode cX12_feed 83 = .ok (.invokevirtual 87, 3) := by decide +kernel
theorem dX12_feed_86 : decode cX12_feed 86 = .ok (.aload_n 0, 1) := by decide +kernel
theorem dX12_feed_87 : decode cX12_feed 87 = .ok (.getfield 36, 3) := by decide +kernel
theorem dX12_feed_90 : decode cX12_feed 90 = .ok (.iload 4, 2) := by decide +kernel
theorem dX12_feed_92 : decode cX12_feed 92 = .ok (.invokevirtual 87, 3) := by decide +kernel
theorem dX12_feed_95 : decode cX12_feed 95 = .ok (.aload_n 0, 1) := by decide +kernel
theorem dX12_feed_96 : decode cX12_feed 96 = .ok (.getfield 36, 3) := by decide +kernel
theorem dX12_feed_99 : decode cX12_feed 99 = .ok (.iload 5, 2) := by decide +kernel
theorem dX12_feed_101 : decode cX12_feed 101 = .ok (.invokevirtual 87, 3) := by decide +kernel
theorem dX12_feed_104 : decode cX12_feed 104 = .ok (.aload_n 0, 1) := by decide +kernel
theorem dX12_feed_105 : decode cX12_feed 105 = .ok (.getfield 36, 3) := by decide +kernel
theorem dX12_feed_108 : decode cX12_feed 108 = .ok (.invokevirtual 91, 3) := by decide +kernel
theorem dX12_feed_111 : decode cX12_feed 111 = .ok (.ireturn, 1) := by decide +kernel
theorem dX12_load_0 : decode cX12_load 0 = .ok (.aload_n 0, 1) := by decide +kernel
theorem dX12_load_1 : decode cX12_load 1 = .ok (.getfield 45, 3) := by decide +kernel
theorem dX12_load_4 : decode cX12_load 4 = .ok (.invokevirtual 95, 3) := by decide +kernel
theorem dX12_load_7 : decode cX12_load 7 = .ok (.istore_n 1, 1) := by decide +kernel
theorem dX12_load_8 : decode cX12_load 8 = .ok (.aload_n 0, 1) := by decide +kernel
theorem dX12_load_9 : decode cX12_load 9 = .ok (.getfield 36, 3) := by decide +kernel
theorem dX12_load_12 : decode cX12_load 12 = .ok (.invokevirtual 99, 3) := by decide +kernel
theorem dX12_load_15 : decode cX12_load 15 = .ok (.iload_n 1, 1) := by decide +kernel
theorem dX12_load_16 : decode cX12_load 16 = .ok (.ifCond .ne 8, 3) := by decide +kernel
theorem dX12_load_19 : decode cX12_load 19 = .ok (.aload_n 0, 1) := by decide +kernel
theorem dX12_load_20 : decode cX12_load 20 = .ok (.invokevirtual 102, 3) := by decide +kernel
theorem dX12_load_23 : decode cX12_load 23 = .ok (.ireturn, 1) := by decide +kernel
theorem dX12_load_24 : decode cX12_load 24 = .ok (.aload_n 0, 1) := by decide +kernel
theorem dX12_load_25 : decode cX12_load 25 = .ok (.iconst (-1), 1) := by decide +kernel
theorem dX12_load_26 : decode cX12_load 26 = .ok (.putfield 72, 3) := by decide +kernel
theorem dX12_load_29 : decode cX12_load 29 = .ok (.aload_n 0, 1) := by decide +kernel
theorem dX12_load_30 : decode cX12_load 30 = .ok (.getfield 29, 3) := by decide +kernel
theorem dX12_load_33 : decode cX12_load 33 = .ok (.aload_n 0, 1) := by decide +kernel
theorem dX12_load_34 : decode cX12_load 34 = .ok (.getfield 16, 3) := by decide +kernel
theorem dX12_load_37 : decode cX12_load 37 = .ok (.invokevirtual 105, 3) := by decide +kernel
theorem dX12_load_40 : decode cX12_load 40 = .ok (.aload_n 0, 1) := by decide +kernel
theorem dX12_load_41 : decode cX12_load 41 = .ok (.getfield 16, 3) := by decide +kernel
theorem dX12_load_44 : decode cX12_load 44 = .ok (.aload_n 0, 1) := by decide +kernel
theorem dX12_load_45 : decode cX12_load 45 = .ok (.getfield 29, 3) := by decide +kernel
theorem dX12_load_48 : decode cX12_load 48 = .ok (.invokevirtual 109, 3) := by decide +kernel
theorem dX12_load_51 : decode cX12_load 51 = .ok (.aload_n 0, 1) := by decide +kernel
theorem dX12_load_52 : decode cX12_load 52 = .ok (.getfield 12, 3) := by decide +kernel
theorem dX12_load_55 : decode cX12_load 55 = .ok (.aload_n 0, 1) := by decide +kernel
theorem dX12_load_56 : decode cX12_load 56 = .ok (.getfield 16, 3) := by decide +kernel
theorem dX12_load_59 : decode cX12_load 59 = .ok (.invokevirtual 113, 3) := by decide +kernel
theorem dX12_load_62 : decode cX12_load 62 = .ok (.aload_n 0, 1) := by decide +kernel
theorem dX12_load_63 : decode cX12_load 63 = .ok (.getfield 61, 3) := by decide +kernel
theorem dX12_load_66 : decode cX12_load 66 = .ok (.invokevirtual 116, 3) := by decide +kernel
theorem dX12_load_69 : decode cX12_load 69 = .ok (.aload_n 0, 1) := by decide +kernel
theorem dX12_load_70 : decode cX12_load 70 = .ok (.getfield 61, 3) := by decide +kernel
theorem dX12_load_73 : decode cX12_load 73 = .ok (.invokevirtual 119, 3) := by decide +kernel
theorem dX12_load_76 : decode cX12_load 76 = .ok (.aload_n 0, 1) := by decide +kernel
theorem dX12_load_77 : decode cX12_load 77 = .ok (.getfield 12, 3) := by decide +kernel
theorem dX12_load_80 : decode cX12_load 80 = .ok (.invokevirtual 122, 3) := by decide +kernel
theorem dX12_load_83 : decode cX12_load 83 = .ok (.ireturn, 1) := by decide +kernel
theorem dX12_play_0 : decode cX12_play 0 = .ok (.aload_n 0, 1) := by decide +kernel
theorem dX12_play_1 : decode cX12_play 1 = .ok (.getfield 54, 3) := by decide +kernel
theorem dX12_play_4 : decode cX12_play 4 = .ok (.invokevirtual 125, 3) := by decide +kernel
theorem dX12_play_7 : decode cX12_play 7 = .ok (.istore_n 1, 1) := by decide +kernel
theorem dX12_play_8 : decode cX12_play 8 = .ok (.iload_n 1, 1) := by decide +kernel
theorem dX12_play_9 : decode cX12_play 9 = .ok (.ifCond .ne 15, 3) := by decide +kernel
theorem dX12_play_12 : decode cX12_play 12 = .ok (.aload_n 0, 1) := by decide +kernel
theorem dX12_play_13 : decode cX12_play 13 = .ok (.getfield 36, 3) := by decide +kernel
theorem dX12_play_16 : decode cX12_play 16 = .ok (.invokevirtual 99, 3) := by decide +kernel
theorem dX12_play_19 : decode cX12_play 19 = .ok (.aload_n 0, 1) := by decide +kernel
theorem dX12_play_20 : decode cX12_play 20 = .ok (.invokevirtual 102, 3) := by decide +kernel
theorem dX12_play_23 : decode cX12_play 23 = .ok (.ireturn, 1) := by decide +kernel
theorem dX12_play_24 : decode cX12_play 24 = .ok (.aload_n 0, 1) := by decide +kernel
theorem dX12_play_25 : decode cX12_play 25 = .ok (.iconst (-1), 1) := by decide +kernel
theorem dX12_play_26 : decode cX12_play 26 = .ok (.putfield 72, 3) := by decide +kernel
theorem dX12_play_29 : decode cX12_play 29 = .ok (.aload_n 0, 1) := by decide +kernel
theorem dX12_play_30 : decode cX12_play 30 = .ok (.getfield 61, 3) := by decide +kernel
theorem dX12_play_33 : decode cX12_play 33 = .ok (.aload_n 0, 1) := by decide +kernel
theorem dX12_play_34 : decode cX12_play 34 = .ok (.getfield 12, 3) := by decide +kernel
theorem dX12_play_37 : decode cX12_play 37 = .ok (.invokevirtual 126, 3) := by decide +kernel
theorem dX12_play_40 : decode cX12_play 40 = .ok (.iconst 0, 1) := by decide +kernel
theorem dX12_play_41 : decode cX12_play 41 = .ok (.istore_n 2, 1) := by decide +kernel
theorem dX12_play_42 : decode cX12_play 42 = .ok (.aload_n 0, 1) := by decide +kernel
theorem dX12_play_43 : decode cX12_play 43 = .ok (.getfield 54, 3) := by decide +kernel
theorem dX12_play_46 : decode cX12_play 46 = .ok (.invokevirtual 129, 3) := by decide +kernel
theorem dX12_play_49 : decode cX12_play 49 = .ok (.istore_n 3, 1) := by decide +kernel
theorem dX12_play_50 : decode cX12_play 50 = .ok (.iload_n 2, 1) := by decide +kernel
theorem dX12_play_51 : decode cX12_play 51 = .ok (.bipush 40, 2) := by decide +kernel
theorem dX12_play_53 : decode cX12_play 53 = .ok (.if_icmp .ge 31, 3) := by decide +kernel
theorem dX12_play_56 : decode cX12_play 56 = .ok (.iload_n 3, 1) := by decide +kernel
theorem dX12_play_57 : decode cX12_play 57 = .ok (.iconst (-1), 1) := by decide +kernel
theorem dX12_play_58 : decode cX12_play 58 = .ok (.if_icmp .eq 26, 3) := by decide +kernel
theorem dX12_play_61 : decode cX12_play 61 = .ok (.aload_n 0, 1) := by decide +kernel
theorem dX12_play_62 : decode cX12_play 62 = .ok (.iload_n 3, 1) := by decide +kernel
theorem dX12_play_63 : decode cX12_play 63 = .ok (.invokevirtual 132, 3) := by decide +kernel
theorem dX12_play_66 : decode cX12_play 66 = .ok (.ifCond .eq 18, 3) := by decide +kernel
theorem dX12_play_69 : decode cX12_play 69 = .ok (.iinc 2 1, 3) := by decide +kernel
theorem dX12_play_72 : decode cX12_play 72 = .ok (.aload_n 0, 1) := by decide +kernel
theorem dX12_play_73 : decode cX12_play 73 = .ok (.getfield 54, 3) := by decide +kernel
theorem dX12_play_76 : decode cX12_play 76 = .ok (.iload_n 3, 1) := by decide +kernel
theorem dX12_play_77 : decode cX12_play 77 = .ok (.invokevirtual 135, 3) := by decide +kernel
theorem dX12_play_80 : decode cX12_play 80 = .ok (.istore_n 3, 1) := by decide +kernel
theorem dX12_play_81 : decode cX12_play 81 = .ok (.goto (-31), 3) := by decide +kernel
theorem dX12_play_84 : decode cX12_play 84 = .ok (.aload_n 0, 1) := by decide +kernel
theorem dX12_play_85 : decode cX12_play 85 = .ok (.getfield 36, 3) := by decide +kernel
theorem dX12_play_88 : decode cX12_play 88 = .ok (.invokevirtual 99, 3) := by decide +kernel
theorem dX12_play_91 : decode cX12_play 91 = .ok (.iload_n 2, 1) := by decide +kernel
theorem dX12_play_92 : decode cX12_play 92 = .ok (.ireturn, 1) := by decide +kernel
theorem dX12_errorPosition_0 : decode cX12_errorPosition 0 = .ok (.aload_n 0, 1) := by decide +kernel
theorem dX12_errorPosition_1 : decode cX12_errorPosition 1 = .ok (.getfield 72, 3) := by decide +kernel
theorem dX12_errorPosition_4 : decode cX12_errorPosition 4 = .ok (.ireturn, 1) := by decide +kernel
theorem dX12_size_0 : decode cX12_size 0 = .ok (.iload_n 1, 1) := by decide +kernel
theorem dX12_size_1 : decode cX12_size 1 = .ok (.tableswitch 193 0 11 #[63, 71, 82, 90, 98, 98, 98, 107, 115, 141, 160, 185], 63) := by decide +kernel
theorem dX12_size_64 : decode cX12_size 64 = .ok (.aload_n 0, 1) := by decide +kernel
theorem dX12_size_65 : decode cX12_size 65 = .ok (.getfield 12, 3) := by decide +kernel
theorem dX12_size_68 : decode cX12_size 68 = .ok (.invokevirtual 122, 3) := by decide +kernel
theorem dX12_size_71 : decode cX12_size 71 = .ok (.ireturn, 1) := by decide +kernel
theorem dX12_size_72 : decode cX12_size 72 = .ok (.aload_n 0, 1) := by decide +kernel
theorem dX12_size_73 : decode cX12_size 73 = .ok (.getfield 12, 3) := by decide +kernel
theorem dX12_size_76 : decode cX12_size 76 = .ok (.invokevirtual 138, 3) := by decide +kernel
theorem dX12_size_79 : decode cX12_size 79 = .ok (.invokevirtual 142, 3) := by decide +kernel
theorem dX12_size_82 : decode cX12_size 82 = .ok (.ireturn, 1) := by decide +kernel
theorem dX12_size_83 : decode cX12_size 83 = .ok (.aload_n 0, 1) := by decide +kernel
theorem dX12_size_84 : decode cX12_size 84 = .ok (.getfield 12, 3) := by decide +kernel
theorem dX12_size_87 : decode cX12_size 87 = .ok (.invokevirtual 145, 3) := by decide +kernel
theorem dX12_size_90 : decode cX12_size 90 = .ok (.ireturn, 1) := by decide +kernel
theorem dX12_size_91 : decode cX12_size 91 = .ok (.aload_n 0, 1) := by decide +kernel
theorem dX12_size_92 : decode cX12_size 92 = .ok (.getfield 12, 3) := by decide +kernel
theorem dX12_size_95 : decode cX12_size 95 = .ok (.invokevirtual 148, 3) := by decide +kernel
theorem dX12_size_98 : decode cX12_size 98 = .ok (.ireturn, 1) := by decide +kernel
theorem dX12_size_99 : decode cX12_size 99 = .ok (.aload_n 0, 1) := by decide +kernel
theorem dX12_size_100 : decode cX12_size 100 = .ok (.getfield 12, 3) := by decide +kernel
theorem dX12_size_103 : decode cX12_size 103 = .ok (.iload_n 1, 1) := by decide +kernel
theorem dX12_size_104 : decode cX12_size 104 = .ok (.invokevirtual 151, 3) := by decide +kernel
theorem dX12_size_107 : decode cX12_size 107 = .ok (.ireturn, 1) := by decide +kernel
theorem dX12_size_108 : decode cX12_size 108 = .ok (.aload_n 0, 1) := by decide +kernel
theorem dX12_size_109 : decode cX12_size 109 = .ok (.getfield 12, 3) := by decide +kernel
theorem dX12_size_112 : decode cX12_size 112 = .ok (.invokevirtual 154, 3) := by decide +kernel
theorem dX12_size_115 : decode cX12_size 115 = .ok (.ireturn, 1) := by decide +kernel
theorem dX12_size_116 : decode cX12_size 116 = .ok (.aload_n 0, 1) := by decide +kernel
theorem dX12_size_117 : decode cX12_size 117 = .ok (.getfield 29, 3) := by decide +kernel
theorem dX12_size_120 : decode cX12_size 120 = .ok (.aload_n 0, 1) := by decide +kernel
theorem dX12_size_121 : decode cX12_size 121 = .ok (.getfield 12, 3) := by decide +kernel
theorem dX12_size_124 : decode cX12_size 124 = .ok (.invokevirtual 157, 3) := by decide +kernel
theorem dX12_size_127 : decode cX12_size 127 = .ok (.aload_n 0, 1) := by decide +kernel
theorem dX12_size_128 : decode cX12_size 128 = .ok (.getfield 29, 3) := by decide +kernel
theorem dX12_size_131 : decode cX12_size 131 = .ok (.aload_n 0, 1) := by decide +kernel
theorem dX12_size_132 : decode cX12_size 132 = .ok (.getfield 12, 3) := by decide +kernel
theorem dX12_size_135 : decode cX12_size 135 = .ok (.invokevirtual 138, 3) := by decide +kernel
theorem dX12_size_138 : decode cX12_size 138 = .ok (.invokevirtual 160, 3) := by decide +kernel
theorem dX12_size_141 : decode cX12_size 141 = .ok (.ireturn, 1) := by decide +kernel
theorem dX12_size_142 : decode cX12_size 142 = .ok (.aload_n 0, 1) := by decide +kernel
theorem dX12_size_143 : decode cX12_size 143 = .ok (.getfield 29, 3) := by decide +kernel
theorem dX12_size_146 : decode cX12_size 146 = .ok (.aload_n 0, 1) := by decide +kernel
theorem dX12_size_147 : decode cX12_size 147 = .ok (.getfield 12, 3) := by decide +kernel
theorem dX12_size_150 : decode cX12_size 150 = .ok (.invokevirtual 105, 3) := by decide +kernel
theorem dX12_size_153 : decode cX12_size 153 = .ok (.aload_n 0, 1) := by decide +kernel
theorem dX12_size_154 : decode cX12_size 154 = .ok (.getfield 29, 3) := by decide +kernel
theorem dX12_size_157 : decode cX12_size 157 = .ok (.invokevirtual 164, 3) := by decide +kernel
theorem dX12_size_160 : decode cX12_size 160 = .ok (.ireturn, 1) := by decide +kernel
theorem dX12_size_161 : decode cX12_size 161 = .ok (.aload_n 0, 1) := by decide +kernel
theorem dX12_size_162 : decode cX12_size 162 = .ok (.getfield 22, 3) := by decide +kernel
theorem dX12_size_165 : decode cX12_size 165 = .ok (.invokevirtual 167, 3) := by decide +kernel
theorem dX12_size_168 : decode cX12_size 168 = .ok (.aload_n 0, 1) := by decide +kernel
theorem dX12_size_169 : decode cX12_size 169 = .ok (.getfield 12, 3) := by decide +kernel
theorem dX12_size_172 : decode cX12_size 172 = .ok (.invokevirtual 171, 3) := by decide +kernel
theorem dX12_size_175 : decode cX12_size 175 = .ok (.aload_n 0, 1) := by decide +kernel
theorem dX12_size_176 : decode cX12_size 176 = .ok (.getfield 22, 3) := by decide +kernel
theorem dX12_size_179 : decode cX12_size 179 = .ok (.invokevirtual 167, 3) := by decide +kernel
theorem dX12_size_182 : decode cX12_size 182 = .ok (.invokevirtual 176, 3) := by decide +kernel
theorem dX12_size_185 : decode cX12_size 185 = .ok (.ireturn, 1) := by decide +kernel
theorem dX12_size_186 : decode cX12_size 186 = .ok (.aload_n 0, 1) := by decide +kernel
theorem dX12_size_187 : decode cX12_size 187 = .ok (.getfield 61, 3) := by decide +kernel
theorem dX12_size_190 : decode cX12_size 190 = .ok (.invokevirtual 179, 3) := by decide +kernel
theorem dX12_size_193 : decode cX12_size 193 = .ok (.ireturn, 1) := by decide +kernel
theorem dX12_size_194 : decode cX12_size 194 = .ok (.new 182, 3) := by decide +kernel
theorem dX12_size_197 : decode cX12_size 197 = .ok (.dup, 1) := by decide +kernel
theorem dX12_size_198 : decode cX12_size 198 = .ok (.invokespecial 184, 3) := by decide +kernel
theorem dX12_size_201 : decode cX12_size 201 = .ok (.athrow, 1) := by decide +kernel
theorem dX12_isRule_0 : decode cX12_isRule 0 = .ok (.iload_n 1, 1) := by decide +kernel
theorem dX12_isRule_1 : decode cX12_isRule 1 = .ok (.ifCond .lt 9, 3) := by decide +kernel
theorem dX12_isRule_4 : decode cX12_isRule 4 = .ok (.iload_n 1, 1) := by decide +kernel
theorem dX12_isRule_5 : decode cX12_isRule 5 = .ok (.bipush 40, 2) := by decide +kernel
theorem dX12_isRule_7 : decode cX12_isRule 7 = .ok (.if_icmp .lt 11, 3) := by decide +kernel
theorem dX12_isRule_10 : decode cX12_isRule 10 = .ok (.new 185, 3) := by decide +kernel
theorem dX12_isRule_13 : decode cX12_isRule 13 = .ok (.dup, 1) := by decide +kernel
theorem dX12_isRule_14 : decode cX12_isRule 14 = .ok (.invokespecial 187, 3) := by decide +kernel
theorem dX12_isRule_17 : decode cX12_isRule 17 = .ok (.athrow, 1) := by decide +kernel
theorem dX12_isRule_18 : decode cX12_isRule 18 = .ok (.aload_n 0, 1) := by decide +kernel
theorem dX12_isRule_19 : decode cX12_isRule 19 = .ok (.getfield 12, 3) := by decide +kernel
theorem dX12_isRule_22 : decode cX12_isRule 22 = .ok (.iload_n 1, 1) := by decide +kernel
theorem dX12_isRule_23 : decode cX12_isRule 23 = .ok (.invokevirtual 188, 3) := by decide +kernel
theorem dX12_isRule_26 : decode cX12_isRule 26 = .ok (.ireturn, 1) := by decide +kernel
theorem dX12_rule_0 : decode cX12_rule 0 = .ok (.aload_n 0, 1) := by decide +kernel
theorem dX12_rule_1 : decode cX12_rule 1 = .ok (.getfield 12, 3) := by decide +kernel
theorem dX12_rule_4 : decode cX12_rule 4 = .ok (.iload_n 1, 1) := by decide +kernel
theorem dX12_rule_5 : decode cX12_rule 5 = .ok (.invokevirtual 188, 3) := by decide +kernel
theorem dX12_rule_8 : decode cX12_rule 8 = .ok (.ifCond .ne 11, 3) := by decide +kernel
theorem dX12_rule_11 : decode cX12_rule 11 = .ok (.new 185, 3) := by decide +kernel
theorem dX12_rule_14 : decode cX12_rule 14 = .ok (.dup, 1) := by decide +kernel
theorem dX12_rule_15 : decode cX12_rule 15 = .ok (.invokespecial 187, 3) := by decide +kernel
theorem dX12_rule_18 : decode cX12_rule 18 = .ok (.athrow, 1) := by decide +kernel
theorem dX12_rule_19 : decode cX12_rule 19 = .ok (.iload_n 2, 1) := by decide +kernel
theorem dX12_rule_20 : decode cX12_rule 20 = .ok (.tableswitch 112 0 4 #[36, 48, 57, 69, 92], 36) := by decide +kernel
theorem dX12_rule_56 : decode cX12_rule 56 = .ok (.aload_n 0, 1) := by decide +kernel
theorem dX12_rule_57 : decode cX12_rule 57 = .ok (.getfield 12, 3) := by decide +kernel
theorem dX12_rule_60 : decode cX12_rule 60 = .ok (.iload_n 1, 1) := by decide +kernel
theorem dX12_rule_61 : decode cX12_rule 61 = .ok (.invokevirtual 191, 3) := by decide +kernel
theorem dX12_rule_64 : decode cX12_rule 64 = .ok (.invokevirtual 142, 3) := by decide +kernel
theorem dX12_rule_67 : decode cX12_rule 67 = .ok (.ireturn, 1) := by decide +kernel
theorem dX12_rule_68 : decode cX12_rule 68 = .ok (.aload_n 0, 1) := by decide +kernel
theorem dX12_rule_69 : decode cX12_rule 69 = .ok (.getfield 12, 3) := by decide +kernel
theorem dX12_rule_72 : decode cX12_rule 72 = .ok (.iload_n 1, 1) := by decide +kernel
theorem dX12_rule_73 : decode cX12_rule 73 = .ok (.invokevirtual 195, 3) := by decide +kernel
theorem dX12_rule_76 : decode cX12_rule 76 = .ok (.ireturn, 1) := by decide +kernel
theorem dX12_rule_77 : decode cX12_rule 77 = .ok (.aload_n 0, 1) := by decide +kernel
theorem dX12_rule_78 : decode cX12_rule 78 = .ok (.getfield 12, 3) := by decide +kernel
theorem dX12_rule_81 : decode cX12_rule 81 = .ok (.bipush 26, 2) := by decide +kernel
theorem dX12_rule_83 : decode cX12_rule 83 = .ok (.iload_n 1, 1) := by decide +kernel
theorem dX12_rule_84 : decode cX12_rule 84 = .ok (.iadd, 1) := by decide +kernel
theorem dX12_rule_85 : decode cX12_rule 85 = .ok (.invokevirtual 198, 3) := by decide +kernel
theorem dX12_rule_88 : decode cX12_rule 88 = .ok (.ireturn, 1) := by decide +kernel
theorem dX12_rule_89 : decode cX12_rule 89 = .ok (.aload_n 0, 1) := by decide +kernel
theorem dX12_rule_90 : decode cX12_rule 90 = .ok (.getfield 29, 3) := by decide +kernel
theorem dX12_rule_93 : decode cX12_rule 93 = .ok (.aload_n 0, 1) := by decide +kernel
theorem dX12_rule_94 : decode cX12_rule 94 = .ok (.getfield 12, 3) := by decide +kernel
theorem dX12_rule_97 : decode cX12_rule 97 = .ok (.invokevirtual 157, 3) := by decide +kernel
theorem dX12_rule_100 : decode cX12_rule 100 = .ok (.aload_n 0, 1) := by decide +kernel
theorem dX12_rule_101 : decode cX12_rule 101 = .ok (.getfield 29, 3) := by decide +kernel
theorem dX12_rule_104 : decode cX12_rule 104 = .ok (.bipush 26, 2) := by decide +kernel
theorem dX12_rule_106 : decode cX12_rule 106 = .ok (.iload_n 1, 1) := by decide +kernel
theorem dX12_rule_107 : decode cX12_rule 107 = .ok (.iadd, 1) := by decide +kernel
theorem dX12_rule_108 : decode cX12_rule 108 = .ok (.invokevirtual 201, 3) := by decide +kernel
theorem dX12_rule_111 : decode cX12_rule 111 = .ok (.ireturn, 1) := by decide +kernel
theorem dX12_rule_112 : decode cX12_rule 112 = .ok (.aload_n 0, 1) := by decide +kernel
theorem dX12_rule_113 : decode cX12_rule 113 = .ok (.getfield 29, 3) := by decide +kernel
theorem dX12_rule_116 : decode cX12_rule 116 = .ok (.aload_n 0, 1) := by decide +kernel
theorem dX12_rule_117 : decode cX12_rule 117 = .ok (.getfield 12, 3) := by decide +kernel
theorem dX12_rule_120 : decode cX12_rule 120 = .ok (.invokevirtual 157, 3) := by decide +kernel
theorem dX12_rule_123 : decode cX12_rule 123 = .ok (.aload_n 0, 1) := by decide +kernel
theorem dX12_rule_124 : decode cX12_rule 124 = .ok (.getfield 29, 3) := by decide +kernel
theorem dX12_rule_127 : decode cX12_rule 127 = .ok (.iload_n 1, 1) := by decide +kernel
theorem dX12_rule_128 : decode cX12_rule 128 = .ok (.invokevirtual 204, 3) := by decide +kernel
theorem dX12_rule_131 : decode cX12_rule 131 = .ok (.ireturn, 1) := by decide +kernel
theorem dX12_rule_132 : decode cX12_rule 132 = .ok (.new 182, 3) := by decide +kernel
theorem dX12_rule_135 : decode cX12_rule 135 = .ok (.dup, 1) := by decide +kernel
theorem dX12_rule_136 : decode cX12_rule 136 = .ok (.invokespecial 184, 3) := by decide +kernel
theorem dX12_rule_139 : decode cX12_rule 139 = .ok (.athrow, 1) := by decide +kernel
theorem dX12_bodyAt_0 : decode cX12_bodyAt 0 = .ok (.aload_n 0, 1) := by decide +kernel
theorem dX12_bodyAt_1 : decode cX12_bodyAt 1 = .ok (.getfield 12, 3) := by decide +kernel
theorem dX12_bodyAt_4 : decode cX12_bodyAt 4 = .ok (.iload_n 1, 1) := by decide +kernel
theorem dX12_bodyAt_5 : decode cX12_bodyAt 5 = .ok (.invokevirtual 191, 3) := by decide +kernel
theorem dX12_bodyAt_8 : decode cX12_bodyAt 8 = .ok (.iload_n 2, 1) := by decide +kernel
theorem dX12_bodyAt_9 : decode cX12_bodyAt 9 = .ok (.invokevirtual 207, 3) := by decide +kernel
theorem dX12_bodyAt_12 : decode cX12_bodyAt 12 = .ok (.istore_n 3, 1) := by decide +kernel
theorem dX12_bodyAt_13 : decode cX12_bodyAt 13 = .ok (.iload_n 3, 1) := by decide +kernel
theorem dX12_bodyAt_14 : decode cX12_bodyAt 14 = .ok (.iconst (-1), 1) := by decide +kernel
theorem dX12_bodyAt_15 : decode cX12_bodyAt 15 = .ok (.if_icmp .ne 11, 3) := by decide +kernel
theorem dX12_bodyAt_18 : decode cX12_bodyAt 18 = .ok (.new 185, 3) := by decide +kernel
theorem dX12_bodyAt_21 : decode cX12_bodyAt 21 = .ok (.dup, 1) := by decide +kernel
theorem dX12_bodyAt_22 : decode cX12_bodyAt 22 = .ok (.invokespecial 187, 3) := by decide +kernel
theorem dX12_bodyAt_25 : decode cX12_bodyAt 25 = .ok (.athrow, 1) := by decide +kernel
theorem dX12_bodyAt_26 : decode cX12_bodyAt 26 = .ok (.iload_n 3, 1) := by decide +kernel
theorem dX12_bodyAt_27 : decode cX12_bodyAt 27 = .ok (.ireturn, 1) := by decide +kernel
theorem dX12_startAt_0 : decode cX12_startAt 0 = .ok (.aload_n 0, 1) := by decide +kernel
theorem dX12_startAt_1 : decode cX12_startAt 1 = .ok (.getfield 12, 3) := by decide +kernel
theorem dX12_startAt_4 : decode cX12_startAt 4 = .ok (.invokevirtual 138, 3) := by decide +kernel
theorem dX12_startAt_7 : decode cX12_startAt 7 = .ok (.iload_n 1, 1) := by decide +kernel
theorem dX12_startAt_8 : decode cX12_startAt 8 = .ok (.invokevirtual 207, 3) := by decide +kernel
theorem dX12_startAt_11 : decode cX12_startAt 11 = .ok (.istore_n 2, 1) := by decide +kernel
theorem dX12_startAt_12 : decode cX12_startAt 12 = .ok (.iload_n 2, 1) := by decide +kernel
theorem dX12_startAt_13 : decode cX12_startAt 13 = .ok (.iconst (-1), 1) := by decide +kernel
theorem dX12_startAt_14 : decode cX12_startAt 14 = .ok (.if_icmp .ne 11, 3) := by decide +kernel
theorem dX12_startAt_17 : decode cX12_startAt 17 = .ok (.new 185, 3) := by decide +kernel
theorem dX12_startAt_20 : decode cX12_startAt 20 = .ok (.dup, 1) := by decide +kernel
theorem dX12_startAt_21 : decode cX12_startAt 21 = .ok (.invokespecial 187, 3) := by decide +kernel
theorem dX12_startAt_24 : decode cX12_startAt 24 = .ok (.athrow, 1) := by decide +kernel
theorem dX12_startAt_25 : decode cX12_startAt 25 = .ok (.iload_n 2, 1) := by decide +kernel
theorem dX12_startAt_26 : decode cX12_startAt 26 = .ok (.ireturn, 1) := by decide +kernel
theorem dX12_letterAt_0 : decode cX12_letterAt 0 = .ok (.iload_n 1, 1) := by decide +kernel
theorem dX12_letterAt_1 : decode cX12_letterAt 1 = .ok (.ifCond .lt 14, 3) := by decide +kernel
theorem dX12_letterAt_4 : decode cX12_letterAt 4 = .ok (.iload_n 1, 1) := by decide +kernel
theorem dX12_letterAt_5 : decode cX12_letterAt 5 = .ok (.aload_n 0, 1) := by decide +kernel
theorem dX12_letterAt_6 : decode cX12_letterAt 6 = .ok (.getfield 12, 3) := by decide +kernel
theorem dX12_letterAt_9 : decode cX12_letterAt 9 = .ok (.invokevirtual 122, 3) := by decide +kernel
theorem dX12_letterAt_12 : decode cX12_letterAt 12 = .ok (.if_icmp .lt 11, 3) := by decide +kernel
theorem dX12_letterAt_15 : decode cX12_letterAt 15 = .ok (.new 185, 3) := by decide +kernel
theorem dX12_letterAt_18 : decode cX12_letterAt 18 = .ok (.dup, 1) := by decide +kernel
theorem dX12_letterAt_19 : decode cX12_letterAt 19 = .ok (.invokespecial 187, 3) := by decide +kernel
theorem dX12_letterAt_22 : decode cX12_letterAt 22 = .ok (.athrow, 1) := by decide +kernel
theorem dX12_letterAt_23 : decode cX12_letterAt 23 = .ok (.aload_n 0, 1) := by decide +kernel
theorem dX12_letterAt_24 : decode cX12_letterAt 24 = .ok (.getfield 12, 3) := by decide +kernel
theorem dX12_letterAt_27 : decode cX12_letterAt 27 = .ok (.iload_n 1, 1) := by decide +kernel
theorem dX12_letterAt_28 : decode cX12_letterAt 28 = .ok (.invokevirtual 210, 3) := by decide +kernel
theorem dX12_letterAt_31 : decode cX12_letterAt 31 = .ok (.ireturn, 1) := by decide +kernel
theorem dX12_symbolOf_0 : decode cX12_symbolOf 0 = .ok (.iload_n 1, 1) := by decide +kernel
theorem dX12_symbolOf_1 : decode cX12_symbolOf 1 = .ok (.ifCond .lt 14, 3) := by decide +kernel
theorem dX12_symbolOf_4 : decode cX12_symbolOf 4 = .ok (.iload_n 1, 1) := by decide +kernel
theorem dX12_symbolOf_5 : decode cX12_symbolOf 5 = .ok (.aload_n 0, 1) := by decide +kernel
theorem dX12_symbolOf_6 : decode cX12_symbolOf 6 = .ok (.getfield 12, 3) := by decide +kernel
theorem dX12_symbolOf_9 : decode cX12_symbolOf 9 = .ok (.invokevirtual 122, 3) := by decide +kernel
theorem dX12_symbolOf_12 : decode cX12_symbolOf 12 = .ok (.if_icmp .lt 11, 3) := by decide +kernel
theorem dX12_symbolOf_15 : decode cX12_symbolOf 15 = .ok (.new 185, 3) := by decide +kernel
theorem dX12_symbolOf_18 : decode cX12_symbolOf 18 = .ok (.dup, 1) := by decide +kernel
theorem dX12_symbolOf_19 : decode cX12_symbolOf 19 = .ok (.invokespecial 187, 3) := by decide +kernel
theorem dX12_symbolOf_22 : decode cX12_symbolOf 22 = .ok (.athrow, 1) := by decide +kernel
theorem dX12_symbolOf_23 : decode cX12_symbolOf 23 = .ok (.aload_n 0, 1) := by decide +kernel
theorem dX12_symbolOf_24 : decode cX12_symbolOf 24 = .ok (.getfield 12, 3) := by decide +kernel
theorem dX12_symbolOf_27 : decode cX12_symbolOf 27 = .ok (.aload_n 0, 1) := by decide +kernel
theorem dX12_symbolOf_28 : decode cX12_symbolOf 28 = .ok (.getfield 12, 3) := by decide +kernel
theorem dX12_symbolOf_31 : decode cX12_symbolOf 31 = .ok (.invokevirtual 138, 3) := by decide +kernel
theorem dX12_symbolOf_34 : decode cX12_symbolOf 34 = .ok (.iload_n 1, 1) := by decide +kernel
theorem dX12_symbolOf_35 : decode cX12_symbolOf 35 = .ok (.invokevirtual 213, 3) := by decide +kernel
theorem dX12_symbolOf_38 : decode cX12_symbolOf 38 = .ok (.ireturn, 1) := by decide +kernel
theorem dX12_letters_0 : decode cX12_letters 0 = .ok (.iload_n 1, 1) := by decide +kernel
theorem dX12_letters_1 : decode cX12_letters 1 = .ok (.invokestatic 217, 3) := by decide +kernel
theorem dX12_letters_4 : decode cX12_letters 4 = .ok (.ifCond .ne 11, 3) := by decide +kernel
theorem dX12_letters_7 : decode cX12_letters 7 = .ok (.new 182, 3) := by decide +kernel
theorem dX12_letters_10 : decode cX12_letters 10 = .ok (.dup, 1) := by decide +kernel
theorem dX12_letters_11 : decode cX12_letters 11 = .ok (.invokespecial 184, 3) := by decide +kernel
theorem dX12_letters_14 : decode cX12_letters 14 = .ok (.athrow, 1) := by decide +kernel
theorem dX12_letters_15 : decode cX12_letters 15 = .ok (.aload_n 0, 1) := by decide +kernel
theorem dX12_letters_16 : decode cX12_letters 16 = .ok (.getfield 29, 3) := by decide +kernel
theorem dX12_letters_19 : decode cX12_letters 19 = .ok (.aload_n 0, 1) := by decide +kernel
theorem dX12_letters_20 : decode cX12_letters 20 = .ok (.getfield 12, 3) := by decide +kernel
theorem dX12_letters_23 : decode cX12_letters 23 = .ok (.invokevirtual 105, 3) := by decide +kernel
theorem dX12_letters_26 : decode cX12_letters 26 = .ok (.aload_n 0, 1) := by decide +kernel
theorem dX12_letters_27 : decode cX12_letters 27 = .ok (.getfield 29, 3) := by decide +kernel
theorem dX12_letters_30 : decode cX12_letters 30 = .ok (.iload_n 1, 1) := by decide +kernel
theorem dX12_letters_31 : decode cX12_letters 31 = .ok (.invokevirtual 220, 3) := by decide +kernel
theorem dX12_letters_34 : decode cX12_letters 34 = .ok (.ireturn, 1) := by decide +kernel
theorem dX12_account_0 : decode cX12_account 0 = .ok (.iload_n 1, 1) := by decide +kernel
theorem dX12_account_1 : decode cX12_account 1 = .ok (.ifCond .lt 9, 3) := by decide +kernel
theorem dX12_account_4 : decode cX12_account 4 = .ok (.iload_n 1, 1) := by decide +kernel
theorem dX12_account_5 : decode cX12_account 5 = .ok (.bipush 9, 2) := by decide +kernel
theorem dX12_account_7 : decode cX12_account 7 = .ok (.if_icmp .lt 11, 3) := by decide +kernel
theorem dX12_account_10 : decode cX12_account 10 = .ok (.new 182, 3) := by decide +kernel
theorem dX12_account_13 : decode cX12_account 13 = .ok (.dup, 1) := by decide +kernel
theorem dX12_account_14 : decode cX12_account 14 = .ok (.invokespecial 184, 3) := by decide +kernel
theorem dX12_account_17 : decode cX12_account 17 = .ok (.athrow, 1) := by decide +kernel
theorem dX12_account_18 : decode cX12_account 18 = .ok (.aload_n 0, 1) := by decide +kernel
theorem dX12_account_19 : decode cX12_account 19 = .ok (.getfield 12, 3) := by decide +kernel
theorem dX12_account_22 : decode cX12_account 22 = .ok (.iload_n 1, 1) := by decide +kernel
theorem dX12_account_23 : decode cX12_account 23 = .ok (.invokevirtual 223, 3) := by decide +kernel
theorem dX12_account_26 : decode cX12_account 26 = .ok (.ireturn, 1) := by decide +kernel
theorem dX12_gap_0 : decode cX12_gap 0 = .ok (.aload_n 0, 1) := by decide +kernel
theorem dX12_gap_1 : decode cX12_gap 1 = .ok (.getfield 29, 3) := by decide +kernel
theorem dX12_gap_4 : decode cX12_gap 4 = .ok (.aload_n 0, 1) := by decide +kernel
theorem dX12_gap_5 : decode cX12_gap 5 = .ok (.getfield 12, 3) := by decide +kernel
theorem dX12_gap_8 : decode cX12_gap 8 = .ok (.invokevirtual 105, 3) := by decide +kernel
theorem dX12_gap_11 : decode cX12_gap 11 = .ok (.aload_n 0, 1) := by decide +kernel
theorem dX12_gap_12 : decode cX12_gap 12 = .ok (.getfield 29, 3) := by decide +kernel
theorem dX12_gap_15 : decode cX12_gap 15 = .ok (.aload_n 0, 1) := by decide +kernel
theorem dX12_gap_16 : decode cX12_gap 16 = .ok (.getfield 12, 3) := by decide +kernel
theorem dX12_gap_19 : decode cX12_gap 19 = .ok (.invokevirtual 226, 3) := by decide +kernel
theorem dX12_gap_22 : decode cX12_gap 22 = .ok (.invokevirtual 229, 3) := by decide +kernel
theorem dX12_gap_25 : decode cX12_gap 25 = .ok (.ireturn, 1) := by decide +kernel
theorem dX12_rulesGap_0 : decode cX12_rulesGap 0 = .ok (.aload_n 0, 1) := by decide +kernel
theorem dX12_rulesGap_1 : decode cX12_rulesGap 1 = .ok (.getfield 12, 3) := by decide +kernel
theorem dX12_rulesGap_4 : decode cX12_rulesGap 4 = .ok (.invokevirtual 232, 3) := by decide +kernel
theorem dX12_rulesGap_7 : decode cX12_rulesGap 7 = .ok (.aload_n 0, 1) := by decide +kernel
theorem dX12_rulesGap_8 : decode cX12_rulesGap 8 = .ok (.getfield 12, 3) := by decide +kernel
theorem dX12_rulesGap_11 : decode cX12_rulesGap 11 = .ok (.iconst 1, 1) := by decide +kernel
theorem dX12_rulesGap_12 : decode cX12_rulesGap 12 = .ok (.invokevirtual 223, 3) := by decide +kernel
theorem dX12_rulesGap_15 : decode cX12_rulesGap 15 = .ok (.iadd, 1) := by decide +kernel
theorem dX12_rulesGap_16 : decode cX12_rulesGap 16 = .ok (.aload_n 0, 1) := by decide +kernel
theorem dX12_rulesGap_17 : decode cX12_rulesGap 17 = .ok (.getfield 12, 3) := by decide +kernel
theorem dX12_rulesGap_20 : decode cX12_rulesGap 20 = .ok (.iconst 2, 1) := by decide +kernel
theorem dX12_rulesGap_21 : decode cX12_rulesGap 21 = .ok (.invokevirtual 223, 3) := by decide +kernel
theorem dX12_rulesGap_24 : decode cX12_rulesGap 24 = .ok (.isub, 1) := by decide +kernel
theorem dX12_rulesGap_25 : decode cX12_rulesGap 25 = .ok (.aload_n 0, 1) := by decide +kernel
theorem dX12_rulesGap_26 : decode cX12_rulesGap 26 = .ok (.getfield 12, 3) := by decide +kernel
theorem dX12_rulesGap_29 : decode cX12_rulesGap 29 = .ok (.iconst 3, 1) := by decide +kernel
theorem dX12_rulesGap_30 : decode cX12_rulesGap 30 = .ok (.invokevirtual 223, 3) := by decide +kernel
theorem dX12_rulesGap_33 : decode cX12_rulesGap 33 = .ok (.isub, 1) := by decide +kernel
theorem dX12_rulesGap_34 : decode cX12_rulesGap 34 = .ok (.aload_n 0, 1) := by decide +kernel
theorem dX12_rulesGap_35 : decode cX12_rulesGap 35 = .ok (.getfield 12, 3) := by decide +kernel
theorem dX12_rulesGap_38 : decode cX12_rulesGap 38 = .ok (.iconst 4, 1) := by decide +kernel
theorem dX12_rulesGap_39 : decode cX12_rulesGap 39 = .ok (.invokevirtual 223, 3) := by decide +kernel
theorem dX12_rulesGap_42 : decode cX12_rulesGap 42 = .ok (.isub, 1) := by decide +kernel
theorem dX12_rulesGap_43 : decode cX12_rulesGap 43 = .ok (.aload_n 0, 1) := by decide +kernel
theorem dX12_rulesGap_44 : decode cX12_rulesGap 44 = .ok (.getfield 12, 3) := by decide +kernel
theorem dX12_rulesGap_47 : decode cX12_rulesGap 47 = .ok (.invokevirtual 145, 3) := by decide +kernel
theorem dX12_rulesGap_50 : decode cX12_rulesGap 50 = .ok (.isub, 1) := by decide +kernel
theorem dX12_rulesGap_51 : decode cX12_rulesGap 51 = .ok (.ireturn, 1) := by decide +kernel
theorem dX12_ratio_0 : decode cX12_ratio 0 = .ok (.aload_n 0, 1) := by decide +kernel
theorem dX12_ratio_1 : decode cX12_ratio 1 = .ok (.getfield 12, 3) := by decide +kernel
theorem dX12_ratio_4 : decode cX12_ratio 4 = .ok (.invokevirtual 122, 3) := by decide +kernel
theorem dX12_ratio_7 : decode cX12_ratio 7 = .ok (.istore_n 1, 1) := by decide +kernel
theorem dX12_ratio_8 : decode cX12_ratio 8 = .ok (.iload_n 1, 1) := by decide +kernel
theorem dX12_ratio_9 : decode cX12_ratio 9 = .ok (.iconst 1, 1) := by decide +kernel
theorem dX12_ratio_10 : decode cX12_ratio 10 = .ok (.if_icmp .ge 7, 3) := by decide +kernel
theorem dX12_ratio_13 : decode cX12_ratio 13 = .ok (.dconst 0, 1) := by decide +kernel
theorem dX12_ratio_14 : decode cX12_ratio 14 = .ok (.goto 14, 3) := by decide +kernel
theorem dX12_ratio_17 : decode cX12_ratio 17 = .ok (.aload_n 0, 1) := by decide +kernel
theorem dX12_ratio_18 : decode cX12_ratio 18 = .ok (.getfield 12, 3) := by decide +kernel
theorem dX12_ratio_21 : decode cX12_ratio 21 = .ok (.invokevirtual 148, 3) := by decide +kernel
theorem dX12_ratio_24 : decode cX12_ratio 24 = .ok (.i2d, 1) := by decide +kernel
theorem dX12_ratio_25 : decode cX12_ratio 25 = .ok (.iload_n 1, 1) := by decide +kernel
theorem dX12_ratio_26 : decode cX12_ratio 26 = .ok (.i2d, 1) := by decide +kernel
theorem dX12_ratio_27 : decode cX12_ratio 27 = .ok (.ddiv, 1) := by decide +kernel
theorem dX12_ratio_28 : decode cX12_ratio 28 = .ok (.dreturn, 1) := by decide +kernel
theorem dX12_meanBits_0 : decode cX12_meanBits 0 = .ok (.aload_n 0, 1) := by decide +kernel
theorem dX12_meanBits_1 : decode cX12_meanBits 1 = .ok (.getfield 12, 3) := by decide +kernel
theorem dX12_meanBits_4 : decode cX12_meanBits 4 = .ok (.invokevirtual 138, 3) := by decide +kernel
theorem dX12_meanBits_7 : decode cX12_meanBits 7 = .ok (.invokevirtual 142, 3) := by decide +kernel
theorem dX12_meanBits_10 : decode cX12_meanBits 10 = .ok (.istore_n 1, 1) := by decide +kernel
theorem dX12_meanBits_11 : decode cX12_meanBits 11 = .ok (.iload_n 1, 1) := by decide +kernel
theorem dX12_meanBits_12 : decode cX12_meanBits 12 = .ok (.iconst 1, 1) := by decide +kernel
theorem dX12_meanBits_13 : decode cX12_meanBits 13 = .ok (.if_icmp .ge 7, 3) := by decide +kernel
theorem dX12_meanBits_16 : decode cX12_meanBits 16 = .ok (.iconst 0, 1) := by decide +kernel
theorem dX12_meanBits_17 : decode cX12_meanBits 17 = .ok (.goto 17, 3) := by decide +kernel
theorem dX12_meanBits_20 : decode cX12_meanBits 20 = .ok (.aload_n 0, 1) := by decide +kernel
theorem dX12_meanBits_21 : decode cX12_meanBits 21 = .ok (.getfield 12, 3) := by decide +kernel
theorem dX12_meanBits_24 : decode cX12_meanBits 24 = .ok (.invokevirtual 122, 3) := by decide +kernel
theorem dX12_meanBits_27 : decode cX12_meanBits 27 = .ok (.i2f, 1) := by decide +kernel
theorem dX12_meanBits_28 : decode cX12_meanBits 28 = .ok (.iload_n 1, 1) := by decide +kernel
theorem dX12_meanBits_29 : decode cX12_meanBits 29 = .ok (.i2f, 1) := by decide +kernel
theorem dX12_meanBits_30 : decode cX12_meanBits 30 = .ok (.fdiv, 1) := by decide +kernel
theorem dX12_meanBits_31 : decode cX12_meanBits 31 = .ok (.invokestatic 235, 3) := by decide +kernel
theorem dX12_meanBits_34 : decode cX12_meanBits 34 = .ok (.ireturn, 1) := by decide +kernel
theorem dX12_digest_0 : decode cX12_digest 0 = .ok (.aload_n 0, 1) := by decide +kernel
theorem dX12_digest_1 : decode cX12_digest 1 = .ok (.getfield 29, 3) := by decide +kernel
theorem dX12_digest_4 : decode cX12_digest 4 = .ok (.aload_n 0, 1) := by decide +kernel
theorem dX12_digest_5 : decode cX12_digest 5 = .ok (.getfield 12, 3) := by decide +kernel
theorem dX12_digest_8 : decode cX12_digest 8 = .ok (.invokevirtual 105, 3) := by decide +kernel
theorem dX12_digest_11 : decode cX12_digest 11 = .ok (.aload_n 0, 1) := by decide +kernel
theorem dX12_digest_12 : decode cX12_digest 12 = .ok (.getfield 29, 3) := by decide +kernel
theorem dX12_digest_15 : decode cX12_digest 15 = .ok (.invokevirtual 239, 3) := by decide +kernel
theorem dX12_digest_18 : decode cX12_digest 18 = .ok (.lreturn, 1) := by decide +kernel
theorem dX12_count_0 : decode cX12_count 0 = .ok (.iload_n 1, 1) := by decide +kernel
theorem dX12_count_1 : decode cX12_count 1 = .ok (.invokestatic 243, 3) := by decide +kernel
theorem dX12_count_4 : decode cX12_count 4 = .ok (.ifCond .eq 10, 3) := by decide +kernel
theorem dX12_count_7 : decode cX12_count 7 = .ok (.iload_n 2, 1) := by decide +kernel
theorem dX12_count_8 : decode cX12_count 8 = .ok (.invokestatic 243, 3) := by decide +kernel
theorem dX12_count_11 : decode cX12_count 11 = .ok (.ifCond .ne 11, 3) := by decide +kernel
theorem dX12_count_14 : decode cX12_count 14 = .ok (.new 182, 3) := by decide +kernel
theorem dX12_count_17 : decode cX12_count 17 = .ok (.dup, 1) := by decide +kernel
theorem dX12_count_18 : decode cX12_count 18 = .ok (.invokespecial 184, 3) := by decide +kernel
theorem dX12_count_21 : decode cX12_count 21 = .ok (.athrow, 1) := by decide +kernel
theorem dX12_count_22 : decode cX12_count 22 = .ok (.aload_n 0, 1) := by decide +kernel
theorem dX12_count_23 : decode cX12_count 23 = .ok (.getfield 22, 3) := by decide +kernel
theorem dX12_count_26 : decode cX12_count 26 = .ok (.invokevirtual 167, 3) := by decide +kernel
theorem dX12_count_29 : decode cX12_count 29 = .ok (.astore_n 3, 1) := by decide +kernel
theorem dX12_count_30 : decode cX12_count 30 = .ok (.aload_n 3, 1) := by decide +kernel
theorem dX12_count_31 : decode cX12_count 31 = .ok (.aload_n 0, 1) := by decide +kernel
theorem dX12_count_32 : decode cX12_count 32 = .ok (.getfield 12, 3) := by decide +kernel
theorem dX12_count_35 : decode cX12_count 35 = .ok (.invokevirtual 171, 3) := by decide +kernel
theorem dX12_count_38 : decode cX12_count 38 = .ok (.aload_n 3, 1) := by decide +kernel
theorem dX12_count_39 : decode cX12_count 39 = .ok (.aload_n 3, 1) := by decide +kernel
theorem dX12_count_40 : decode cX12_count 40 = .ok (.iload_n 1, 1) := by decide +kernel
theorem dX12_count_41 : decode cX12_count 41 = .ok (.iload_n 2, 1) := by decide +kernel
theorem dX12_count_42 : decode cX12_count 42 = .ok (.invokevirtual 246, 3) := by decide +kernel
theorem dX12_count_45 : decode cX12_count 45 = .ok (.invokevirtual 250, 3) := by decide +kernel
theorem dX12_count_48 : decode cX12_count 48 = .ok (.ireturn, 1) := by decide +kernel
theorem dX12_best_0 : decode cX12_best 0 = .ok (.iload_n 1, 1) := by decide +kernel
theorem dX12_best_1 : decode cX12_best 1 = .ok (.ifCond .lt 8, 3) := by decide +kernel
theorem dX12_best_4 : decode cX12_best 4 = .ok (.iload_n 1, 1) := by decide +kernel
theorem dX12_best_5 : decode cX12_best 5 = .ok (.iconst 4, 1) := by decide +kernel
theorem dX12_best_6 : decode cX12_best 6 = .ok (.if_icmp .le 11, 3) := by decide +kernel
theorem dX12_best_9 : decode cX12_best 9 = .ok (.new 182, 3) := by decide +kernel
theorem dX12_best_12 : decode cX12_best 12 = .ok (.dup, 1) := by decide +kernel
theorem dX12_best_13 : decode cX12_best 13 = .ok (.invokespecial 184, 3) := by decide +kernel
theorem dX12_best_16 : decode cX12_best 16 = .ok (.athrow, 1) := by decide +kernel
theorem dX12_best_17 : decode cX12_best 17 = .ok (.aload_n 0, 1) := by decide +kernel
theorem dX12_best_18 : decode cX12_best 18 = .ok (.getfield 22, 3) := by decide +kernel
theorem dX12_best_21 : decode cX12_best 21 = .ok (.invokevirtual 167, 3) := by decide +kernel
theorem dX12_best_24 : decode cX12_best 24 = .ok (.astore_n 2, 1) := by decide +kernel
theorem dX12_best_25 : decode cX12_best 25 = .ok (.aload_n 2, 1) := by decide +kernel
theorem dX12_best_26 : decode cX12_best 26 = .ok (.aload_n 0, 1) := by decide +kernel
theorem dX12_best_27 : decode cX12_best 27 = .ok (.getfield 12, 3) := by decide +kernel
theorem dX12_best_30 : decode cX12_best 30 = .ok (.invokevirtual 171, 3) := by decide +kernel
theorem dX12_best_33 : decode cX12_best 33 = .ok (.aload_n 2, 1) := by decide +kernel
theorem dX12_best_34 : decode cX12_best 34 = .ok (.invokevirtual 253, 3) := by decide +kernel
theorem dX12_best_37 : decode cX12_best 37 = .ok (.istore_n 3, 1) := by decide +kernel
theorem dX12_best_38 : decode cX12_best 38 = .ok (.iload_n 3, 1) := by decide +kernel
theorem dX12_best_39 : decode cX12_best 39 = .ok (.iconst (-1), 1) := by decide +kernel
theorem dX12_best_40 : decode cX12_best 40 = .ok (.if_icmp .ne 14, 3) := by decide +kernel
theorem dX12_best_43 : decode cX12_best 43 = .ok (.iload_n 1, 1) := by decide +kernel
theorem dX12_best_44 : decode cX12_best 44 = .ok (.iconst 4, 1) := by decide +kernel
theorem dX12_best_45 : decode cX12_best 45 = .ok (.if_icmp .ne 7, 3) := by decide +kernel
theorem dX12_best_48 : decode cX12_best 48 = .ok (.iconst 0, 1) := by decide +kernel
theorem dX12_best_49 : decode cX12_best 49 = .ok (.goto 4, 3) := by decide +kernel
theorem dX12_best_52 : decode cX12_best 52 = .ok (.iconst (-1), 1) := by decide +kernel
theorem dX12_best_53 : decode cX12_best 53 = .ok (.ireturn, 1) := by decide +kernel
theorem dX12_best_54 : decode cX12_best 54 = .ok (.iload_n 1, 1) := by decide +kernel
theorem dX12_best_55 : decode cX12_best 55 = .ok (.tableswitch 53 0 3 #[29, 35, 41, 47], 29) := by decide +kernel
theorem dX12_best_84 : decode cX12_best 84 = .ok (.aload_n 2, 1) := by decide +kernel
theorem dX12_best_85 : decode cX12_best 85 = .ok (.iload_n 3, 1) := by decide +kernel
theorem dX12_best_86 : decode cX12_best 86 = .ok (.invokevirtual 256, 3) := by decide +kernel
theorem dX12_best_89 : decode cX12_best 89 = .ok (.ireturn, 1) := by decide +kernel
theorem dX12_best_90 : decode cX12_best 90 = .ok (.aload_n 2, 1) := by decide +kernel
theorem dX12_best_91 : decode cX12_best 91 = .ok (.iload_n 3, 1) := by decide +kernel
theorem dX12_best_92 : decode cX12_best 92 = .ok (.invokevirtual 259, 3) := by decide +kernel
theorem dX12_best_95 : decode cX12_best 95 = .ok (.ireturn, 1) := by decide +kernel
theorem dX12_best_96 : decode cX12_best 96 = .ok (.aload_n 2, 1) := by decide +kernel
theorem dX12_best_97 : decode cX12_best 97 = .ok (.iload_n 3, 1) := by decide +kernel
theorem dX12_best_98 : decode cX12_best 98 = .ok (.invokevirtual 250, 3) := by decide +kernel
theorem dX12_best_101 : decode cX12_best 101 = .ok (.ireturn, 1) := by decide +kernel
theorem dX12_best_102 : decode cX12_best 102 = .ok (.aload_n 2, 1) := by decide +kernel
theorem dX12_best_103 : decode cX12_best 103 = .ok (.iload_n 3, 1) := by decide +kernel
theorem dX12_best_104 : decode cX12_best 104 = .ok (.invokevirtual 262, 3) := by decide +kernel
theorem dX12_best_107 : decode cX12_best 107 = .ok (.ireturn, 1) := by decide +kernel
theorem dX12_best_108 : decode cX12_best 108 = .ok (.aload_n 2, 1) := by decide +kernel
theorem dX12_best_109 : decode cX12_best 109 = .ok (.invokevirtual 265, 3) := by decide +kernel
theorem dX12_best_112 : decode cX12_best 112 = .ok (.ireturn, 1) := by decide +kernel
theorem dX12_why_0 : decode cX12_why 0 = .ok (.iload_n 1, 1) := by decide +kernel
theorem dX12_why_1 : decode cX12_why 1 = .ok (.invokestatic 243, 3) := by decide +kernel
theorem dX12_why_4 : decode cX12_why 4 = .ok (.ifCond .eq 10, 3) := by decide +kernel
theorem dX12_why_7 : decode cX12_why 7 = .ok (.iload_n 2, 1) := by decide +kernel
theorem dX12_why_8 : decode cX12_why 8 = .ok (.invokestatic 243, 3) := by decide +kernel
theorem dX12_why_11 : decode cX12_why 11 = .ok (.ifCond .ne 11, 3) := by decide +kernel
theorem dX12_why_14 : decode cX12_why 14 = .ok (.new 182, 3) := by decide +kernel
theorem dX12_why_17 : decode cX12_why 17 = .ok (.dup, 1) := by decide +kernel
theorem dX12_why_18 : decode cX12_why 18 = .ok (.invokespecial 184, 3) := by decide +kernel
theorem dX12_why_21 : decode cX12_why 21 = .ok (.athrow, 1) := by decide +kernel
theorem dX12_why_22 : decode cX12_why 22 = .ok (.aload_n 0, 1) := by decide +kernel
theorem dX12_why_23 : decode cX12_why 23 = .ok (.getfield 22, 3) := by decide +kernel
theorem dX12_why_26 : decode cX12_why 26 = .ok (.invokevirtual 167, 3) := by decide +kernel
theorem dX12_why_29 : decode cX12_why 29 = .ok (.astore_n 3, 1) := by decide +kernel
theorem dX12_why_30 : decode cX12_why 30 = .ok (.aload_n 3, 1) := by decide +kernel
theorem dX12_why_31 : decode cX12_why 31 = .ok (.aload_n 0, 1) := by decide +kernel
theorem dX12_why_32 : decode cX12_why 32 = .ok (.getfield 12, 3) := by decide +kernel
theorem dX12_why_35 : decode cX12_why 35 = .ok (.invokevirtual 171, 3) := by decide +kernel
theorem dX12_why_38 : decode cX12_why 38 = .ok (.aload_n 3, 1) := by decide +kernel
theorem dX12_why_39 : decode cX12_why 39 = .ok (.iload_n 1, 1) := by decide +kernel
theorem dX12_why_40 : decode cX12_why 40 = .ok (.iload_n 2, 1) := by decide +kernel
theorem dX12_why_41 : decode cX12_why 41 = .ok (.invokevirtual 246, 3) := by decide +kernel
theorem dX12_why_44 : decode cX12_why 44 = .ok (.istore 4, 2) := by decide +kernel
theorem dX12_why_46 : decode cX12_why 46 = .ok (.aload_n 3, 1) := by decide +kernel
theorem dX12_why_47 : decode cX12_why 47 = .ok (.iload 4, 2) := by decide +kernel
theorem dX12_why_49 : decode cX12_why 49 = .ok (.invokevirtual 250, 3) := by decide +kernel
theorem dX12_why_52 : decode cX12_why 52 = .ok (.ifCond .ne 5, 3) := by decide +kernel
theorem dX12_why_55 : decode cX12_why 55 = .ok (.iconst 1, 1) := by decide +kernel
theorem dX12_why_56 : decode cX12_why 56 = .ok (.ireturn, 1) := by decide +kernel
theorem dX12_why_57 : decode cX12_why 57 = .ok (.aload_n 3, 1) := by decide +kernel
theorem dX12_why_58 : decode cX12_why 58 = .ok (.iload 4, 2) := by decide +kernel
theorem dX12_why_60 : decode cX12_why 60 = .ok (.invokevirtual 268, 3) := by decide +kernel
theorem dX12_why_63 : decode cX12_why 63 = .ok (.ifCond .ne 26, 3) := by decide +kernel
theorem dX12_why_66 : decode cX12_why 66 = .ok (.aload_n 3, 1) := by decide +kernel
theorem dX12_why_67 : decode cX12_why 67 = .ok (.iload 4, 2) := by decide +kernel
theorem dX12_why_69 : decode cX12_why 69 = .ok (.invokevirtual 250, 3) := by decide +kernel
theorem dX12_why_72 : decode cX12_why 72 = .ok (.aload_n 0, 1) := by decide +kernel
theorem dX12_why_73 : decode cX12_why 73 = .ok (.getfield 12, 3) := by decide +kernel
theorem dX12_why_76 : decode cX12_why 76 = .ok (.iconst 4, 1) := by decide +kernel
theorem dX12_why_77 : decode cX12_why 77 = .ok (.invokevirtual 151, 3) := by decide +kernel
theorem dX12_why_80 : decode cX12_why 80 = .ok (.if_icmp .ge 7, 3) := by decide +kernel
theorem dX12_why_83 : decode cX12_why 83 = .ok (.iconst 2, 1) := by decide +kernel
theorem dX12_why_84 : decode cX12_why 84 = .ok (.goto 4, 3) := by decide +kernel
theorem dX12_why_87 : decode cX12_why 87 = .ok (.iconst 3, 1) := by decide +kernel
theorem dX12_why_88 : decode cX12_why 88 = .ok (.ireturn, 1) := by decide +kernel
theorem dX12_why_89 : decode cX12_why 89 = .ok (.aload_n 3, 1) := by decide +kernel
theorem dX12_why_90 : decode cX12_why 90 = .ok (.invokevirtual 253, 3) := by decide +kernel
theorem dX12_why_93 : decode cX12_why 93 = .ok (.istore 5, 2) := by decide +kernel
theorem dX12_why_95 : decode cX12_why 95 = .ok (.aload_n 3, 1) := by decide +kernel
theorem dX12_why_96 : decode cX12_why 96 = .ok (.iload 5, 2) := by decide +kernel
theorem dX12_why_98 : decode cX12_why 98 = .ok (.invokevirtual 250, 3) := by decide +kernel
theorem dX12_why_101 : decode cX12_why 101 = .ok (.aload_n 3, 1) := by decide +kernel
theorem dX12_why_102 : decode cX12_why 102 = .ok (.iload 4, 2) := by decide +kernel
theorem dX12_why_104 : decode cX12_why 104 = .ok (.invokevirtual 250, 3) := by decide +kernel
theorem dX12_why_107 : decode cX12_why 107 = .ok (.if_icmp .le 5, 3) := by decide +kernel
theorem dX12_why_110 : decode cX12_why 110 = .ok (.iconst 4, 1) := by decide +kernel
theorem dX12_why_111 : decode cX12_why 111 = .ok (.ireturn, 1) := by decide +kernel
theorem dX12_why_112 : decode cX12_why 112 = .ok (.iload 5, 2) := by decide +kernel
theorem dX12_why_114 : decode cX12_why 114 = .ok (.iload 4, 2) := by decide +kernel
theorem dX12_why_116 : decode cX12_why 116 = .ok (.if_icmp .ne 7, 3) := by decide +kernel
theorem dX12_why_119 : decode cX12_why 119 = .ok (.iconst 0, 1) := by decide +kernel
theorem dX12_why_120 : decode cX12_why 120 = .ok (.goto 4, 3) := by decide +kernel
theorem dX12_why_123 : decode cX12_why 123 = .ok (.iconst 5, 1) := by decide +kernel
theorem dX12_why_124 : decode cX12_why 124 = .ok (.ireturn, 1) := by decide +kernel
theorem dX12_gain_0 : decode cX12_gain 0 = .ok (.iload_n 1, 1) := by decide +kernel
theorem dX12_gain_1 : decode cX12_gain 1 = .ok (.invokestatic 243, 3) := by decide +kernel
theorem dX12_gain_4 : decode cX12_gain 4 = .ok (.ifCond .eq 10, 3) := by decide +kernel
theorem dX12_gain_7 : decode cX12_gain 7 = .ok (.iload_n 2, 1) := by decide +kernel
theorem dX12_gain_8 : decode cX12_gain 8 = .ok (.invokestatic 243, 3) := by decide +kernel
theorem dX12_gain_11 : decode cX12_gain 11 = .ok (.ifCond .ne 11, 3) := by decide +kernel
theorem dX12_gain_14 : decode cX12_gain 14 = .ok (.new 182, 3) := by decide +kernel
theorem dX12_gain_17 : decode cX12_gain 17 = .ok (.dup, 1) := by decide +kernel
theorem dX12_gain_18 : decode cX12_gain 18 = .ok (.invokespecial 184, 3) := by decide +kernel
theorem dX12_gain_21 : decode cX12_gain 21 = .ok (.athrow, 1) := by decide +kernel
theorem dX12_gain_22 : decode cX12_gain 22 = .ok (.aload_n 0, 1) := by decide +kernel
theorem dX12_gain_23 : decode cX12_gain 23 = .ok (.getfield 22, 3) := by decide +kernel
theorem dX12_gain_26 : decode cX12_gain 26 = .ok (.invokevirtual 167, 3) := by decide +kernel
theorem dX12_gain_29 : decode cX12_gain 29 = .ok (.astore_n 3, 1) := by decide +kernel
theorem dX12_gain_30 : decode cX12_gain 30 = .ok (.aload_n 3, 1) := by decide +kernel
theorem dX12_gain_31 : decode cX12_gain 31 = .ok (.aload_n 0, 1) := by decide +kernel
theorem dX12_gain_32 : decode cX12_gain 32 = .ok (.getfield 12, 3) := by decide +kernel
theorem dX12_gain_35 : decode cX12_gain 35 = .ok (.invokevirtual 171, 3) := by decide +kernel
theorem dX12_gain_38 : decode cX12_gain 38 = .ok (.aload_n 3, 1) := by decide +kernel
theorem dX12_gain_39 : decode cX12_gain 39 = .ok (.iload_n 1, 1) := by decide +kernel
theorem dX12_gain_40 : decode cX12_gain 40 = .ok (.iload_n 2, 1) := by decide +kernel
theorem dX12_gain_41 : decode cX12_gain 41 = .ok (.invokevirtual 246, 3) := by decide +kernel
theorem dX12_gain_44 : decode cX12_gain 44 = .ok (.istore 4, 2) := by decide +kernel
theorem dX12_gain_46 : decode cX12_gain 46 = .ok (.aload_n 3, 1) := by decide +kernel
theorem dX12_gain_47 : decode cX12_gain 47 = .ok (.iload 4, 2) := by decide +kernel
theorem dX12_gain_49 : decode cX12_gain 49 = .ok (.invokevirtual 250, 3) := by decide +kernel
theorem dX12_gain_52 : decode cX12_gain 52 = .ok (.istore 5, 2) := by decide +kernel
theorem dX12_gain_54 : decode cX12_gain 54 = .ok (.iload 5, 2) := by decide +kernel
theorem dX12_gain_56 : decode cX12_gain 56 = .ok (.ifCond .eq 13, 3) := by decide +kernel
theorem dX12_gain_59 : decode cX12_gain 59 = .ok (.aload_n 3, 1) := by decide +kernel
theorem dX12_gain_60 : decode cX12_gain 60 = .ok (.iload 4, 2) := by decide +kernel
theorem dX12_gain_62 : decode cX12_gain 62 = .ok (.invokevirtual 262, 3) := by decide +kernel
theorem dX12_gain_65 : decode cX12_gain 65 = .ok (.iconst (-1), 1) := by decide +kernel
theorem dX12_gain_66 : decode cX12_gain 66 = .ok (.if_icmp .eq 8, 3) := by decide +kernel
theorem dX12_gain_69 : decode cX12_gain 69 = .ok (.iload 5, 2) := by decide +kernel
theorem dX12_gain_71 : decode cX12_gain 71 = .ok (.goto 7, 3) := by decide +kernel
theorem dX12_gain_74 : decode cX12_gain 74 = .ok (.iload 5, 2) := by decide +kernel
theorem dX12_gain_76 : decode cX12_gain 76 = .ok (.iconst 2, 1) := by decide +kernel
theorem dX12_gain_77 : decode cX12_gain 77 = .ok (.isub, 1) := by decide +kernel
theorem dX12_gain_78 : decode cX12_gain 78 = .ok (.ireturn, 1) := by decide +kernel
theorem dX12_stepsLeft_0 : decode cX12_stepsLeft 0 = .ok (.aload_n 0, 1) := by decide +kernel
theorem dX12_stepsLeft_1 : decode cX12_stepsLeft 1 = .ok (.getfield 16, 3) := by decide +kernel
theorem dX12_stepsLeft_4 : decode cX12_stepsLeft 4 = .ok (.aload_n 0, 1) := by decide +kernel
theorem dX12_stepsLeft_5 : decode cX12_stepsLeft 5 = .ok (.getfield 12, 3) := by decide +kernel
theorem dX12_stepsLeft_8 : decode cX12_stepsLeft 8 = .ok (.invokevirtual 113, 3) := by decide +kernel
theorem dX12_stepsLeft_11 : decode cX12_stepsLeft 11 = .ok (.aload_n 0, 1) := by decide +kernel
theorem dX12_stepsLeft_12 : decode cX12_stepsLeft 12 = .ok (.getfield 22, 3) := by decide +kernel
theorem dX12_stepsLeft_15 : decode cX12_stepsLeft 15 = .ok (.aload_n 0, 1) := by decide +kernel
theorem dX12_stepsLeft_16 : decode cX12_stepsLeft 16 = .ok (.getfield 16, 3) := by decide +kernel
theorem dX12_stepsLeft_19 : decode cX12_stepsLeft 19 = .ok (.ldc_w 271, 3) := by decide +kernel
theorem dX12_stepsLeft_22 : decode cX12_stepsLeft 22 = .ok (.invokevirtual 272, 3) := by decide +kernel
theorem dX12_stepsLeft_25 : decode cX12_stepsLeft 25 = .ok (.ireturn, 1) := by decide +kernel
theorem dX12_sizeIn_0 : decode cX12_sizeIn 0 = .ok (.iload_n 1, 1) := by decide +kernel
theorem dX12_sizeIn_1 : decode cX12_sizeIn 1 = .ok (.ifCond .lt 9, 3) := by decide +kernel
theorem dX12_sizeIn_4 : decode cX12_sizeIn 4 = .ok (.iload_n 1, 1) := by decide +kernel
theorem dX12_sizeIn_5 : decode cX12_sizeIn 5 = .ok (.bipush 100, 2) := by decide +kernel
theorem dX12_sizeIn_7 : decode cX12_sizeIn 7 = .ok (.if_icmp .le 11, 3) := by decide +kernel
theorem dX12_sizeIn_10 : decode cX12_sizeIn 10 = .ok (.new 182, 3) := by decide +kernel
theorem dX12_sizeIn_13 : decode cX12_sizeIn 13 = .ok (.dup, 1) := by decide +kernel
theorem dX12_sizeIn_14 : decode cX12_sizeIn 14 = .ok (.invokespecial 184, 3) := by decide +kernel
theorem dX12_sizeIn_17 : decode cX12_sizeIn 17 = .ok (.athrow, 1) := by decide +kernel
theorem dX12_sizeIn_18 : decode cX12_sizeIn 18 = .ok (.aload_n 0, 1) := by decide +kernel
theorem dX12_sizeIn_19 : decode cX12_sizeIn 19 = .ok (.getfield 16, 3) := by decide +kernel
theorem dX12_sizeIn_22 : decode cX12_sizeIn 22 = .ok (.aload_n 0, 1) := by decide +kernel
theorem dX12_sizeIn_23 : decode cX12_sizeIn 23 = .ok (.getfield 12, 3) := by decide +kernel
theorem dX12_sizeIn_26 : decode cX12_sizeIn 26 = .ok (.invokevirtual 113, 3) := by decide +kernel
theorem dX12_sizeIn_29 : decode cX12_sizeIn 29 = .ok (.aload_n 0, 1) := by decide +kernel
theorem dX12_sizeIn_30 : decode cX12_sizeIn 30 = .ok (.getfield 22, 3) := by decide +kernel
theorem dX12_sizeIn_33 : decode cX12_sizeIn 33 = .ok (.aload_n 0, 1) := by decide +kernel
theorem dX12_sizeIn_34 : decode cX12_sizeIn 34 = .ok (.getfield 16, 3) := by decide +kernel
theorem dX12_sizeIn_37 : decode cX12_sizeIn 37 = .ok (.iload_n 1, 1) := by decide +kernel
theorem dX12_sizeIn_38 : decode cX12_sizeIn 38 = .ok (.invokevirtual 272, 3) := by decide +kernel
theorem dX12_sizeIn_41 : decode cX12_sizeIn 41 = .ok (.pop, 1) := by decide +kernel
theorem dX12_sizeIn_42 : decode cX12_sizeIn 42 = .ok (.aload_n 0, 1) := by decide +kernel
theorem dX12_sizeIn_43 : decode cX12_sizeIn 43 = .ok (.getfield 16, 3) := by decide +kernel
theorem dX12_sizeIn_46 : decode cX12_sizeIn 46 = .ok (.invokevirtual 148, 3) := by decide +kernel
theorem dX12_sizeIn_49 : decode cX12_sizeIn 49 = .ok (.ireturn, 1) := by decide +kernel
theorem dX12_bestTie_0 : decode cX12_bestTie 0 = .ok (.aload_n 0, 1) := by decide +kernel
theorem dX12_bestTie_1 : decode cX12_bestTie 1 = .ok (.iconst 5, 1) := by decide +kernel
theorem dX12_bestTie_2 : decode cX12_bestTie 2 = .ok (.invokevirtual 276, 3) := by decide +kernel
theorem dX12_bestTie_5 : decode cX12_bestTie 5 = .ok (.ireturn, 1) := by decide +kernel
theorem dX12_bestLeast_0 : decode cX12_bestLeast 0 = .ok (.aload_n 0, 1) := by decide +kernel
theorem dX12_bestLeast_1 : decode cX12_bestLeast 1 = .ok (.iconst 4, 1) := by decide +kernel
theorem dX12_bestLeast_2 : decode cX12_bestLeast 2 = .ok (.invokevirtual 276, 3) := by decide +kernel
theorem dX12_bestLeast_5 : decode cX12_bestLeast 5 = .ok (.ireturn, 1) := by decide +kernel
theorem dX12_inlinable_0 : decode cX12_inlinable 0 = .ok (.aload_n 0, 1) := by decide +kernel
theorem dX12_inlinable_1 : decode cX12_inlinable 1 = .ok (.getfield 16, 3) := by decide +kernel
theorem dX12_inlinable_4 : decode cX12_inlinable 4 = .ok (.aload_n 0, 1) := by decide +kernel
theorem dX12_inlinable_5 : decode cX12_inlinable 5 = .ok (.getfield 12, 3) := by decide +kernel
theorem dX12_inlinable_8 : decode cX12_inlinable 8 = .ok (.invokevirtual 113, 3) := by decide +kernel
theorem dX12_inlinable_11 : decode cX12_inlinable 11 = .ok (.aload_n 0, 1) := by decide +kernel
theorem dX12_inlinable_12 : decode cX12_inlinable 12 = .ok (.getfield 22, 3) := by decide +kernel
theorem dX12_inlinable_15 : decode cX12_inlinable 15 = .ok (.aload_n 0, 1) := by decide +kernel
theorem dX12_inlinable_16 : decode cX12_inlinable 16 = .ok (.getfield 16, 3) := by decide +kernel
theorem dX12_inlinable_19 : decode cX12_inlinable 19 = .ok (.invokevirtual 279, 3) := by decide +kernel
theorem dX12_inlinable_22 : decode cX12_inlinable 22 = .ok (.ireturn, 1) := by decide +kernel
theorem dX12_step_0 : decode cX12_step 0 = .ok (.iload_n 1, 1) := by decide +kernel
theorem dX12_step_1 : decode cX12_step 1 = .ok (.iconst 1, 1) := by decide +kernel
theorem dX12_step_2 : decode cX12_step 2 = .ok (.if_icmp .lt 9, 3) := by decide +kernel
theorem dX12_step_5 : decode cX12_step 5 = .ok (.iload_n 1, 1) := by decide +kernel
theorem dX12_step_6 : decode cX12_step 6 = .ok (.bipush 50, 2) := by decide +kernel
theorem dX12_step_8 : decode cX12_step 8 = .ok (.if_icmp .le 11, 3) := by decide +kernel
theorem dX12_step_11 : decode cX12_step 11 = .ok (.new 182, 3) := by decide +kernel
theorem dX12_step_14 : decode cX12_step 14 = .ok (.dup, 1) := by decide +kernel
theorem dX12_step_15 : decode cX12_step 15 = .ok (.invokespecial 184, 3) := by decide +kernel
theorem dX12_step_18 : decode cX12_step 18 = .ok (.athrow, 1) := by decide +kernel
theorem dX12_step_19 : decode cX12_step 19 = .ok (.aload_n 0, 1) := by decide +kernel
theorem dX12_step_20 : decode cX12_step 20 = .ok (.getfield 61, 3) := by decide +kernel
theorem dX12_step_23 : decode cX12_step 23 = .ok (.aload_n 0, 1) := by decide +kernel
theorem dX12_step_24 : decode cX12_step 24 = .ok (.getfield 12, 3) := by decide +kernel
theorem dX12_step_27 : decode cX12_step 27 = .ok (.invokevirtual 126, 3) := by decide +kernel
theorem dX12_step_30 : decode cX12_step 30 = .ok (.aload_n 0, 1) := by decide +kernel
theorem dX12_step_31 : decode cX12_step 31 = .ok (.getfield 22, 3) := by decide +kernel
theorem dX12_step_34 : decode cX12_step 34 = .ok (.aload_n 0, 1) := by decide +kernel
theorem dX12_step_35 : decode cX12_step 35 = .ok (.getfield 12, 3) := by decide +kernel
theorem dX12_step_38 : decode cX12_step 38 = .ok (.iload_n 1, 1) := by decide +kernel
theorem dX12_step_39 : decode cX12_step 39 = .ok (.invokevirtual 272, 3) := by decide +kernel
theorem dX12_step_42 : decode cX12_step 42 = .ok (.ireturn, 1) := by decide +kernel
theorem dX12_inline_0 : decode cX12_inline 0 = .ok (.aload_n 0, 1) := by decide +kernel
theorem dX12_inline_1 : decode cX12_inline 1 = .ok (.getfield 61, 3) := by decide +kernel
theorem dX12_inline_4 : decode cX12_inline 4 = .ok (.aload_n 0, 1) := by decide +kernel
theorem dX12_inline_5 : decode cX12_inline 5 = .ok (.getfield 12, 3) := by decide +kernel
theorem dX12_inline_8 : decode cX12_inline 8 = .ok (.invokevirtual 126, 3) := by decide +kernel
theorem dX12_inline_11 : decode cX12_inline 11 = .ok (.aload_n 0, 1) := by decide +kernel
theorem dX12_inline_12 : decode cX12_inline 12 = .ok (.getfield 22, 3) := by decide +kernel
theorem dX12_inline_15 : decode cX12_inline 15 = .ok (.aload_n 0, 1) := by decide +kernel
theorem dX12_inline_16 : decode cX12_inline 16 = .ok (.getfield 12, 3) := by decide +kernel
theorem dX12_inline_19 : decode cX12_inline 19 = .ok (.invokevirtual 279, 3) := by decide +kernel
theorem dX12_inline_22 : decode cX12_inline 22 = .ok (.ireturn, 1) := by decide +kernel
theorem dX12_make_0 : decode cX12_make 0 = .ok (.iload_n 1, 1) := by decide +kernel
theorem dX12_make_1 : decode cX12_make 1 = .ok (.invokestatic 243, 3) := by decide +kernel
theorem dX12_make_4 : decode cX12_make 4 = .ok (.ifCond .eq 10, 3) := by decide +kernel
theorem dX12_make_7 : decode cX12_make 7 = .ok (.iload_n 2, 1) := by decide +kernel
theorem dX12_make_8 : decode cX12_make 8 = .ok (.invokestatic 243, 3) := by decide +kernel
theorem dX12_make_11 : decode cX12_make 11 = .ok (.ifCond .ne 11, 3) := by decide +kernel
theorem dX12_make_14 : decode cX12_make 14 = .ok (.new 182, 3) := by decide +kernel
theorem dX12_make_17 : decode cX12_make 17 = .ok (.dup, 1) := by decide +kernel
theorem dX12_make_18 : decode cX12_make 18 = .ok (.invokespecial 184, 3) := by decide +kernel
theorem dX12_make_21 : decode cX12_make 21 = .ok (.athrow, 1) := by decide +kernel
theorem dX12_make_22 : decode cX12_make 22 = .ok (.aload_n 0, 1) := by decide +kernel
theorem dX12_make_23 : decode cX12_make 23 = .ok (.iload_n 1, 1) := by decide +kernel
theorem dX12_make_24 : decode cX12_make 24 = .ok (.iload_n 2, 1) := by decide +kernel
theorem dX12_make_25 : decode cX12_make 25 = .ok (.invokevirtual 283, 3) := by decide +kernel
theorem dX12_make_28 : decode cX12_make 28 = .ok (.istore_n 3, 1) := by decide +kernel
theorem dX12_make_29 : decode cX12_make 29 = .ok (.iload_n 3, 1) := by decide +kernel
theorem dX12_make_30 : decode cX12_make 30 = .ok (.ifCond .ge 5, 3) := by decide +kernel
theorem dX12_make_33 : decode cX12_make 33 = .ok (.iload_n 3, 1) := by decide +kernel
theorem dX12_make_34 : decode cX12_make 34 = .ok (.ireturn, 1) := by decide +kernel
theorem dX12_make_35 : decode cX12_make 35 = .ok (.aload_n 0, 1) := by decide +kernel
theorem dX12_make_36 : decode cX12_make 36 = .ok (.getfield 61, 3) := by decide +kernel
theorem dX12_make_39 : decode cX12_make 39 = .ok (.aload_n 0, 1) := by decide +kernel
theorem dX12_make_40 : decode cX12_make 40 = .ok (.getfield 12, 3) := by decide +kernel
theorem dX12_make_43 : decode cX12_make 43 = .ok (.invokevirtual 126, 3) := by decide +kernel
theorem dX12_make_46 : decode cX12_make 46 = .ok (.aload_n 0, 1) := by decide +kernel
theorem dX12_make_47 : decode cX12_make 47 = .ok (.getfield 12, 3) := by decide +kernel
theorem dX12_make_50 : decode cX12_make 50 = .ok (.iload_n 1, 1) := by decide +kernel
theorem dX12_make_51 : decode cX12_make 51 = .ok (.iload_n 2, 1) := by decide +kernel
theorem dX12_make_52 : decode cX12_make 52 = .ok (.invokevirtual 286, 3) := by decide +kernel
theorem dX12_make_55 : decode cX12_make 55 = .ok (.ireturn, 1) := by decide +kernel
theorem dX12_expand_0 : decode cX12_expand 0 = .ok (.iload_n 1, 1) := by decide +kernel
theorem dX12_expand_1 : decode cX12_expand 1 = .ok (.ifCond .lt 9, 3) := by decide +kernel
theorem dX12_expand_4 : decode cX12_expand 4 = .ok (.iload_n 1, 1) := by decide +kernel
theorem dX12_expand_5 : decode cX12_expand 5 = .ok (.bipush 40, 2) := by decide +kernel
theorem dX12_expand_7 : decode cX12_expand 7 = .ok (.if_icmp .lt 11, 3) := by decide +kernel
theorem dX12_expand_10 : decode cX12_expand 10 = .ok (.new 185, 3) := by decide +kernel
theorem dX12_expand_13 : decode cX12_expand 13 = .ok (.dup, 1) := by decide +kernel
theorem dX12_expand_14 : decode cX12_expand 14 = .ok (.invokespecial 187, 3) := by decide +kernel
theorem dX12_expand_17 : decode cX12_expand 17 = .ok (.athrow, 1) := by decide +kernel
theorem dX12_expand_18 : decode cX12_expand 18 = .ok (.aload_n 0, 1) := by decide +kernel
theorem dX12_expand_19 : decode cX12_expand 19 = .ok (.getfield 12, 3) := by decide +kernel
theorem dX12_expand_22 : decode cX12_expand 22 = .ok (.iload_n 1, 1) := by decide +kernel
theorem dX12_expand_23 : decode cX12_expand 23 = .ok (.invokevirtual 188, 3) := by decide +kernel
theorem dX12_expand_26 : decode cX12_expand 26 = .ok (.ifCond .ne 6, 3) := by decide +kernel
theorem dX12_expand_29 : decode cX12_expand 29 = .ok (.bipush (-4), 2) := by decide +kernel
theorem dX12_expand_31 : decode cX12_expand 31 = .ok (.ireturn, 1) := by decide +kernel
theorem dX12_expand_32 : decode cX12_expand 32 = .ok (.aload_n 0, 1) := by decide +kernel
theorem dX12_expand_33 : decode cX12_expand 33 = .ok (.getfield 61, 3) := by decide +kernel
theorem dX12_expand_36 : decode cX12_expand 36 = .ok (.aload_n 0, 1) := by decide +kernel
theorem dX12_expand_37 : decode cX12_expand 37 = .ok (.getfield 12, 3) := by decide +kernel
theorem dX12_expand_40 : decode cX12_expand 40 = .ok (.invokevirtual 126, 3) := by decide +kernel
theorem dX12_expand_43 : decode cX12_expand 43 = .ok (.aload_n 0, 1) := by decide +kernel
theorem dX12_expand_44 : decode cX12_expand 44 = .ok (.getfield 12, 3) := by decide +kernel
theorem dX12_expand_47 : decode cX12_expand 47 = .ok (.iload_n 1, 1) := by decide +kernel
theorem dX12_expand_48 : decode cX12_expand 48 = .ok (.iconst 4, 1) := by decide +kernel
theorem dX12_expand_49 : decode cX12_expand 49 = .ok (.invokevirtual 289, 3) := by decide +kernel
theorem dX12_expand_52 : decode cX12_expand 52 = .ok (.ireturn, 1) := by decide +kernel
theorem dX12_append_0 : decode cX12_append 0 = .ok (.iload_n 1, 1) := by decide +kernel
theorem dX12_append_1 : decode cX12_append 1 = .ok (.invokestatic 217, 3) := by decide +kernel
theorem dX12_append_4 : decode cX12_append 4 = .ok (.ifCond .ne 11, 3) := by decide +kernel
theorem dX12_append_7 : decode cX12_append 7 = .ok (.new 182, 3) := by decide +kernel
theorem dX12_append_10 : decode cX12_append 10 = .ok (.dup, 1) := by decide +kernel
theorem dX12_append_11 : decode cX12_append 11 = .ok (.invokespecial 184, 3) := by decide +kernel
theorem dX12_append_14 : decode cX12_append 14 = .ok (.athrow, 1) := by decide +kernel
theorem dX12_append_15 : decode cX12_append 15 = .ok (.aload_n 0, 1) := by decide +kernel
theorem dX12_append_16 : decode cX12_append 16 = .ok (.getfield 12, 3) := by decide +kernel
theorem dX12_append_19 : decode cX12_append 19 = .ok (.invokevirtual 122, 3) := by decide +kernel
theorem dX12_append_22 : decode cX12_append 22 = .ok (.sipush 400, 3) := by decide +kernel
theorem dX12_append_25 : decode cX12_append 25 = .ok (.if_icmp .lt 6, 3) := by decide +kernel
theorem dX12_append_28 : decode cX12_append 28 = .ok (.bipush (-5), 2) := by decide +kernel
theorem dX12_append_30 : decode cX12_append 30 = .ok (.ireturn, 1) := by decide +kernel
theorem dX12_append_31 : decode cX12_append 31 = .ok (.aload_n 0, 1) := by decide +kernel
theorem dX12_append_32 : decode cX12_append 32 = .ok (.getfield 61, 3) := by decide +kernel
theorem dX12_append_35 : decode cX12_append 35 = .ok (.aload_n 0, 1) := by decide +kernel
theorem dX12_append_36 : decode cX12_append 36 = .ok (.getfield 12, 3) := by decide +kernel
theorem dX12_append_39 : decode cX12_append 39 = .ok (.invokevirtual 126, 3) := by decide +kernel
theorem dX12_append_42 : decode cX12_append 42 = .ok (.aload_n 0, 1) := by decide +kernel
theorem dX12_append_43 : decode cX12_append 43 = .ok (.getfield 12, 3) := by decide +kernel
theorem dX12_append_46 : decode cX12_append 46 = .ok (.iload_n 1, 1) := by decide +kernel
theorem dX12_append_47 : decode cX12_append 47 = .ok (.invokevirtual 292, 3) := by decide +kernel
theorem dX12_append_50 : decode cX12_append 50 = .ok (.aload_n 0, 1) := by decide +kernel
theorem dX12_append_51 : decode cX12_append 51 = .ok (.getfield 12, 3) := by decide +kernel
theorem dX12_append_54 : decode cX12_append 54 = .ok (.invokevirtual 122, 3) := by decide +kernel
theorem dX12_append_57 : decode cX12_append 57 = .ok (.ireturn, 1) := by decide +kernel
theorem dX12_cut_0 : decode cX12_cut 0 = .ok (.iload_n 1, 1) := by decide +kernel
theorem dX12_cut_1 : decode cX12_cut 1 = .ok (.iconst 1, 1) := by decide +kernel
theorem dX12_cut_2 : decode cX12_cut 2 = .ok (.if_icmp .lt 10, 3) := by decide +kernel
theorem dX12_cut_5 : decode cX12_cut 5 = .ok (.iload_n 1, 1) := by decide +kernel
theorem dX12_cut_6 : decode cX12_cut 6 = .ok (.sipush 400, 3) := by decide +kernel
theorem dX12_cut_9 : decode cX12_cut 9 = .ok (.if_icmp .le 11, 3) := by decide +kernel
theorem dX12_cut_12 : decode cX12_cut 12 = .ok (.new 182, 3) := by decide +kernel
theorem dX12_cut_15 : decode cX12_cut 15 = .ok (.dup, 1) := by decide +kernel
theorem dX12_cut_16 : decode cX12_cut 16 = .ok (.invokespecial 184, 3) := by decide +kernel
theorem dX12_cut_19 : decode cX12_cut 19 = .ok (.athrow, 1) := by decide +kernel
theorem dX12_cut_20 : decode cX12_cut 20 = .ok (.iload_n 1, 1) := by decide +kernel
theorem dX12_cut_21 : decode cX12_cut 21 = .ok (.aload_n 0, 1) := by decide +kernel
theorem dX12_cut_22 : decode cX12_cut 22 = .ok (.getfield 12, 3) := by decide +kernel
theorem dX12_cut_25 : decode cX12_cut 25 = .ok (.invokevirtual 122, 3) := by decide +kernel
theorem dX12_cut_28 : decode cX12_cut 28 = .ok (.if_icmp .lt 6, 3) := by decide +kernel
theorem dX12_cut_31 : decode cX12_cut 31 = .ok (.bipush (-6), 2) := by decide +kernel
theorem dX12_cut_33 : decode cX12_cut 33 = .ok (.ireturn, 1) := by decide +kernel
theorem dX12_cut_34 : decode cX12_cut 34 = .ok (.aload_n 0, 1) := by decide +kernel
theorem dX12_cut_35 : decode cX12_cut 35 = .ok (.getfield 61, 3) := by decide +kernel
theorem dX12_cut_38 : decode cX12_cut 38 = .ok (.aload_n 0, 1) := by decide +kernel
theorem dX12_cut_39 : decode cX12_cut 39 = .ok (.getfield 12, 3) := by decide +kernel
theorem dX12_cut_42 : decode cX12_cut 42 = .ok (.invokevirtual 126, 3) := by decide +kernel
theorem dX12_cut_45 : decode cX12_cut 45 = .ok (.aload_n 0, 1) := by decide +kernel
theorem dX12_cut_46 : decode cX12_cut 46 = .ok (.getfield 12, 3) := by decide +kernel
theorem dX12_cut_49 : decode cX12_cut 49 = .ok (.iload_n 1, 1) := by decide +kernel
theorem dX12_cut_50 : decode cX12_cut 50 = .ok (.invokevirtual 295, 3) := by decide +kernel
theorem dX12_cut_53 : decode cX12_cut 53 = .ok (.aload_n 0, 1) := by decide +kernel
theorem dX12_cut_54 : decode cX12_cut 54 = .ok (.getfield 12, 3) := by decide +kernel
theorem dX12_cut_57 : decode cX12_cut 57 = .ok (.invokevirtual 138, 3) := by decide +kernel
theorem dX12_cut_60 : decode cX12_cut 60 = .ok (.invokevirtual 142, 3) := by decide +kernel
theorem dX12_cut_63 : decode cX12_cut 63 = .ok (.ireturn, 1) := by decide +kernel
theorem dX12_set_0 : decode cX12_set 0 = .ok (.iload_n 1, 1) := by decide +kernel
theorem dX12_set_1 : decode cX12_set 1 = .ok (.iconst 4, 1) := by decide +kernel
theorem dX12_set_2 : decode cX12_set 2 = .ok (.if_icmp .lt 9, 3) := by decide +kernel
theorem dX12_set_5 : decode cX12_set 5 = .ok (.iload_n 1, 1) := by decide +kernel
theorem dX12_set_6 : decode cX12_set 6 = .ok (.bipush 6, 2) := by decide +kernel
theorem dX12_set_8 : decode cX12_set 8 = .ok (.if_icmp .le 11, 3) := by decide +kernel
theorem dX12_set_11 : decode cX12_set 11 = .ok (.new 182, 3) := by decide +kernel
theorem dX12_set_14 : decode cX12_set 14 = .ok (.dup, 1) := by decide +kernel
theorem dX12_set_15 : decode cX12_set 15 = .ok (.invokespecial 184, 3) := by decide +kernel
theorem dX12_set_18 : decode cX12_set 18 = .ok (.athrow, 1) := by decide +kernel
theorem dX12_set_19 : decode cX12_set 19 = .ok (.iload_n 2, 1) := by decide +kernel
theorem dX12_set_20 : decode cX12_set 20 = .ok (.iload_n 1, 1) := by decide +kernel
theorem dX12_set_21 : decode cX12_set 21 = .ok (.invokestatic 298, 3) := by decide +kernel
theorem dX12_set_24 : decode cX12_set 24 = .ok (.if_icmp .lt 11, 3) := by decide +kernel
theorem dX12_set_27 : decode cX12_set 27 = .ok (.iload_n 2, 1) := by decide +kernel
theorem dX12_set_28 : decode cX12_set 28 = .ok (.iload_n 1, 1) := by decide +kernel
theorem dX12_set_29 : decode cX12_set 29 = .ok (.invokestatic 301, 3) := by decide +kernel
theorem dX12_set_32 : decode cX12_set 32 = .ok (.if_icmp .le 11, 3) := by decide +kernel
theorem dX12_set_35 : decode cX12_set 35 = .ok (.new 182, 3) := by decide +kernel
theorem dX12_set_38 : decode cX12_set 38 = .ok (.dup, 1) := by decide +kernel
theorem dX12_set_39 : decode cX12_set 39 = .ok (.invokespecial 184, 3) := by decide +kernel
theorem dX12_set_42 : decode cX12_set 42 = .ok (.athrow, 1) := by decide +kernel
theorem dX12_set_43 : decode cX12_set 43 = .ok (.aload_n 0, 1) := by decide +kernel
theorem dX12_set_44 : decode cX12_set 44 = .ok (.getfield 61, 3) := by decide +kernel
theorem dX12_set_47 : decode cX12_set 47 = .ok (.aload_n 0, 1) := by decide +kernel
theorem dX12_set_48 : decode cX12_set 48 = .ok (.getfield 12, 3) := by decide +kernel
theorem dX12_set_51 : decode cX12_set 51 = .ok (.invokevirtual 126, 3) := by decide +kernel
theorem dX12_set_54 : decode cX12_set 54 = .ok (.aload_n 0, 1) := by decide +kernel
theorem dX12_set_55 : decode cX12_set 55 = .ok (.getfield 12, 3) := by decide +kernel
theorem dX12_set_58 : decode cX12_set 58 = .ok (.iload_n 1, 1) := by decide +kernel
theorem dX12_set_59 : decode cX12_set 59 = .ok (.invokevirtual 151, 3) := by decide +kernel
theorem dX12_set_62 : decode cX12_set 62 = .ok (.istore_n 3, 1) := by decide +kernel
theorem dX12_set_63 : decode cX12_set 63 = .ok (.aload_n 0, 1) := by decide +kernel
theorem dX12_set_64 : decode cX12_set 64 = .ok (.getfield 12, 3) := by decide +kernel
theorem dX12_set_67 : decode cX12_set 67 = .ok (.iload_n 1, 1) := by decide +kernel
theorem dX12_set_68 : decode cX12_set 68 = .ok (.iload_n 2, 1) := by decide +kernel
theorem dX12_set_69 : decode cX12_set 69 = .ok (.invokevirtual 304, 3) := by decide +kernel
theorem dX12_set_72 : decode cX12_set 72 = .ok (.iload_n 3, 1) := by decide +kernel
theorem dX12_set_73 : decode cX12_set 73 = .ok (.ireturn, 1) := by decide +kernel
theorem dX12_report_0 : decode cX12_report 0 = .ok (.aload_n 0, 1) := by decide +kernel
theorem dX12_report_1 : decode cX12_report 1 = .ok (.getfield 68, 3) := by decide +kernel
theorem dX12_report_4 : decode cX12_report 4 = .ok (.aload_n 0, 1) := by decide +kernel
theorem dX12_report_5 : decode cX12_report 5 = .ok (.getfield 12, 3) := by decide +kernel
theorem dX12_report_8 : decode cX12_report 8 = .ok (.invokevirtual 308, 3) := by decide +kernel
theorem dX12_report_11 : decode cX12_report 11 = .ok (.aload_n 0, 1) := by decide +kernel
theorem dX12_report_12 : decode cX12_report 12 = .ok (.getfield 68, 3) := by decide +kernel
theorem dX12_report_15 : decode cX12_report 15 = .ok (.invokevirtual 311, 3) := by decide +kernel
theorem dX12_report_18 : decode cX12_report 18 = .ok (.ireturn, 1) := by decide +kernel
theorem dX12_reportByte_0 : decode cX12_reportByte 0 = .ok (.aload_n 0, 1) := by decide +kernel
theorem dX12_reportByte_1 : decode cX12_reportByte 1 = .ok (.getfield 68, 3) := by decide +kernel
theorem dX12_reportByte_4 : decode cX12_reportByte 4 = .ok (.iload_n 1, 1) := by decide +kernel
theorem dX12_reportByte_5 : decode cX12_reportByte 5 = .ok (.invokevirtual 312, 3) := by decide +kernel
theorem dX12_reportByte_8 : decode cX12_reportByte 8 = .ok (.ireturn, 1) := by decide +kernel
theorem dX12_undo_0 : decode cX12_undo 0 = .ok (.aload_n 0, 1) := by decide +kernel
theorem dX12_undo_1 : decode cX12_undo 1 = .ok (.getfield 61, 3) := by decide +kernel
theorem dX12_undo_4 : decode cX12_undo 4 = .ok (.invokevirtual 179, 3) := by decide +kernel
theorem dX12_undo_7 : decode cX12_undo 7 = .ok (.ifCond .ne 11, 3) := by decide +kernel
theorem dX12_undo_10 : decode cX12_undo 10 = .ok (.new 313, 3) := by decide +kernel
theorem dX12_undo_13 : decode cX12_undo 13 = .ok (.dup, 1) := by decide +kernel
theorem dX12_undo_14 : decode cX12_undo 14 = .ok (.invokespecial 315, 3) := by decide +kernel
theorem dX12_undo_17 : decode cX12_undo 17 = .ok (.athrow, 1) := by decide +kernel
theorem dX12_undo_18 : decode cX12_undo 18 = .ok (.aload_n 0, 1) := by decide +kernel
theorem dX12_undo_19 : decode cX12_undo 19 = .ok (.getfield 61, 3) := by decide +kernel
theorem dX12_undo_22 : decode cX12_undo 22 = .ok (.aload_n 0, 1) := by decide +kernel
theorem dX12_undo_23 : decode cX12_undo 23 = .ok (.getfield 12, 3) := by decide +kernel
theorem dX12_undo_26 : decode cX12_undo 26 = .ok (.invokevirtual 316, 3) := by decide +kernel
theorem dX12_undo_29 : decode cX12_undo 29 = .ok (.aload_n 0, 1) := by decide +kernel
theorem dX12_undo_30 : decode cX12_undo 30 = .ok (.getfield 61, 3) := by decide +kernel
theorem dX12_undo_33 : decode cX12_undo 33 = .ok (.invokevirtual 179, 3) := by decide +kernel
theorem dX12_undo_36 : decode cX12_undo 36 = .ok (.ireturn, 1) := by decide +kernel
theorem dX12_save_0 : decode cX12_save 0 = .ok (.iload_n 1, 1) := by decide +kernel
theorem dX12_save_1 : decode cX12_save 1 = .ok (.ifCond .lt 8, 3) := by decide +kernel
theorem dX12_save_4 : decode cX12_save 4 = .ok (.iload_n 1, 1) := by decide +kernel
theorem dX12_save_5 : decode cX12_save 5 = .ok (.iconst 2, 1) := by decide +kernel
theorem dX12_save_6 : decode cX12_save 6 = .ok (.if_icmp .lt 11, 3) := by decide +kernel
theorem dX12_save_9 : decode cX12_save 9 = .ok (.new 182, 3) := by decide +kernel
theorem dX12_save_12 : decode cX12_save 12 = .ok (.dup, 1) := by decide +kernel
theorem dX12_save_13 : decode cX12_save 13 = .ok (.invokespecial 184, 3) := by decide +kernel
theorem dX12_save_16 : decode cX12_save 16 = .ok (.athrow, 1) := by decide +kernel
theorem dX12_save_17 : decode cX12_save 17 = .ok (.aload_n 0, 1) := by decide +kernel
theorem dX12_save_18 : decode cX12_save 18 = .ok (.getfield 61, 3) := by decide +kernel
theorem dX12_save_21 : decode cX12_save 21 = .ok (.iload_n 1, 1) := by decide +kernel
theorem dX12_save_22 : decode cX12_save 22 = .ok (.aload_n 0, 1) := by decide +kernel
theorem dX12_save_23 : decode cX12_save 23 = .ok (.getfield 12, 3) := by decide +kernel
theorem dX12_save_26 : decode cX12_save 26 = .ok (.invokevirtual 319, 3) := by decide +kernel
theorem dX12_save_29 : decode cX12_save 29 = .ok (.aload_n 0, 1) := by decide +kernel
theorem dX12_save_30 : decode cX12_save 30 = .ok (.getfield 12, 3) := by decide +kernel
theorem dX12_save_33 : decode cX12_save 33 = .ok (.invokevirtual 148, 3) := by decide +kernel
theorem dX12_save_36 : decode cX12_save 36 = .ok (.ireturn, 1) := by decide +kernel
theorem dX12_restore_0 : decode cX12_restore 0 = .ok (.iload_n 1, 1) := by decide +kernel
theorem dX12_restore_1 : decode cX12_restore 1 = .ok (.ifCond .lt 8, 3) := by decide +kernel
theorem dX12_restore_4 : decode cX12_restore 4 = .ok (.iload_n 1, 1) := by decide +kernel
theorem dX12_restore_5 : decode cX12_restore 5 = .ok (.iconst 2, 1) := by decide +kernel
theorem dX12_restore_6 : decode cX12_restore 6 = .ok (.if_icmp .lt 11, 3) := by decide +kernel
theorem dX12_restore_9 : decode cX12_restore 9 = .ok (.new 182, 3) := by decide +kernel
theorem dX12_restore_12 : decode cX12_restore 12 = .ok (.dup, 1) := by decide +kernel
theorem dX12_restore_13 : decode cX12_restore 13 = .ok (.invokespecial 184, 3) := by decide +kernel
theorem dX12_restore_16 : decode cX12_restore 16 = .ok (.athrow, 1) := by decide +kernel
theorem dX12_restore_17 : decode cX12_restore 17 = .ok (.aload_n 0, 1) := by decide +kernel
theorem dX12_restore_18 : decode cX12_restore 18 = .ok (.getfield 61, 3) := by decide +kernel
theorem dX12_restore_21 : decode cX12_restore 21 = .ok (.iload_n 1, 1) := by decide +kernel
theorem dX12_restore_22 : decode cX12_restore 22 = .ok (.invokevirtual 323, 3) := by decide +kernel
theorem dX12_restore_25 : decode cX12_restore 25 = .ok (.ifCond .ne 11, 3) := by decide +kernel
theorem dX12_restore_28 : decode cX12_restore 28 = .ok (.new 313, 3) := by decide +kernel
theorem dX12_restore_31 : decode cX12_restore 31 = .ok (.dup, 1) := by decide +kernel
theorem dX12_restore_32 : decode cX12_restore 32 = .ok (.invokespecial 315, 3) := by decide +kernel
theorem dX12_restore_35 : decode cX12_restore 35 = .ok (.athrow, 1) := by decide +kernel
theorem dX12_restore_36 : decode cX12_restore 36 = .ok (.aload_n 0, 1) := by decide +kernel
theorem dX12_restore_37 : decode cX12_restore 37 = .ok (.getfield 61, 3) := by decide +kernel
theorem dX12_restore_40 : decode cX12_restore 40 = .ok (.iload_n 1, 1) := by decide +kernel
theorem dX12_restore_41 : decode cX12_restore 41 = .ok (.aload_n 0, 1) := by decide +kernel
theorem dX12_restore_42 : decode cX12_restore 42 = .ok (.getfield 12, 3) := by decide +kernel
theorem dX12_restore_45 : decode cX12_restore 45 = .ok (.invokevirtual 326, 3) := by decide +kernel
theorem dX12_restore_48 : decode cX12_restore 48 = .ok (.aload_n 0, 1) := by decide +kernel
theorem dX12_restore_49 : decode cX12_restore 49 = .ok (.getfield 61, 3) := by decide +kernel
theorem dX12_restore_52 : decode cX12_restore 52 = .ok (.invokevirtual 116, 3) := by decide +kernel
theorem dX12_restore_55 : decode cX12_restore 55 = .ok (.aload_n 0, 1) := by decide +kernel
theorem dX12_restore_56 : decode cX12_restore 56 = .ok (.getfield 12, 3) := by decide +kernel
theorem dX12_restore_59 : decode cX12_restore 59 = .ok (.invokevirtual 148, 3) := by decide +kernel
theorem dX12_restore_62 : decode cX12_restore 62 = .ok (.ireturn, 1) := by decide +kernel
theorem dX12_isLetter_0 : decode cX12_isLetter 0 = .ok (.iload_n 0, 1) := by decide +kernel
theorem dX12_isLetter_1 : decode cX12_isLetter 1 = .ok (.ifCond .lt 13, 3) := by decide +kernel
theorem dX12_isLetter_4 : decode cX12_isLetter 4 = .ok (.iload_n 0, 1) := by decide +kernel
theorem dX12_isLetter_5 : decode cX12_isLetter 5 = .ok (.bipush 26, 2) := by decide +kernel
theorem dX12_isLetter_7 : decode cX12_isLetter 7 = .ok (.if_icmp .ge 7, 3) := by decide +kernel
theorem dX12_isLetter_10 : decode cX12_isLetter 10 = .ok (.iconst 1, 1) := by decide +kernel
theorem dX12_isLetter_11 : decode cX12_isLetter 11 = .ok (.goto 4, 3) := by decide +kernel
theorem dX12_isLetter_14 : decode cX12_isLetter 14 = .ok (.iconst 0, 1) := by decide +kernel
theorem dX12_isLetter_15 : decode cX12_isLetter 15 = .ok (.ireturn, 1) := by decide +kernel
theorem dX12_isSymbol_0 : decode cX12_isSymbol 0 = .ok (.iload_n 0, 1) := by decide +kernel
theorem dX12_isSymbol_1 : decode cX12_isSymbol 1 = .ok (.ifCond .lt 13, 3) := by decide +kernel
theorem dX12_isSymbol_4 : decode cX12_isSymbol 4 = .ok (.iload_n 0, 1) := by decide +kernel
theorem dX12_isSymbol_5 : decode cX12_isSymbol 5 = .ok (.bipush 66, 2) := by decide +kernel
theorem dX12_isSymbol_7 : decode cX12_isSymbol 7 = .ok (.if_icmp .ge 7, 3) := by decide +kernel
theorem dX12_isSymbol_10 : decode cX12_isSymbol 10 = .ok (.iconst 1, 1) := by decide +kernel
theorem dX12_isSymbol_11 : decode cX12_isSymbol 11 = .ok (.goto 4, 3) := by decide +kernel
theorem dX12_isSymbol_14 : decode cX12_isSymbol 14 = .ok (.iconst 0, 1) := by decide +kernel
theorem dX12_isSymbol_15 : decode cX12_isSymbol 15 = .ok (.ireturn, 1) := by decide +kernel
theorem dX12_lowest_0 : decode cX12_lowest 0 = .ok (.iload_n 0, 1) := by decide +kernel
theorem dX12_lowest_1 : decode cX12_lowest 1 = .ok (.iconst 4, 1) := by decide +kernel
theorem dX12_lowest_2 : decode cX12_lowest 2 = .ok (.if_icmp .ne 7, 3) := by decide +kernel
theorem dX12_lowest_5 : decode cX12_lowest 5 = .ok (.iconst 2, 1) := by decide +kernel
theorem dX12_lowest_6 : decode cX12_lowest 6 = .ok (.goto 4, 3) := by decide +kernel
theorem dX12_lowest_9 : decode cX12_lowest 9 = .ok (.iconst 0, 1) := by decide +kernel
theorem dX12_lowest_10 : decode cX12_lowest 10 = .ok (.ireturn, 1) := by decide +kernel
theorem dX12_highest_0 : decode cX12_highest 0 = .ok (.iload_n 0, 1) := by decide +kernel
theorem dX12_highest_1 : decode cX12_highest 1 = .ok (.lookupswitch 32 #[(4, 27), (5, 30)], 27) := by decide +kernel
theorem dX12_highest_28 : decode cX12_highest 28 = .ok (.bipush 9, 2) := by decide +kernel
theorem dX12_highest_30 : decode cX12_highest 30 = .ok (.ireturn, 1) := by decide +kernel
theorem dX12_highest_31 : decode cX12_highest 31 = .ok (.iconst 2, 1) := by decide +kernel
theorem dX12_highest_32 : decode cX12_highest 32 = .ok (.ireturn, 1) := by decide +kernel
theorem dX12_highest_33 : decode cX12_highest 33 = .ok (.iconst 1, 1) := by decide +kernel
theorem dX12_highest_34 : decode cX12_highest 34 = .ok (.ireturn, 1) := by decide +kernel
theorem dX12_bitsOf_0 : decode cX12_bitsOf 0 = .ok (.fload_n 0, 1) := by decide +kernel
theorem dX12_bitsOf_1 : decode cX12_bitsOf 1 = .ok (.fstore_n 1, 1) := by decide +kernel
theorem dX12_bitsOf_2 : decode cX12_bitsOf 2 = .ok (.bipush 127, 2) := by decide +kernel
theorem dX12_bitsOf_4 : decode cX12_bitsOf 4 = .ok (.istore_n 2, 1) := by decide +kernel
theorem dX12_bitsOf_5 : decode cX12_bitsOf 5 = .ok (.iconst 0, 1) := by decide +kernel
theorem dX12_bitsOf_6 : decode cX12_bitsOf 6 = .ok (.istore_n 3, 1) := by decide +kernel
theorem dX12_bitsOf_7 : decode cX12_bitsOf 7 = .ok (.iload_n 3, 1) := by decide +kernel
theorem dX12_bitsOf_8 : decode cX12_bitsOf 8 = .ok (.bipush 127, 2) := by decide +kernel
theorem dX12_bitsOf_10 : decode cX12_bitsOf 10 = .ok (.if_icmp .ge 22, 3) := by decide +kernel
theorem dX12_bitsOf_13 : decode cX12_bitsOf 13 = .ok (.fload_n 1, 1) := by decide +kernel
theorem dX12_bitsOf_14 : decode cX12_bitsOf 14 = .ok (.fconst 2, 1) := by decide +kernel
theorem dX12_bitsOf_15 : decode cX12_bitsOf 15 = .ok (.fcmp .l, 1) := by decide +kernel
theorem dX12_bitsOf_16 : decode cX12_bitsOf 16 = .ok (.ifCond .lt 16, 3) := by decide +kernel
theorem dX12_bitsOf_19 : decode cX12_bitsOf 19 = .ok (.fload_n 1, 1) := by decide +kernel
theorem dX12_bitsOf_20 : decode cX12_bitsOf 20 = .ok (.fconst 2, 1) := by decide +kernel
theorem dX12_bitsOf_21 : decode cX12_bitsOf 21 = .ok (.fdiv, 1) := by decide +kernel
theorem dX12_bitsOf_22 : decode cX12_bitsOf 22 = .ok (.fstore_n 1, 1) := by decide +kernel
theorem dX12_bitsOf_23 : decode cX12_bitsOf 23 = .ok (.iinc 2 1, 3) := by decide +kernel
theorem dX12_bitsOf_26 : decode cX12_bitsOf 26 = .ok (.iinc 3 1, 3) := by decide +kernel
theorem dX12_bitsOf_29 : decode cX12_bitsOf 29 = .ok (.goto (-22), 3) := by decide +kernel
theorem dX12_bitsOf_32 : decode cX12_bitsOf 32 = .ok (.fload_n 1, 1) := by decide +kernel
theorem dX12_bitsOf_33 : decode cX12_bitsOf 33 = .ok (.fconst 1, 1) := by decide +kernel
theorem dX12_bitsOf_34 : decode cX12_bitsOf 34 = .ok (.fsub, 1) := by decide +kernel
theorem dX12_bitsOf_35 : decode cX12_bitsOf 35 = .ok (.ldc_w 329, 3) := by decide +kernel
theorem dX12_bitsOf_38 : decode cX12_bitsOf 38 = .ok (.fmul, 1) := by decide +kernel
theorem dX12_bitsOf_39 : decode cX12_bitsOf 39 = .ok (.f2i, 1) := by decide +kernel
theorem dX12_bitsOf_40 : decode cX12_bitsOf 40 = .ok (.istore_n 3, 1) := by decide +kernel
theorem dX12_bitsOf_41 : decode cX12_bitsOf 41 = .ok (.iload_n 2, 1) := by decide +kernel
theorem dX12_bitsOf_42 : decode cX12_bitsOf 42 = .ok (.bipush 23, 2) := by decide +kernel
theorem dX12_bitsOf_44 : decode cX12_bitsOf 44 = .ok (.ishl, 1) := by decide +kernel
theorem dX12_bitsOf_45 : decode cX12_bitsOf 45 = .ok (.iload_n 3, 1) := by decide +kernel
theorem dX12_bitsOf_46 : decode cX12_bitsOf 46 = .ok (.ldc_w 330, 3) := by decide +kernel
theorem dX12_bitsOf_49 : decode cX12_bitsOf 49 = .ok (.iand, 1) := by decide +kernel
theorem dX12_bitsOf_50 : decode cX12_bitsOf 50 = .ok (.ior, 1) := by decide +kernel
theorem dX12_bitsOf_51 : decode cX12_bitsOf 51 = .ok (.ireturn, 1) := by decide +kernel
theorem dX12_failure_0 : decode cX12_failure 0 = .ok (.aload_n 0, 1) := by decide +kernel
theorem dX12_failure_1 : decode cX12_failure 1 = .ok (.aload_n 0, 1) := by decide +kernel
theorem dX12_failure_2 : decode cX12_failure 2 = .ok (.getfield 36, 3) := by decide +kernel
theorem dX12_failure_5 : decode cX12_failure 5 = .ok (.invokevirtual 331, 3) := by decide +kernel
theorem dX12_failure_8 : decode cX12_failure 8 = .ok (.putfield 72, 3) := by decide +kernel
theorem dX12_failure_11 : decode cX12_failure 11 = .ok (.bipush (-10), 2) := by decide +kernel
theorem dX12_failure_13 : decode cX12_failure 13 = .ok (.aload_n 0, 1) := by decide +kernel
theorem dX12_failure_14 : decode cX12_failure 14 = .ok (.getfield 36, 3) := by decide +kernel
theorem dX12_failure_17 : decode cX12_failure 17 = .ok (.invokevirtual 333, 3) := by decide +kernel
theorem dX12_failure_20 : decode cX12_failure 20 = .ok (.isub, 1) := by decide +kernel
theorem dX12_failure_21 : decode cX12_failure 21 = .ok (.ireturn, 1) := by decide +kernel
theorem dX12_bestNumber_0 : decode cX12_bestNumber 0 = .ok (.iconst (-1), 1) := by decide +kernel
theorem dX12_bestNumber_1 : decode cX12_bestNumber 1 = .ok (.istore_n 2, 1) := by decide +kernel
theorem dX12_bestNumber_2 : decode cX12_bestNumber 2 = .ok (.iconst 0, 1) := by decide +kernel
theorem dX12_bestNumber_3 : decode cX12_bestNumber 3 = .ok (.istore_n 3, 1) := by decide +kernel
theorem dX12_bestNumber_4 : decode cX12_bestNumber 4 = .ok (.iload_n 1, 1) := by decide +kernel
theorem dX12_bestNumber_5 : decode cX12_bestNumber 5 = .ok (.invokestatic 298, 3) := by decide +kernel
theorem dX12_bestNumber_8 : decode cX12_bestNumber 8 = .ok (.istore 4, 2) := by decide +kernel
theorem dX12_bestNumber_10 : decode cX12_bestNumber 10 = .ok (.iload 4, 2) := by decide +kernel
theorem dX12_bestNumber_12 : decode cX12_bestNumber 12 = .ok (.iload_n 1, 1) := by decide +kernel
theorem dX12_bestNumber_13 : decode cX12_bestNumber 13 = .ok (.invokestatic 301, 3) := by decide +kernel
theorem dX12_bestNumber_16 : decode cX12_bestNumber 16 = .ok (.if_icmp .gt 71, 3) := by decide +kernel
theorem dX12_bestNumber_19 : decode cX12_bestNumber 19 = .ok (.aload_n 0, 1) := by decide +kernel
theorem dX12_bestNumber_20 : decode cX12_bestNumber 20 = .ok (.getfield 16, 3) := by decide +kernel
theorem dX12_bestNumber_23 : decode cX12_bestNumber 23 = .ok (.aload_n 0, 1) := by decide +kernel
theorem dX12_bestNumber_24 : decode cX12_bestNumber 24 = .ok (.getfield 12, 3) := by decide +kernel
theorem dX12_bestNumber_27 : decode cX12_bestNumber 27 = .ok (.invokevirtual 113, 3) := by decide +kernel
theorem dX12_bestNumber_30 : decode cX12_bestNumber 30 = .ok (.aload_n 0, 1) := by decide +kernel
theorem dX12_bestNumber_31 : decode cX12_bestNumber 31 = .ok (.getfield 16, 3) := by decide +kernel
theorem dX12_bestNumber_34 : decode cX12_bestNumber 34 = .ok (.iload_n 1, 1) := by decide +kernel
theorem dX12_bestNumber_35 : decode cX12_bestNumber 35 = .ok (.iload 4, 2) := by decide +kernel
theorem dX12_bestNumber_37 : decode cX12_bestNumber 37 = .ok (.invokevirtual 304, 3) := by decide +kernel
theorem dX12_bestNumber_40 : decode cX12_bestNumber 40 = .ok (.aload_n 0, 1) := by decide +kernel
theorem dX12_bestNumber_41 : decode cX12_bestNumber 41 = .ok (.getfield 22, 3) := by decide +kernel
theorem dX12_bestNumber_44 : decode cX12_bestNumber 44 = .ok (.aload_n 0, 1) := by decide +kernel
theorem dX12_bestNumber_45 : decode cX12_bestNumber 45 = .ok (.getfield 16, 3) := by decide +kernel
theorem dX12_bestNumber_48 : decode cX12_bestNumber 48 = .ok (.ldc_w 271, 3) := by decide +kernel
theorem dX12_bestNumber_51 : decode cX12_bestNumber 51 = .ok (.invokevirtual 272, 3) := by decide +kernel
theorem dX12_bestNumber_54 : decode cX12_bestNumber 54 = .ok (.pop, 1) := by decide +kernel
theorem dX12_bestNumber_55 : decode cX12_bestNumber 55 = .ok (.aload_n 0, 1) := by decide +kernel
theorem dX12_bestNumber_56 : decode cX12_bestNumber 56 = .ok (.getfield 16, 3) := by decide +kernel
theorem dX12_bestNumber_59 : decode cX12_bestNumber 59 = .ok (.invokevirtual 148, 3) := by decide +kernel
theorem dX12_bestNumber_62 : decode cX12_bestNumber 62 = .ok (.istore 5, 2) := by decide +kernel
theorem dX12_bestNumber_64 : decode cX12_bestNumber 64 = .ok (.iload_n 2, 1) := by decide +kernel
theorem dX12_bestNumber_65 : decode cX12_bestNumber 65 = .ok (.iconst (-1), 1) := by decide +kernel
theorem dX12_bestNumber_66 : decode cX12_bestNumber 66 = .ok (.if_icmp .eq 9, 3) := by decide +kernel
theorem dX12_bestNumber_69 : decode cX12_bestNumber 69 = .ok (.iload 5, 2) := by decide +kernel
theorem dX12_bestNumber_71 : decode cX12_bestNumber 71 = .ok (.iload_n 3, 1) := by decide +kernel
theorem dX12_bestNumber_72 : decode cX12_bestNumber 72 = .ok (.if_icmp .ge 9, 3) := by decide +kernel
theorem dX12_bestNumber_75 : decode cX12_bestNumber 75 = .ok (.iload 5, 2) := by decide +kernel
theorem dX12_bestNumber_77 : decode cX12_bestNumber 77 = .ok (.istore_n 3, 1) := by decide +kernel
theorem dX12_bestNumber_78 : decode cX12_bestNumber 78 = .ok (.iload 4, 2) := by decide +kernel
theorem dX12_bestNumber_80 : decode cX12_bestNumber 80 = .ok (.istore_n 2, 1) := by decide +kernel
theorem dX12_bestNumber_81 : decode cX12_bestNumber 81 = .ok (.iinc 4 1, 3) := by decide +kernel
theorem dX12_bestNumber_84 : decode cX12_bestNumber 84 = .ok (.goto (-74), 3) := by decide +kernel
theorem dX12_bestNumber_87 : decode cX12_bestNumber 87 = .ok (.iload_n 2, 1) := by decide +kernel
theorem dX12_bestNumber_88 : decode cX12_bestNumber 88 = .ok (.ireturn, 1) := by decide +kernel
theorem dX12_refusalOfMake_0 : decode cX12_refusalOfMake 0 = .ok (.aload_n 0, 1) := by decide +kernel
theorem dX12_refusalOfMake_1 : decode cX12_refusalOfMake 1 = .ok (.getfield 12, 3) := by decide +kernel
theorem dX12_refusalOfMake_4 : decode cX12_refusalOfMake 4 = .ok (.iload_n 1, 1) := by decide +kernel
theorem dX12_refusalOfMake_5 : decode cX12_refusalOfMake 5 = .ok (.invokevirtual 336, 3) := by decide +kernel
theorem dX12_refusalOfMake_8 : decode cX12_refusalOfMake 8 = .ok (.ifCond .eq 14, 3) := by decide +kernel
theorem dX12_refusalOfMake_11 : decode cX12_refusalOfMake 11 = .ok (.aload_n 0, 1) := by decide +kernel
theorem dX12_refusalOfMake_12 : decode cX12_refusalOfMake 12 = .ok (.getfield 12, 3) := by decide +kernel
theorem dX12_refusalOfMake_15 : decode cX12_refusalOfMake 15 = .ok (.iload_n 2, 1) := by decide +kernel
theorem dX12_refusalOfMake_16 : decode cX12_refusalOfMake 16 = .ok (.invokevirtual 336, 3) := by decide +kernel
theorem dX12_refusalOfMake_19 : decode cX12_refusalOfMake 19 = .ok (.ifCond .ne 6, 3) := by decide +kernel
theorem dX12_refusalOfMake_22 : decode cX12_refusalOfMake 22 = .ok (.bipush (-7), 2) := by decide +kernel
theorem dX12_refusalOfMake_24 : decode cX12_refusalOfMake 24 = .ok (.ireturn, 1) := by decide +kernel
theorem dX12_refusalOfMake_25 : decode cX12_refusalOfMake 25 = .ok (.aload_n 0, 1) := by decide +kernel
theorem dX12_refusalOfMake_26 : decode cX12_refusalOfMake 26 = .ok (.getfield 22, 3) := by decide +kernel
theorem dX12_refusalOfMake_29 : decode cX12_refusalOfMake 29 = .ok (.invokevirtual 167, 3) := by decide +kernel
theorem dX12_refusalOfMake_32 : decode cX12_refusalOfMake 32 = .ok (.astore_n 3, 1) := by decide +kernel
theorem dX12_refusalOfMake_33 : decode cX12_refusalOfMake 33 = .ok (.aload_n 3, 1) := by decide +kernel
theorem dX12_refusalOfMake_34 : decode cX12_refusalOfMake 34 = .ok (.aload_n 0, 1) := by decide +kernel
theorem dX12_refusalOfMake_35 : decode cX12_refusalOfMake 35 = .ok (.getfield 12, 3) := by decide +kernel
theorem dX12_refusalOfMake_38 : decode cX12_refusalOfMake 38 = .ok (.invokevirtual 171, 3) := by decide +kernel
theorem dX12_refusalOfMake_41 : decode cX12_refusalOfMake 41 = .ok (.aload_n 3, 1) := by decide +kernel
theorem dX12_refusalOfMake_42 : decode cX12_refusalOfMake 42 = .ok (.iload_n 1, 1) := by decide +kernel
theorem dX12_refusalOfMake_43 : decode cX12_refusalOfMake 43 = .ok (.iload_n 2, 1) := by decide +kernel
theorem dX12_refusalOfMake_44 : decode cX12_refusalOfMake 44 = .ok (.invokevirtual 246, 3) := by decide +kernel
theorem dX12_refusalOfMake_47 : decode cX12_refusalOfMake 47 = .ok (.istore 4, 2) := by decide +kernel
theorem dX12_refusalOfMake_49 : decode cX12_refusalOfMake 49 = .ok (.aload_n 3, 1) := by decide +kernel
theorem dX12_refusalOfMake_50 : decode cX12_refusalOfMake 50 = .ok (.iload 4, 2) := by decide +kernel
theorem dX12_refusalOfMake_52 : decode cX12_refusalOfMake 52 = .ok (.invokevirtual 250, 3) := by decide +kernel
theorem dX12_refusalOfMake_55 : decode cX12_refusalOfMake 55 = .ok (.ifCond .ne 6, 3) := by decide +kernel
theorem dX12_refusalOfMake_58 : decode cX12_refusalOfMake 58 = .ok (.bipush (-2), 2) := by decide +kernel
theorem dX12_refusalOfMake_60 : decode cX12_refusalOfMake 60 = .ok (.ireturn, 1) := by decide +kernel
theorem dX12_refusalOfMake_61 : decode cX12_refusalOfMake 61 = .ok (.aload_n 3, 1) := by decide +kernel
theorem dX12_refusalOfMake_62 : decode cX12_refusalOfMake 62 = .ok (.iload 4, 2) := by decide +kernel
theorem dX12_refusalOfMake_64 : decode cX12_refusalOfMake 64 = .ok (.invokevirtual 262, 3) := by decide +kernel
theorem dX12_refusalOfMake_67 : decode cX12_refusalOfMake 67 = .ok (.iconst (-1), 1) := by decide +kernel
theorem dX12_refusalOfMake_68 : decode cX12_refusalOfMake 68 = .ok (.if_icmp .ne 19, 3) := by decide +kernel
theorem dX12_refusalOfMake_71 : decode cX12_refusalOfMake 71 = .ok (.aload_n 0, 1) := by decide +kernel
theorem dX12_refusalOfMake_72 : decode cX12_refusalOfMake 72 = .ok (.getfield 12, 3) := by decide +kernel
theorem dX12_refusalOfMake_75 : decode cX12_refusalOfMake 75 = .ok (.invokevirtual 339, 3) := by decide +kernel
theorem dX12_refusalOfMake_78 : decode cX12_refusalOfMake 78 = .ok (.iconst (-1), 1) := by decide +kernel
theorem dX12_refusalOfMake_79 : decode cX12_refusalOfMake 79 = .ok (.if_icmp .ne 8, 3) := by decide +kernel
theorem dX12_refusalOfMake_82 : decode cX12_refusalOfMake 82 = .ok (.bipush (-3), 2) := by decide +kernel
theorem dX12_refusalOfMake_84 : decode cX12_refusalOfMake 84 = .ok (.goto 4, 3) := by decide +kernel
theorem dX12_refusalOfMake_87 : decode cX12_refusalOfMake 87 = .ok (.iconst 0, 1) := by decide +kernel
theorem dX12_refusalOfMake_88 : decode cX12_refusalOfMake 88 = .ok (.ireturn, 1) := by decide +kernel
theorem dX12_doOrder_0 : decode cX12_doOrder 0 = .ok (.aload_n 0, 1) := by decide +kernel
theorem dX12_doOrder_1 : decode cX12_doOrder 1 = .ok (.getfield 54, 3) := by decide +kernel
theorem dX12_doOrder_4 : decode cX12_doOrder 4 = .ok (.iload_n 1, 1) := by decide +kernel
theorem dX12_doOrder_5 : decode cX12_doOrder 5 = .ok (.invokevirtual 342, 3) := by decide +kernel
theorem dX12_doOrder_8 : decode cX12_doOrder 8 = .ok (.istore_n 2, 1) := by decide +kernel
theorem dX12_doOrder_9 : decode cX12_doOrder 9 = .ok (.getstatic 343, 3) := by decide +kernel
theorem dX12_doOrder_12 : decode cX12_doOrder 12 = .ok (.aload_n 0, 1) := by decide +kernel
theorem dX12_doOrder_13 : decode cX12_doOrder 13 = .ok (.getfield 54, 3) := by decide +kernel
theorem dX12_doOrder_16 : decode cX12_doOrder 16 = .ok (.iload_n 1, 1) := by decide +kernel
theorem dX12_doOrder_17 : decode cX12_doOrder 17 = .ok (.invokevirtual 349, 3) := by decide +kernel
theorem dX12_doOrder_20 : decode cX12_doOrder 20 = .ok (.invokevirtual 353, 3) := by decide +kernel
theorem dX12_doOrder_23 : decode cX12_doOrder 23 = .ok (.iaload, 1) := by decide +kernel
theorem dX12_doOrder_24 : decode cX12_doOrder 24 = .ok (.tableswitch 156 1 9 #[52, 67, 81, 104, 110, 116, 122, 133, 144], 52) := by decide +kernel
theorem dX12_doOrder_76 : decode cX12_doOrder 76 = .ok (.aload_n 0, 1) := by decide +kernel
theorem dX12_doOrder_77 : decode cX12_doOrder 77 = .ok (.getfield 22, 3) := by decide +kernel
theorem dX12_doOrder_80 : decode cX12_doOrder 80 = .ok (.aload_n 0, 1) := by decide +kernel
theorem dX12_doOrder_81 : decode cX12_doOrder 81 = .ok (.getfield 12, 3) := by decide +kernel
theorem dX12_doOrder_84 : decode cX12_doOrder 84 = .ok (.iload_n 2, 1) := by decide +kernel
theorem dX12_doOrder_85 : decode cX12_doOrder 85 = .ok (.invokevirtual 272, 3) := by decide +kernel
theorem dX12_doOrder_88 : decode cX12_doOrder 88 = .ok (.pop, 1) := by decide +kernel
theorem dX12_doOrder_89 : decode cX12_doOrder 89 = .ok (.iconst 1, 1) := by decide +kernel
theorem dX12_doOrder_90 : decode cX12_doOrder 90 = .ok (.ireturn, 1) := by decide +kernel
theorem dX12_doOrder_91 : decode cX12_doOrder 91 = .ok (.aload_n 0, 1) := by decide +kernel
theorem dX12_doOrder_92 : decode cX12_doOrder 92 = .ok (.getfield 22, 3) := by decide +kernel
theorem dX12_doOrder_95 : decode cX12_doOrder 95 = .ok (.aload_n 0, 1) := by decide +kernel
theorem dX12_doOrder_96 : decode cX12_doOrder 96 = .ok (.getfield 12, 3) := by decide +kernel
theorem dX12_doOrder_99 : decode cX12_doOrder 99 = .ok (.invokevirtual 279, 3) := by decide +kernel
theorem dX12_doOrder_102 : decode cX12_doOrder 102 = .ok (.pop, 1) := by decide +kernel
theorem dX12_doOrder_103 : decode cX12_doOrder 103 = .ok (.iconst 1, 1) := by decide +kernel
theorem dX12_doOrder_104 : decode cX12_doOrder 104 = .ok (.ireturn, 1) := by decide +kernel
theorem dX12_doOrder_105 : decode cX12_doOrder 105 = .ok (.aload_n 0, 1) := by decide +kernel
theorem dX12_doOrder_106 : decode cX12_doOrder 106 = .ok (.aload_n 0, 1) := by decide +kernel
theorem dX12_doOrder_107 : decode cX12_doOrder 107 = .ok (.getfield 54, 3) := by decide +kernel
theorem dX12_doOrder_110 : decode cX12_doOrder 110 = .ok (.iload_n 1, 1) := by decide +kernel
theorem dX12_doOrder_111 : decode cX12_doOrder 111 = .ok (.iconst 0, 1) := by decide +kernel
theorem dX12_doOrder_112 : decode cX12_doOrder 112 = .ok (.invokevirtual 358, 3) := by decide +kernel
theorem dX12_doOrder_115 : decode cX12_doOrder 115 = .ok (.aload_n 0, 1) := by decide +kernel
theorem dX12_doOrder_116 : decode cX12_doOrder 116 = .ok (.getfield 54, 3) := by decide +kernel
theorem dX12_doOrder_119 : decode cX12_doOrder 119 = .ok (.iload_n 1, 1) := by decide +kernel
theorem dX12_doOrder_120 : decode cX12_doOrder 120 = .ok (.iconst 1, 1) := by decide +kernel
theorem dX12_doOrder_121 : decode cX12_doOrder 121 = .ok (.invokevirtual 358, 3) := by decide +kernel
theorem dX12_doOrder_124 : decode cX12_doOrder 124 = .ok (.invokevirtual 361, 3) := by decide +kernel
theorem dX12_doOrder_127 : decode cX12_doOrder 127 = .ok (.ireturn, 1) := by decide +kernel
theorem dX12_doOrder_128 : decode cX12_doOrder 128 = .ok (.aload_n 0, 1) := by decide +kernel
theorem dX12_doOrder_129 : decode cX12_doOrder 129 = .ok (.iload_n 2, 1) := by decide +kernel
theorem dX12_doOrder_130 : decode cX12_doOrder 130 = .ok (.invokevirtual 365, 3) := by decide +kernel
theorem dX12_doOrder_133 : decode cX12_doOrder 133 = .ok (.ireturn, 1) := by decide +kernel
theorem dX12_doOrder_134 : decode cX12_doOrder 134 = .ok (.aload_n 0, 1) := by decide +kernel
theorem dX12_doOrder_135 : decode cX12_doOrder 135 = .ok (.iload_n 1, 1) := by decide +kernel
theorem dX12_doOrder_136 : decode cX12_doOrder 136 = .ok (.invokevirtual 368, 3) := by decide +kernel
theorem dX12_doOrder_139 : decode cX12_doOrder 139 = .ok (.ireturn, 1) := by decide +kernel
theorem dX12_doOrder_140 : decode cX12_doOrder 140 = .ok (.aload_n 0, 1) := by decide +kernel
theorem dX12_doOrder_141 : decode cX12_doOrder 141 = .ok (.iload_n 2, 1) := by decide +kernel
theorem dX12_doOrder_142 : decode cX12_doOrder 142 = .ok (.invokevirtual 371, 3) := by decide +kernel
theorem dX12_doOrder_145 : decode cX12_doOrder 145 = .ok (.ireturn, 1) := by decide +kernel
theorem dX12_doOrder_146 : decode cX12_doOrder 146 = .ok (.aload_n 0, 1) := by decide +kernel
theorem dX12_doOrder_147 : decode cX12_doOrder 147 = .ok (.getfield 12, 3) := by decide +kernel
theorem dX12_doOrder_150 : decode cX12_doOrder 150 = .ok (.iconst 4, 1) := by decide +kernel
theorem dX12_doOrder_151 : decode cX12_doOrder 151 = .ok (.iload_n 2, 1) := by decide +kernel
theorem dX12_doOrder_152 : decode cX12_doOrder 152 = .ok (.invokevirtual 304, 3) := by decide +kernel
theorem dX12_doOrder_155 : decode cX12_doOrder 155 = .ok (.iconst 1, 1) := by decide +kernel
theorem dX12_doOrder_156 : decode cX12_doOrder 156 = .ok (.ireturn, 1) := by decide +kernel
theorem dX12_doOrder_157 : decode cX12_doOrder 157 = .ok (.aload_n 0, 1) := by decide +kernel
theorem dX12_doOrder_158 : decode cX12_doOrder 158 = .ok (.getfield 12, 3) := by decide +kernel
theorem dX12_doOrder_161 : decode cX12_doOrder 161 = .ok (.iconst 5, 1) := by decide +kernel
theorem dX12_doOrder_162 : decode cX12_doOrder 162 = .ok (.iload_n 2, 1) := by decide +kernel
theorem dX12_doOrder_163 : decode cX12_doOrder 163 = .ok (.invokevirtual 304, 3) := by decide +kernel
theorem dX12_doOrder_166 : decode cX12_doOrder 166 = .ok (.iconst 1, 1) := by decide +kernel
theorem dX12_doOrder_167 : decode cX12_doOrder 167 = .ok (.ireturn, 1) := by decide +kernel
theorem dX12_doOrder_168 : decode cX12_doOrder 168 = .ok (.aload_n 0, 1) := by decide +kernel
theorem dX12_doOrder_169 : decode cX12_doOrder 169 = .ok (.getfield 12, 3) := by decide +kernel
theorem dX12_doOrder_172 : decode cX12_doOrder 172 = .ok (.bipush 6, 2) := by decide +kernel
theorem dX12_doOrder_174 : decode cX12_doOrder 174 = .ok (.iload_n 2, 1) := by decide +kernel
theorem dX12_doOrder_175 : decode cX12_doOrder 175 = .ok (.invokevirtual 304, 3) := by decide +kernel
theorem dX12_doOrder_178 : decode cX12_doOrder 178 = .ok (.iconst 1, 1) := by decide +kernel
theorem dX12_doOrder_179 : decode cX12_doOrder 179 = .ok (.ireturn, 1) := by decide +kernel
theorem dX12_doOrder_180 : decode cX12_doOrder 180 = .ok (.iconst 0, 1) := by decide +kernel
theorem dX12_doOrder_181 : decode cX12_doOrder 181 = .ok (.ireturn, 1) := by decide +kernel
theorem dX12_doMake_0 : decode cX12_doMake 0 = .ok (.aload_n 0, 1) := by decide +kernel
theorem dX12_doMake_1 : decode cX12_doMake 1 = .ok (.iload_n 1, 1) := by decide +kernel
theorem dX12_doMake_2 : decode cX12_doMake 2 = .ok (.iload_n 2, 1) := by decide +kernel
theorem dX12_doMake_3 : decode cX12_doMake 3 = .ok (.invokevirtual 283, 3) := by decide +kernel
theorem dX12_doMake_6 : decode cX12_doMake 6 = .ok (.ifCond .ge 5, 3) := by decide +kernel
theorem dX12_doMake_9 : decode cX12_doMake 9 = .ok (.iconst 0, 1) := by decide +kernel
theorem dX12_doMake_10 : decode cX12_doMake 10 = .ok (.ireturn, 1) := by decide +kernel
theorem dX12_doMake_11 : decode cX12_doMake 11 = .ok (.aload_n 0, 1) := by decide +kernel
theorem dX12_doMake_12 : decode cX12_doMake 12 = .ok (.getfield 12, 3) := by decide +kernel
theorem dX12_doMake_15 : decode cX12_doMake 15 = .ok (.iload_n 1, 1) := by decide +kernel
theorem dX12_doMake_16 : decode cX12_doMake 16 = .ok (.iload_n 2, 1) := by decide +kernel
theorem dX12_doMake_17 : decode cX12_doMake 17 = .ok (.invokevirtual 286, 3) := by decide +kernel
theorem dX12_doMake_20 : decode cX12_doMake 20 = .ok (.pop, 1) := by decide +kernel
theorem dX12_doMake_21 : decode cX12_doMake 21 = .ok (.iconst 1, 1) := by decide +kernel
theorem dX12_doMake_22 : decode cX12_doMake 22 = .ok (.ireturn, 1) := by decide +kernel
theorem dX12_doExpand_0 : decode cX12_doExpand 0 = .ok (.aload_n 0, 1) := by decide +kernel
theorem dX12_doExpand_1 : decode cX12_doExpand 1 = .ok (.getfield 12, 3) := by decide +kernel
theorem dX12_doExpand_4 : decode cX12_doExpand 4 = .ok (.iload_n 1, 1) := by decide +kernel
theorem dX12_doExpand_5 : decode cX12_doExpand 5 = .ok (.invokevirtual 188, 3) := by decide +kernel
theorem dX12_doExpand_8 : decode cX12_doExpand 8 = .ok (.ifCond .ne 5, 3) := by decide +kernel
theorem dX12_doExpand_11 : decode cX12_doExpand 11 = .ok (.iconst 0, 1) := by decide +kernel
theorem dX12_doExpand_12 : decode cX12_doExpand 12 = .ok (.ireturn, 1) := by decide +kernel
theorem dX12_doExpand_13 : decode cX12_doExpand 13 = .ok (.aload_n 0, 1) := by decide +kernel
theorem dX12_doExpand_14 : decode cX12_doExpand 14 = .ok (.getfield 12, 3) := by decide +kernel
theorem dX12_doExpand_17 : decode cX12_doExpand 17 = .ok (.iload_n 1, 1) := by decide +kernel
theorem dX12_doExpand_18 : decode cX12_doExpand 18 = .ok (.iconst 4, 1) := by decide +kernel
theorem dX12_doExpand_19 : decode cX12_doExpand 19 = .ok (.invokevirtual 289, 3) := by decide +kernel
theorem dX12_doExpand_22 : decode cX12_doExpand 22 = .ok (.pop, 1) := by decide +kernel
theorem dX12_doExpand_23 : decode cX12_doExpand 23 = .ok (.iconst 1, 1) := by decide +kernel
theorem dX12_doExpand_24 : decode cX12_doExpand 24 = .ok (.ireturn, 1) := by decide +kernel
theorem dX12_doAppend_0 : decode cX12_doAppend 0 = .ok (.iconst 0, 1) := by decide +kernel
theorem dX12_doAppend_1 : decode cX12_doAppend 1 = .ok (.istore_n 2, 1) := by decide +kernel
theorem dX12_doAppend_2 : decode cX12_doAppend 2 = .ok (.iload_n 2, 1) := by decide +kernel
theorem dX12_doAppend_3 : decode cX12_doAppend 3 = .ok (.aload_n 0, 1) := by decide +kernel
theorem dX12_doAppend_4 : decode cX12_doAppend 4 = .ok (.getfield 54, 3) := by decide +kernel
theorem dX12_doAppend_7 : decode cX12_doAppend 7 = .ok (.iload_n 1, 1) := by decide +kernel
theorem dX12_doAppend_8 : decode cX12_doAppend 8 = .ok (.invokevirtual 374, 3) := by decide +kernel
theorem dX12_doAppend_11 : decode cX12_doAppend 11 = .ok (.if_icmp .ge 40, 3) := by decide +kernel
theorem dX12_doAppend_14 : decode cX12_doAppend 14 = .ok (.aload_n 0, 1) := by decide +kernel
theorem dX12_doAppend_15 : decode cX12_doAppend 15 = .ok (.getfield 12, 3) := by decide +kernel
theorem dX12_doAppend_18 : decode cX12_doAppend 18 = .ok (.invokevirtual 122, 3) := by decide +kernel
theorem dX12_doAppend_21 : decode cX12_doAppend 21 = .ok (.sipush 400, 3) := by decide +kernel
theorem dX12_doAppend_24 : decode cX12_doAppend 24 = .ok (.if_icmp .lt 5, 3) := by decide +kernel
theorem dX12_doAppend_27 : decode cX12_doAppend 27 = .ok (.iconst 0, 1) := by decide +kernel
theorem dX12_doAppend_28 : decode cX12_doAppend 28 = .ok (.ireturn, 1) := by decide +kernel
theorem dX12_doAppend_29 : decode cX12_doAppend 29 = .ok (.aload_n 0, 1) := by decide +kernel
theorem dX12_doAppend_30 : decode cX12_doAppend 30 = .ok (.getfield 12, 3) := by decide +kernel
theorem dX12_doAppend_33 : decode cX12_doAppend 33 = .ok (.aload_n 0, 1) := by decide +kernel
theorem dX12_doAppend_34 : decode cX12_doAppend 34 = .ok (.getfield 54, 3) := by decide +kernel
theorem dX12_doAppend_37 : decode cX12_doAppend 37 = .ok (.iload_n 1, 1) := by decide +kernel
theorem dX12_doAppend_38 : decode cX12_doAppend 38 = .ok (.iload_n 2, 1) := by decide +kernel
theorem dX12_doAppend_39 : decode cX12_doAppend 39 = .ok (.invokevirtual 358, 3) := by decide +kernel
theorem dX12_doAppend_42 : decode cX12_doAppend 42 = .ok (.invokevirtual 292, 3) := by decide +kernel
theorem dX12_doAppend_45 : decode cX12_doAppend 45 = .ok (.iinc 2 1, 3) := by decide +kernel
theorem dX12_doAppend_48 : decode cX12_doAppend 48 = .ok (.goto (-46), 3) := by decide +kernel
theorem dX12_doAppend_51 : decode cX12_doAppend 51 = .ok (.iconst 1, 1) := by decide +kernel
theorem dX12_doAppend_52 : decode cX12_doAppend 52 = .ok (.ireturn, 1) := by decide +kernel
theorem dX12_doCut_0 : decode cX12_doCut 0 = .ok (.iload_n 1, 1) := by decide +kernel
theorem dX12_doCut_1 : decode cX12_doCut 1 = .ok (.aload_n 0, 1) := by decide +kernel
theorem dX12_doCut_2 : decode cX12_doCut 2 = .ok (.getfield 12, 3) := by decide +kernel
theorem dX12_doCut_5 : decode cX12_doCut 5 = .ok (.invokevirtual 122, 3) := by decide +kernel
theorem dX12_doCut_8 : decode cX12_doCut 8 = .ok (.if_icmp .lt 5, 3) := by decide +kernel
theorem dX12_doCut_11 : decode cX12_doCut 11 = .ok (.iconst 0, 1) := by decide +kernel
theorem dX12_doCut_12 : decode cX12_doCut 12 = .ok (.ireturn, 1) := by decide +kernel
theorem dX12_doCut_13 : decode cX12_doCut 13 = .ok (.aload_n 0, 1) := by decide +kernel
theorem dX12_doCut_14 : decode cX12_doCut 14 = .ok (.getfield 12, 3) := by decide +kernel
theorem dX12_doCut_17 : decode cX12_doCut 17 = .ok (.iload_n 1, 1) := by decide +kernel
theorem dX12_doCut_18 : decode cX12_doCut 18 = .ok (.invokevirtual 295, 3) := by decide +kernel
theorem dX12_doCut_21 : decode cX12_doCut 21 = .ok (.iconst 1, 1) := by decide +kernel
theorem dX12_doCut_22 : decode cX12_doCut 22 = .ok (.ireturn, 1) := by decide +kernel
theorem dX13_init_0 : decode cX13_init 0 = .ok (.aload_n 0, 1) := by decide +kernel
theorem dX13_init_1 : decode cX13_init 1 = .ok (.invokespecial 1, 3) := by decide +kernel
theorem dX13_init_4 : decode cX13_init 4 = .ok (.aload_n 0, 1) := by decide +kernel
theorem dX13_init_5 : decode cX13_init 5 = .ok (.sipush 16860, 3) := by decide +kernel
theorem dX13_init_8 : decode cX13_init 8 = .ok (.newarray .int, 2) := by decide +kernel
theorem dX13_init_10 : decode cX13_init 10 = .ok (.putfield 9, 3) := by decide +kernel
theorem dX13_init_13 : decode cX13_init 13 = .ok (.aload_n 0, 1) := by decide +kernel
theorem dX13_init_14 : decode cX13_init 14 = .ok (.sipush 16860, 3) := by decide +kernel
theorem dX13_init_17 : decode cX13_init 17 = .ok (.newarray .int, 2) := by decide +kernel
theorem dX13_init_19 : decode cX13_init 19 = .ok (.putfield 13, 3) := by decide +kernel
theorem dX13_init_22 : decode cX13_init 22 = .ok (.aload_n 0, 1) := by decide +kernel
theorem dX13_init_23 : decode cX13_init 23 = .ok (.sipush 16860, 3) := by decide +kernel
theorem dX13_init_26 : decode cX13_init 26 = .ok (.newarray .int, 2) := by decide +kernel
theorem dX13_init_28 : decode cX13_init 28 = .ok (.putfield 16, 3) := by decide +kernel
theorem dX13_init_31 : decode cX13_init 31 = .ok (.aload_n 0, 1) := by decide +kernel
theorem dX13_init_32 : decode cX13_init 32 = .ok (.ldc 19, 2) := by decide +kernel
theorem dX13_init_34 : decode cX13_init 34 = .ok (.newarray .int, 2) := by decide +kernel
theorem dX13_init_36 : decode cX13_init 36 = .ok (.putfield 20, 3) := by decide +kernel
theorem dX13_init_39 : decode cX13_init 39 = .ok (.aload_n 0, 1) := by decide +kernel
theorem dX13_init_40 : decode cX13_init 40 = .ok (.ldc 23, 2) := by decide +kernel
theorem dX13_init_42 : decode cX13_init 42 = .ok (.newarray .int, 2) := by decide +kernel
theorem dX13_init_44 : decode cX13_init 44 = .ok (.putfield 24, 3) := by decide +kernel
theorem dX13_init_47 : decode cX13_init 47 = .ok (.aload_n 0, 1) := by decide +kernel
theorem dX13_init_48 : decode cX13_init 48 = .ok (.iconst 2, 1) := by decide +kernel
theorem dX13_init_49 : decode cX13_init 49 = .ok (.newarray .boolean, 2) := by decide +kernel
theorem dX13_init_51 : decode cX13_init 51 = .ok (.putfield 27, 3) := by decide +kernel
theorem dX13_init_54 : decode cX13_init 54 = .ok (.aload_n 0, 1) := by decide +kernel
theorem dX13_init_55 : decode cX13_init 55 = .ok (.bipush 66, 2) := by decide +kernel
theorem dX13_init_57 : decode cX13_init 57 = .ok (.newarray .int, 2) := by decide +kernel
theorem dX13_init_59 : decode cX13_init 59 = .ok (.putfield 31, 3) := by decide +kernel
theorem dX13_init_62 : decode cX13_init 62 = .ok (.aload_n 0, 1) := by decide +kernel
theorem dX13_init_63 : decode cX13_init 63 = .ok (.bipush 66, 2) := by decide +kernel
theorem dX13_init_65 : decode cX13_init 65 = .ok (.newarray .int, 2) := by decide +kernel
theorem dX13_init_67 : decode cX13_init 67 = .ok (.putfield 34, 3) := by decide +kernel
theorem dX13_init_70 : decode cX13_init 70 = .ok (.aload_n 0, 1) := by decide +kernel
theorem dX13_init_71 : decode cX13_init 71 = .ok (.sipush 401, 3) := by decide +kernel
theorem dX13_init_74 : decode cX13_init 74 = .ok (.newarray .int, 2) := by decide +kernel
theorem dX13_init_76 : decode cX13_init 76 = .ok (.putfield 37, 3) := by decide +kernel
theorem dX13_init_79 : decode cX13_init 79 = .ok (.aload_n 0, 1) := by decide +kernel
theorem dX13_init_80 : decode cX13_init 80 = .ok (.sipush 401, 3) := by decide +kernel
theorem dX13_init_83 : decode cX13_init 83 = .ok (.newarray .int, 2) := by decide +kernel
theorem dX13_init_85 : decode cX13_init 85 = .ok (.putfield 40, 3) := by decide +kernel
theorem dX13_init_88 : decode cX13_init 88 = .ok (.aload_n 0, 1) := by decide +kernel
theorem dX13_init_89 : decode cX13_init 89 = .ok (.bipush 42, 2) := by decide +kernel
theorem dX13_init_91 : decode cX13_init 91 = .ok (.newarray .int, 2) := by decide +kernel
theorem dX13_init_93 : decode cX13_init 93 = .ok (.putfield 43, 3) := by decide +kernel
theorem dX13_init_96 : decode cX13_init 96 = .ok (.aload_n 0, 1) := by decide +kernel
theorem dX13_init_97 : decode cX13_init 97 = .ok (.bipush 42, 2) := by decide +kernel
theorem dX13_init_99 : decode cX13_init 99 = .ok (.newarray .int, 2) := by decide +kernel
theorem dX13_init_101 : decode cX13_init 101 = .ok (.putfield 46, 3) := by decide +kernel
theorem dX13_init_104 : decode cX13_init 104 = .ok (.aload_n 0, 1) := by decide +kernel
theorem dX13_init_105 : decode cX13_init 105 = .ok (.sipush 4356, 3) := by decide +kernel
theorem dX13_init_108 : decode cX13_init 108 = .ok (.newarray .int, 2) := by decide +kernel
theorem dX13_init_110 : decode cX13_init 110 = .ok (.putfield 49, 3) := by decide +kernel
theorem dX13_init_113 : decode cX13_init 113 = .ok (.aload_n 0, 1) := by decide +kernel
theorem dX13_init_114 : decode cX13_init 114 = .ok (.sipush 4356, 3) := by decide +kernel
theorem dX13_init_117 : decode cX13_init 117 = .ok (.newarray .int, 2) := by decide +kernel
theorem dX13_init_119 : decode cX13_init 119 = .ok (.putfield 52, 3) := by decide +kernel
theorem dX13_init_122 : decode cX13_init 122 = .ok (.aload_n 0, 1) := by decide +kernel
theorem dX13_init_123 : decode cX13_init 123 = .ok (.sipush 4356, 3) := by decide +kernel
theorem dX13_init_126 : decode cX13_init 126 = .ok (.newarray .int, 2) := by decide +kernel
theorem dX13_init_128 : decode cX13_init 128 = .ok (.putfield 55, 3) := by decide +kernel
theorem dX13_init_131 : decode cX13_init 131 = .ok (.aload_n 0, 1) := by decide +kernel
theorem dX13_init_132 : decode cX13_init 132 = .ok (.sipush 600, 3) := by decide +kernel
theorem dX13_init_135 : decode cX13_init 135 = .ok (.newarray .int, 2) := by decide +kernel
theorem dX13_init_137 : decode cX13_init 137 = .ok (.putfield 58, 3) := by decide +kernel
theorem dX13_init_140 : decode cX13_init 140 = .ok (.aload_n 0, 1) := by decide +kernel
theorem dX13_init_141 : decode cX13_init 141 = .ok (.iconst (-1), 1) := by decide +kernel
theorem dX13_init_142 : decode cX13_init 142 = .ok (.putfield 61, 3) := by decide +kernel
theorem dX13_init_145 : decode cX13_init 145 = .ok (.aload_n 0, 1) := by decide +kernel
theorem dX13_init_146 : decode cX13_init 146 = .ok (.bipush 64, 2) := by decide +kernel
theorem dX13_init_148 : decode cX13_init 148 = .ok (.newarray .int, 2) := by decide +kernel
theorem dX13_init_150 : decode cX13_init 150 = .ok (.putfield 65, 3) := by decide +kernel
theorem dX13_init_153 : decode cX13_init 153 = .ok (.aload_n 0, 1) := by decide +kernel
theorem dX13_init_154 : decode cX13_init 154 = .ok (.bipush 64, 2) := by decide +kernel
theorem dX13_init_156 : decode cX13_init 156 = .ok (.newarray .int, 2) := by decide +kernel
theorem dX13_init_158 : decode cX13_init 158 = .ok (.putfield 68, 3) := by decide +kernel
theorem dX13_init_161 : decode cX13_init 161 = .ok (.aload_n 0, 1) := by decide +kernel
theorem dX13_init_162 : decode cX13_init 162 = .ok (.bipush 64, 2) := by decide +kernel
theorem dX13_init_164 : decode cX13_init 164 = .ok (.newarray .int, 2) := by decide +kernel
theorem dX13_init_166 : decode cX13_init 166 = .ok (.putfield 71, 3) := by decide +kernel
theorem dX13_init_169 : decode cX13_init 169 = .ok (.aload_n 0, 1) := by decide +kernel
theorem dX13_init_170 : decode cX13_init 170 = .ok (.bipush 64, 2) := by decide +kernel
theorem dX13_init_172 : decode cX13_init 172 = .ok (.newarray .int, 2) := by decide +kernel
theorem dX13_init_174 : decode cX13_init 174 = .ok (.putfield 74, 3) := by decide +kernel
theorem dX13_init_177 : decode cX13_init 177 = .ok (.aload_n 0, 1) := by decide +kernel
theorem dX13_init_178 : decode cX13_init 178 = .ok (.iconst 2, 1) := by decide +kernel
theorem dX13_init_179 : decode cX13_init 179 = .ok (.newarray .int, 2) := by decide +kernel
theorem dX13_init_181 : decode cX13_init 181 = .ok (.putfield 77, 3) := by decide +kernel
theorem dX13_init_184 : decode cX13_init 184 = .ok (.aload_n 0, 1) := by decide +kernel
theorem dX13_init_185 : decode cX13_init 185 = .ok (.iconst 2, 1) := by decide +kernel
theorem dX13_init_186 : decode cX13_init 186 = .ok (.newarray .int, 2) := by decide +kernel
theorem dX13_init_188 : decode cX13_init 188 = .ok (.putfield 80, 3) := by decide +kernel
theorem dX13_init_191 : decode cX13_init 191 = .ok (.aload_n 0, 1) := by decide +kernel
theorem dX13_init_192 : decode cX13_init 192 = .ok (.bipush 66, 2) := by decide +kernel
theorem dX13_init_194 : decode cX13_init 194 = .ok (.newarray .int, 2) := by decide +kernel
theorem dX13_init_196 : decode cX13_init 196 = .ok (.putfield 83, 3) := by decide +kernel
theorem dX13_init_199 : decode cX13_init 199 = .ok (.aload_n 0, 1) := by decide +kernel
theorem dX13_init_200 : decode cX13_init 200 = .ok (.ldc 86, 2) := by decide +kernel
theorem dX13_init_202 : decode cX13_init 202 = .ok (.newarray .int, 2) := by decide +kernel
theorem dX13_init_204 : decode cX13_init 204 = .ok (.putfield 87, 3) := by decide +kernel
theorem dX13_init_207 : decode cX13_init 207 = .ok (.aload_n 0, 1) := by decide +kernel
theorem dX13_init_208 : decode cX13_init 208 = .ok (.invokevirtual 90, 3) := by decide +kernel
theorem dX13_init_211 : decode cX13_init 211 = .ok (.aload_n 0, 1) := by decide +kernel
theorem dX13_init_212 : decode cX13_init 212 = .ok (.iconst 0, 1) := by decide +kernel
theorem dX13_init_213 : decode cX13_init 213 = .ok (.iconst 0, 1) := by decide +kernel
theorem dX13_init_214 : decode cX13_init 214 = .ok (.invokevirtual 93, 3) := by decide +kernel
theorem dX13_init_217 : decode cX13_init 217 = .ok (.aload_n 0, 1) := by decide +kernel
theorem dX13_init_218 : decode cX13_init 218 = .ok (.invokevirtual 97, 3) := by decide +kernel
theorem dX13_init_221 : decode cX13_init 221 = .ok (.return_, 1) := by decide +kernel
theorem dX13_thrown_0 : decode cX13_thrown 0 = .ok (.aload_n 0, 1) := by decide +kernel
theorem dX13_thrown_1 : decode cX13_thrown 1 = .ok (.getfield 100, 3) := by decide +kernel
theorem dX13_thrown_4 : decode cX13_thrown 4 = .ok (.ireturn, 1) := by decide +kernel
theorem dX13_in_0 : decode cX13_in 0 = .ok (.iload_n 0, 1) := by decide +kernel
theorem dX13_in_1 : decode cX13_in 1 = .ok (.iload_n 1, 1) := by decide +kernel
theorem dX13_in_2 : decode cX13_in 2 = .ok (.if_icmp .lt 12, 3) := by decide +kernel
theorem dX13_in_5 : decode cX13_in 5 = .ok (.iload_n 0, 1) := by decide +kernel
theorem dX13_in_6 : decode cX13_in 6 = .ok (.iload_n 2, 1) := by decide +kernel
theorem dX13_in_7 : decode cX13_in 7 = .ok (.if_icmp .gt 7, 3) := by decide +kernel
theorem dX13_in_10 : decode cX13_in 10 = .ok (.iconst 1, 1) := by decide +kernel
theorem dX13_in_11 : decode cX13_in 11 = .ok (.goto 4, 3) := by decide +kernel
theorem dX13_in_14 : decode cX13_in 14 = .ok (.iconst 0, 1) := by decide +kernel
theorem dX13_in_15 : decode cX13_in 15 = .ok (.ireturn, 1) := by decide +kernel
theorem dX13_one_0 : decode cX13_one 0 = .ok (.iload_n 0, 1) := by decide +kernel
theorem dX13_one_1 : decode cX13_one 1 = .ok (.ifCond .eq 7, 3) := by decide +kernel
theorem dX13_one_4 : decode cX13_one 4 = .ok (.iconst 1, 1) := by decide +kernel
theorem dX13_one_5 : decode cX13_one 5 = .ok (.goto 4, 3) := by decide +kernel
theorem dX13_one_8 : decode cX13_one 8 = .ok (.iconst 0, 1) := by decide +kernel
theorem dX13_one_9 : decode cX13_one 9 = .ok (.ireturn, 1) := by decide +kernel
theorem dX13_fails_0 : decode cX13_fails 0 = .ok (.aload_n 0, 1) := by decide +kernel
theorem dX13_fails_1 : decode cX13_fails 1 = .ok (.getfield 100, 3) := by decide +kernel
theorem dX13_fails_4 : decode cX13_fails 4 = .ok (.ifCond .ne 12, 3) := by decide +kernel
theorem dX13_fails_7 : decode cX13_fails 7 = .ok (.iload_n 1, 1) := by decide +kernel
theorem dX13_fails_8 : decode cX13_fails 8 = .ok (.ifCond .eq 8, 3) := by decide +kernel
theorem dX13_fails_11 : decode cX13_fails 11 = .ok (.aload_n 0, 1) := by decide +kernel
theorem dX13_fails_12 : decode cX13_fails 12 = .ok (.iload_n 2, 1) := by decide +kernel
theorem dX13_fails_13 : decode cX13_fails 13 = .ok (.putfield 100, 3) := by decide +kernel
theorem dX13_fails_16 : decode cX13_fails 16 = .ok (.aload_n 0, 1) := by decide +kernel
theorem dX13_fails_17 : decode cX13_fails 17 = .ok (.getfield 100, 3) := by decide +kernel
theorem dX13_fails_20 : decode cX13_fails 20 = .ok (.ifCond .eq 7, 3) := by decide +kernel
theorem dX13_fails_23 : decode cX13_fails 23 = .ok (.iconst 1, 1) := by decide +kernel
theorem dX13_fails_24 : decode cX13_fails 24 = .ok (.goto 4, 3) := by decide +kernel
theorem dX13_fails_27 : decode cX13_fails 27 = .ok (.iconst 0, 1) := by decide +kernel
theorem dX13_fails_28 : decode cX13_fails 28 = .ok (.ireturn, 1) := by decide +kernel
theorem dX13_lays_0 : decode cX13_lays 0 = .ok (.iconst 0, 1) := by decide +kernel
theorem dX13_lays_1 : decode cX13_lays 1 = .ok (.istore 4, 2) := by decide +kernel
theorem dX13_lays_3 : decode cX13_lays 3 = .ok (.iload 4, 2) := by decide +kernel
theorem dX13_lays_5 : decode cX13_lays 5 = .ok (.sipush 16860, 3) := by decide +kernel
theorem dX13_lays_8 : decode cX13_lays 8 = .ok (.if_icmp .ge 21, 3) := by decide +kernel
theorem dX13_lays_11 : decode cX13_lays 11 = .ok (.aload_n 2, 1) := by decide +kernel
theorem dX13_lays_12 : decode cX13_lays 12 = .ok (.iload_n 3, 1) := by decide +kernel
theorem dX13_lays_13 : decode cX13_lays 13 = .ok (.iload 4, 2) := by decide +kernel
theorem dX13_lays_15 : decode cX13_lays 15 = .ok (.iadd, 1) := by decide +kernel
theorem dX13_lays_16 : decode cX13_lays 16 = .ok (.aload_n 0, 1) := by decide +kernel
theorem dX13_lays_17 : decode cX13_lays 17 = .ok (.iload_n 1, 1) := by decide +kernel
theorem dX13_lays_18 : decode cX13_lays 18 = .ok (.iload 4, 2) := by decide +kernel
theorem dX13_lays_20 : decode cX13_lays 20 = .ok (.iadd, 1) := by decide +kernel
theorem dX13_lays_21 : decode cX13_lays 21 = .ok (.iaload, 1) := by decide +kernel
theorem dX13_lays_22 : decode cX13_lays 22 = .ok (.iastore, 1) := by decide +kernel
theorem dX13_lays_23 : decode cX13_lays 23 = .ok (.iinc 4 1, 3) := by decide +kernel
theorem dX13_lays_26 : decode cX13_lays 26 = .ok (.goto (-23), 3) := by decide +kernel
theorem dX13_lays_29 : decode cX13_lays 29 = .ok (.return_, 1) := by decide +kernel
theorem dX13_begins_0 : decode cX13_begins 0 = .ok (.iconst 0, 1) := by decide +kernel
theorem dX13_begins_1 : decode cX13_begins 1 = .ok (.istore_n 1, 1) := by decide +kernel
theorem dX13_begins_2 : decode cX13_begins 2 = .ok (.iload_n 1, 1) := by decide +kernel
theorem dX13_begins_3 : decode cX13_begins 3 = .ok (.sipush 16860, 3) := by decide +kernel
theorem dX13_begins_6 : decode cX13_begins 6 = .ok (.if_icmp .ge 16, 3) := by decide +kernel
theorem dX13_begins_9 : decode cX13_begins 9 = .ok (.aload_n 0, 1) := by decide +kernel
theorem dX13_begins_10 : decode cX13_begins 10 = .ok (.getfield 9, 3) := by decide +kernel
theorem dX13_begins_13 : decode cX13_begins 13 = .ok (.iload_n 1, 1) := by decide +kernel
theorem dX13_begins_14 : decode cX13_begins 14 = .ok (.iconst 0, 1) := by decide +kernel
theorem dX13_begins_15 : decode cX13_begins 15 = .ok (.iastore, 1) := by decide +kernel
theorem dX13_begins_16 : decode cX13_begins 16 = .ok (.iinc 1 1, 3) := by decide +kernel
theorem dX13_begins_19 : decode cX13_begins 19 = .ok (.goto (-17), 3) := by decide +kernel
theorem dX13_begins_22 : decode cX13_begins 22 = .ok (.aload_n 0, 1) := by decide +kernel
theorem dX13_begins_23 : decode cX13_begins 23 = .ok (.getfield 9, 3) := by decide +kernel
theorem dX13_begins_26 : decode cX13_begins 26 = .ok (.iconst 0, 1) := by decide +kernel
theorem dX13_begins_27 : decode cX13_begins 27 = .ok (.iconst 2, 1) := by decide +kernel
theorem dX13_begins_28 : decode cX13_begins 28 = .ok (.iastore, 1) := by decide +kernel
theorem dX13_begins_29 : decode cX13_begins 29 = .ok (.aload_n 0, 1) := by decide +kernel
theorem dX13_begins_30 : decode cX13_begins 30 = .ok (.getfield 9, 3) := by decide +kernel
theorem dX13_begins_33 : decode cX13_begins 33 = .ok (.iconst 2, 1) := by decide +kernel
theorem dX13_begins_34 : decode cX13_begins 34 = .ok (.iconst 1, 1) := by decide +kernel
theorem dX13_begins_35 : decode cX13_begins 35 = .ok (.iastore, 1) := by decide +kernel
theorem dX13_begins_36 : decode cX13_begins 36 = .ok (.return_, 1) := by decide +kernel
theorem dX13_counts_0 : decode cX13_counts 0 = .ok (.aload_n 0, 1) := by decide +kernel
theorem dX13_counts_1 : decode cX13_counts 1 = .ok (.getfield 9, 3) := by decide +kernel
theorem dX13_counts_4 : decode cX13_counts 4 = .ok (.bipush 6, 2) := by decide +kernel
theorem dX13_counts_6 : decode cX13_counts 6 = .ok (.iload_n 1, 1) := by decide +kernel
theorem dX13_counts_7 : decode cX13_counts 7 = .ok (.iadd, 1) := by decide +kernel
theorem dX13_counts_8 : decode cX13_counts 8 = .ok (.dup2, 1) := by decide +kernel
theorem dX13_counts_9 : decode cX13_counts 9 = .ok (.iaload, 1) := by decide +kernel
theorem dX13_counts_10 : decode cX13_counts 10 = .ok (.iload_n 2, 1) := by decide +kernel
theorem dX13_counts_11 : decode cX13_counts 11 = .ok (.iadd, 1) := by decide +kernel
theorem dX13_counts_12 : decode cX13_counts 12 = .ok (.iastore, 1) := by decide +kernel
theorem dX13_counts_13 : decode cX13_counts 13 = .ok (.return_, 1) := by decide +kernel
theorem dX13_many_0 : decode cX13_many 0 = .ok (.aload_n 0, 1) := by decide +kernel
theorem dX13_many_1 : decode cX13_many 1 = .ok (.getfield 9, 3) := by decide +kernel
theorem dX13_many_4 : decode cX13_many 4 = .ok (.bipush 16, 2) := by decide +kernel
theorem dX13_many_6 : decode cX13_many 6 = .ok (.iload_n 1, 1) := by decide +kernel
theorem dX13_many_7 : decode cX13_many 7 = .ok (.iadd, 1) := by decide +kernel
theorem dX13_many_8 : decode cX13_many 8 = .ok (.iaload, 1) := by decide +kernel
theorem dX13_many_9 : decode cX13_many 9 = .ok (.ireturn, 1) := by decide +kernel
theorem dX13_at_0 : decode cX13_at 0 = .ok (.aload_n 0, 1) := by decide +kernel
theorem dX13_at_1 : decode cX13_at 1 = .ok (.getfield 9, 3) := by decide +kernel
theorem dX13_at_4 : decode cX13_at 4 = .ok (.bipush 60, 2) := by decide +kernel
theorem dX13_at_6 : decode cX13_at 6 = .ok (.sipush 400, 3) := by decide +kernel
theorem dX13_at_9 : decode cX13_at 9 = .ok (.iload_n 1, 1) := by decide +kernel
theorem dX13_at_10 : decode cX13_at 10 = .ok (.imul, 1) := by decide +kernel
theorem dX13_at_11 : decode cX13_at 11 = .ok (.iadd, 1) := by decide +kernel
theorem dX13_at_12 : decode cX13_at 12 = .ok (.iload_n 2, 1) := by decide +kernel
theorem dX13_at_13 : decode cX13_at 13 = .ok (.iadd, 1) := by decide +kernel
theorem dX13_at_14 : decode cX13_at 14 = .ok (.iaload, 1) := by decide +kernel
theorem dX13_at_15 : decode cX13_at 15 = .ok (.ireturn, 1) := by decide +kernel
theorem dX13_puts_0 : decode cX13_puts 0 = .ok (.aload_n 0, 1) := by decide +kernel
theorem dX13_puts_1 : decode cX13_puts 1 = .ok (.getfield 9, 3) := by decide +kernel
theorem dX13_puts_4 : decode cX13_puts 4 = .ok (.bipush 60, 2) := by decide +kernel
theorem dX13_puts_6 : decode cX13_puts 6 = .ok (.sipush 400, 3) := by decide +kernel
theorem dX13_puts_9 : decode cX13_puts 9 = .ok (.iload_n 1, 1) := by decide +kernel
theorem dX13_puts_10 : decode cX13_puts 10 = .ok (.imul, 1) := by decide +kernel
theorem dX13_puts_11 : decode cX13_puts 11 = .ok (.iadd, 1) := by decide +kernel
theorem dX13_puts_12 : decode cX13_puts 12 = .ok (.iload_n 2, 1) := by decide +kernel
theorem dX13_puts_13 : decode cX13_puts 13 = .ok (.iadd, 1) := by decide +kernel
theorem dX13_puts_14 : decode cX13_puts 14 = .ok (.iload_n 3, 1) := by decide +kernel
theorem dX13_puts_15 : decode cX13_puts 15 = .ok (.iastore, 1) := by decide +kernel
theorem dX13_puts_16 : decode cX13_puts 16 = .ok (.return_, 1) := by decide +kernel
theorem dX13_adds_0 : decode cX13_adds 0 = .ok (.aload_n 0, 1) := by decide +kernel
theorem dX13_adds_1 : decode cX13_adds 1 = .ok (.iload_n 1, 1) := by decide +kernel
theorem dX13_adds_2 : decode cX13_adds 2 = .ok (.aload_n 0, 1) := by decide +kernel
theorem dX13_adds_3 : decode cX13_adds 3 = .ok (.iload_n 1, 1) := by decide +kernel
theorem dX13_adds_4 : decode cX13_adds 4 = .ok (.invokevirtual 103, 3) := by decide +kernel
theorem dX13_adds_7 : decode cX13_adds 7 = .ok (.iload_n 2, 1) := by decide +kernel
theorem dX13_adds_8 : decode cX13_adds 8 = .ok (.invokevirtual 107, 3) := by decide +kernel
theorem dX13_adds_11 : decode cX13_adds 11 = .ok (.aload_n 0, 1) := by decide +kernel
theorem dX13_adds_12 : decode cX13_adds 12 = .ok (.getfield 9, 3) := by decide +kernel
theorem dX13_adds_15 : decode cX13_adds 15 = .ok (.bipush 16, 2) := by decide +kernel
theorem dX13_adds_17 : decode cX13_adds 17 = .ok (.iload_n 1, 1) := by decide +kernel
theorem dX13_adds_18 : decode cX13_adds 18 = .ok (.iadd, 1) := by decide +kernel
theorem dX13_adds_19 : decode cX13_adds 19 = .ok (.dup2, 1) := by decide +kernel
theorem dX13_adds_20 : decode cX13_adds 20 = .ok (.iaload, 1) := by decide +kernel
theorem dX13_adds_21 : decode cX13_adds 21 = .ok (.iconst 1, 1) := by decide +kernel
theorem dX13_adds_22 : decode cX13_adds 22 = .ok (.iadd, 1) := by decide +kernel
theorem dX13_adds_23 : decode cX13_adds 23 = .ok (.iastore, 1) := by decide +kernel
theorem dX13_adds_24 : decode cX13_adds 24 = .ok (.return_, 1) := by decide +kernel
theorem dX13_isHere_0 : decode cX13_isHere 0 = .ok (.aload_n 0, 1) := by decide +kernel
theorem dX13_isHere_1 : decode cX13_isHere 1 = .ok (.iload_n 1, 1) := by decide +kernel
theorem dX13_isHere_2 : decode cX13_isHere 2 = .ok (.iconst 1, 1) := by decide +kernel
theorem dX13_isHere_3 : decode cX13_isHere 3 = .ok (.iadd, 1) := by decide +kernel
theorem dX13_isHere_4 : decode cX13_isHere 4 = .ok (.invokevirtual 103, 3) := by decide +kernel
theorem dX13_isHere_7 : decode cX13_isHere 7 = .ok (.ifCond .le 7, 3) := by decide +kernel
theorem dX13_isHere_10 : decode cX13_isHere 10 = .ok (.iconst 1, 1) := by decide +kernel
theorem dX13_isHere_11 : decode cX13_isHere 11 = .ok (.goto 4, 3) := by decide +kernel
theorem dX13_isHere_14 : decode cX13_isHere 14 = .ok (.iconst 0, 1) := by decide +kernel
theorem dX13_isHere_15 : decode cX13_isHere 15 = .ok (.ireturn, 1) := by decide +kernel
theorem dX13_isSymbol_0 : decode cX13_isSymbol 0 = .ok (.iload_n 1, 1) := by decide +kernel
theorem dX13_isSymbol_1 : decode cX13_isSymbol 1 = .ok (.bipush 26, 2) := by decide +kernel
theorem dX13_isSymbol_3 : decode cX13_isSymbol 3 = .ok (.if_icmp .lt 14, 3) := by decide +kernel
theorem dX13_isSymbol_6 : decode cX13_isSymbol 6 = .ok (.aload_n 0, 1) := by decide +kernel
theorem dX13_isSymbol_7 : decode cX13_isSymbol 7 = .ok (.iload_n 1, 1) := by decide +kernel
theorem dX13_isSymbol_8 : decode cX13_isSymbol 8 = .ok (.bipush 26, 2) := by decide +kernel
theorem dX13_isSymbol_10 : decode cX13_isSymbol 10 = .ok (.isub, 1) := by decide +kernel
theorem dX13_isSymbol_11 : decode cX13_isSymbol 11 = .ok (.invokevirtual 111, 3) := by decide +kernel
theorem dX13_isSymbol_14 : decode cX13_isSymbol 14 = .ok (.ifCond .eq 7, 3) := by decide +kernel
theorem dX13_isSymbol_17 : decode cX13_isSymbol 17 = .ok (.iconst 1, 1) := by decide +kernel
theorem dX13_isSymbol_18 : decode cX13_isSymbol 18 = .ok (.goto 4, 3) := by decide +kernel
theorem dX13_isSymbol_21 : decode cX13_isSymbol 21 = .ok (.iconst 0, 1) := by decide +kernel
theorem dX13_isSymbol_22 : decode cX13_isSymbol 22 = .ok (.ireturn, 1) := by decide +kernel
theorem dX13_rules_0 : decode cX13_rules 0 = .ok (.iconst 0, 1) := by decide +kernel
theorem dX13_rules_1 : decode cX13_rules 1 = .ok (.istore_n 1, 1) := by decide +kernel
theorem dX13_rules_2 : decode cX13_rules 2 = .ok (.iconst 0, 1) := by decide +kernel
theorem dX13_rules_3 : decode cX13_rules 3 = .ok (.istore_n 2, 1) := by decide +kernel
theorem dX13_rules_4 : decode cX13_rules 4 = .ok (.iload_n 2, 1) := by decide +kernel
theorem dX13_rules_5 : decode cX13_rules 5 = .ok (.bipush 40, 2) := by decide +kernel
theorem dX13_rules_7 : decode cX13_rules 7 = .ok (.if_icmp .ge 20, 3) := by decide +kernel
theorem dX13_rules_10 : decode cX13_rules 10 = .ok (.iload_n 1, 1) := by decide +kernel
theorem dX13_rules_11 : decode cX13_rules 11 = .ok (.aload_n 0, 1) := by decide +kernel
theorem dX13_rules_12 : decode cX13_rules 12 = .ok (.iload_n 2, 1) := by decide +kernel
theorem dX13_rules_13 : decode cX13_rules 13 = .ok (.invokevirtual 111, 3) := by decide +kernel
theorem dX13_rules_16 : decode cX13_rules 16 = .ok (.invokestatic 115, 3) := by decide +kernel
theorem dX13_rules_19 : decode cX13_rules 19 = .ok (.iadd, 1) := by decide +kernel
theorem dX13_rules_20 : decode cX13_rules 20 = .ok (.istore_n 1, 1) := by decide +kernel
theorem dX13_rules_21 : decode cX13_rules 21 = .ok (.iinc 2 1, 3) := by decide +kernel
theorem dX13_rules_24 : decode cX13_rules 24 = .ok (.goto (-20), 3) := by decide +kernel
theorem dX13_rules_27 : decode cX13_rules 27 = .ok (.iload_n 1, 1) := by decide +kernel
theorem dX13_rules_28 : decode cX13_rules 28 = .ok (.ireturn, 1) := by decide +kernel
theorem dX13_sizeNow_0 : decode cX13_sizeNow 0 = .ok (.iconst 0, 1) := by decide +kernel
theorem dX13_sizeNow_1 : decode cX13_sizeNow 1 = .ok (.istore_n 1, 1) := by decide +kernel
theorem dX13_sizeNow_2 : decode cX13_sizeNow 2 = .ok (.iconst 0, 1) := by decide +kernel
theorem dX13_sizeNow_3 : decode cX13_sizeNow 3 = .ok (.istore_n 2, 1) := by decide +kernel
theorem dX13_sizeNow_4 : decode cX13_sizeNow 4 = .ok (.iload_n 2, 1) := by decide +kernel
theorem dX13_sizeNow_5 : decode cX13_sizeNow 5 = .ok (.bipush 41, 2) := by decide +kernel
theorem dX13_sizeNow_7 : decode cX13_sizeNow 7 = .ok (.if_icmp .ge 17, 3) := by decide +kernel
theorem dX13_sizeNow_10 : decode cX13_sizeNow 10 = .ok (.iload_n 1, 1) := by decide +kernel
theorem dX13_sizeNow_11 : decode cX13_sizeNow 11 = .ok (.aload_n 0, 1) := by decide +kernel
theorem dX13_sizeNow_12 : decode cX13_sizeNow 12 = .ok (.iload_n 2, 1) := by decide +kernel
theorem dX13_sizeNow_13 : decode cX13_sizeNow 13 = .ok (.invokevirtual 103, 3) := by decide +kernel
theorem dX13_sizeNow_16 : decode cX13_sizeNow 16 = .ok (.iadd, 1) := by decide +kernel
theorem dX13_sizeNow_17 : decode cX13_sizeNow 17 = .ok (.istore_n 1, 1) := by decide +kernel
theorem dX13_sizeNow_18 : decode cX13_sizeNow 18 = .ok (.iinc 2 1, 3) := by decide +kernel
theorem dX13_sizeNow_21 : decode cX13_sizeNow 21 = .ok (.goto (-17), 3) := by decide +kernel
theorem dX13_sizeNow_24 : decode cX13_sizeNow 24 = .ok (.iload_n 1, 1) := by decide +kernel
theorem dX13_sizeNow_25 : decode cX13_sizeNow 25 = .ok (.ireturn, 1) := by decide +kernel
theorem dX13_freeRule_0 : decode cX13_freeRule 0 = .ok (.iconst 0, 1) := by decide +kernel
theorem dX13_freeRule_1 : decode cX13_freeRule 1 = .ok (.istore_n 1, 1) := by decide +kernel
theorem dX13_freeRule_2 : decode cX13_freeRule 2 = .ok (.iload_n 1, 1) := by decide +kernel
theorem dX13_freeRule_3 : decode cX13_freeRule 3 = .ok (.bipush 40, 2) := by decide +kernel
theorem dX13_freeRule_5 : decode cX13_freeRule 5 = .ok (.if_icmp .ge 19, 3) := by decide +kernel
theorem dX13_freeRule_8 : decode cX13_freeRule 8 = .ok (.aload_n 0, 1) := by decide +kernel
theorem dX13_freeRule_9 : decode cX13_freeRule 9 = .ok (.iload_n 1, 1) := by decide +kernel
theorem dX13_freeRule_10 : decode cX13_freeRule 10 = .ok (.invokevirtual 111, 3) := by decide +kernel
theorem dX13_freeRule_13 : decode cX13_freeRule 13 = .ok (.ifCond .ne 5, 3) := by decide +kernel
theorem dX13_freeRule_16 : decode cX13_freeRule 16 = .ok (.iload_n 1, 1) := by decide +kernel
theorem dX13_freeRule_17 : decode cX13_freeRule 17 = .ok (.ireturn, 1) := by decide +kernel
theorem dX13_freeRule_18 : decode cX13_freeRule 18 = .ok (.iinc 1 1, 3) := by decide +kernel
theorem dX13_freeRule_21 : decode cX13_freeRule 21 = .ok (.goto (-19), 3) := by decide +kernel
theorem dX13_freeRule_24 : decode cX13_freeRule 24 = .ok (.iconst (-1), 1) := by decide +kernel
theorem dX13_freeRule_25 : decode cX13_freeRule 25 = .ok (.ireturn, 1) := by decide +kernel
theorem dX13_removes_0 : decode cX13_removes 0 = .ok (.aload_n 0, 1) := by decide +kernel
theorem dX13_removes_1 : decode cX13_removes 1 = .ok (.getfield 9, 3) := by decide +kernel
theorem dX13_removes_4 : decode cX13_removes 4 = .ok (.bipush 16, 2) := by decide +kernel
theorem dX13_removes_6 : decode cX13_removes 6 = .ok (.iload_n 1, 1) := by decide +kernel
theorem dX13_removes_7 : decode cX13_removes 7 = .ok (.iadd, 1) := by decide +kernel
theorem dX13_removes_8 : decode cX13_removes 8 = .ok (.iconst 1, 1) := by decide +kernel
theorem dX13_removes_9 : decode cX13_removes 9 = .ok (.iadd, 1) := by decide +kernel
theorem dX13_removes_10 : decode cX13_removes 10 = .ok (.iconst 0, 1) := by decide +kernel
theorem dX13_removes_11 : decode cX13_removes 11 = .ok (.iastore, 1) := by decide +kernel
theorem dX13_removes_12 : decode cX13_removes 12 = .ok (.return_, 1) := by decide +kernel
theorem dX13_opens_0 : decode cX13_opens 0 = .ok (.aload_n 0, 1) := by decide +kernel
theorem dX13_opens_1 : decode cX13_opens 1 = .ok (.iload_n 3, 1) := by decide +kernel
theorem dX13_opens_2 : decode cX13_opens 2 = .ok (.iconst 1, 1) := by decide +kernel
theorem dX13_opens_3 : decode cX13_opens 3 = .ok (.iadd, 1) := by decide +kernel
theorem dX13_opens_4 : decode cX13_opens 4 = .ok (.invokevirtual 103, 3) := by decide +kernel
theorem dX13_opens_7 : decode cX13_opens 7 = .ok (.iconst 1, 1) := by decide +kernel
theorem dX13_opens_8 : decode cX13_opens 8 = .ok (.isub, 1) := by decide +kernel
theorem dX13_opens_9 : decode cX13_opens 9 = .ok (.istore 4, 2) := by decide +kernel
theorem dX13_opens_11 : decode cX13_opens 11 = .ok (.aload_n 0, 1) := by decide +kernel
theorem dX13_opens_12 : decode cX13_opens 12 = .ok (.iload_n 1, 1) := by decide +kernel
theorem dX13_opens_13 : decode cX13_opens 13 = .ok (.invokevirtual 103, 3) := by decide +kernel
theorem dX13_opens_16 : decode cX13_opens 16 = .ok (.iconst 1, 1) := by decide +kernel
theorem dX13_opens_17 : decode cX13_opens 17 = .ok (.isub, 1) := by decide +kernel
theorem dX13_opens_18 : decode cX13_opens 18 = .ok (.istore 5, 2) := by decide +kernel
theorem dX13_opens_20 : decode cX13_opens 20 = .ok (.iload 5, 2) := by decide +kernel
theorem dX13_opens_22 : decode cX13_opens 22 = .ok (.iload_n 2, 1) := by decide +kernel
theorem dX13_opens_23 : decode cX13_opens 23 = .ok (.if_icmp .le 26, 3) := by decide +kernel
theorem dX13_opens_26 : decode cX13_opens 26 = .ok (.aload_n 0, 1) := by decide +kernel
theorem dX13_opens_27 : decode cX13_opens 27 = .ok (.iload_n 1, 1) := by decide +kernel
theorem dX13_opens_28 : decode cX13_opens 28 = .ok (.iload 5, 2) := by decide +kernel
theorem dX13_opens_30 : decode cX13_opens 30 = .ok (.iload 4, 2) := by decide +kernel
theorem dX13_opens_32 : decode cX13_opens 32 = .ok (.iadd, 1) := by decide +kernel
theorem dX13_opens_33 : decode cX13_opens 33 = .ok (.aload_n 0, 1) := by decide +kernel
theorem dX13_opens_34 : decode cX13_opens 34 = .ok (.iload_n 1, 1) := by decide +kernel
theorem dX13_opens_35 : decode cX13_opens 35 = .ok (.iload 5, 2) := by decide +kernel
theorem dX13_opens_37 : decode cX13_opens 37 = .ok (.invokevirtual 119, 3) := by decide +kernel
theorem dX13_opens_40 : decode cX13_opens 40 = .ok (.invokevirtual 107, 3) := by decide +kernel
theorem dX13_opens_43 : decode cX13_opens 43 = .ok (.iinc 5 (-1), 3) := by decide +kernel
theorem dX13_opens_46 : decode cX13_opens 46 = .ok (.goto (-26), 3) := by decide +kernel
theorem dX13_opens_49 : decode cX13_opens 49 = .ok (.iconst 0, 1) := by decide +kernel
theorem dX13_opens_50 : decode cX13_opens 50 = .ok (.istore 5, 2) := by decide +kernel
theorem dX13_opens_52 : decode cX13_opens 52 = .ok (.iload 5, 2) := by decide +kernel
theorem dX13_opens_54 : decode cX13_opens 54 = .ok (.iload 4, 2) := by decide +kernel
theorem dX13_opens_56 : decode cX13_opens 56 = .ok (.if_icmp .gt 27, 3) := by decide +kernel
theorem dX13_opens_59 : decode cX13_opens 59 = .ok (.aload_n 0, 1) := by decide +kernel
theorem dX13_opens_60 : decode cX13_opens 60 = .ok (.iload_n 1, 1) := by decide +kernel
theorem dX13_opens_61 : decode cX13_opens 61 = .ok (.iload_n 2, 1) := by decide +kernel
theorem dX13_opens_62 : decode cX13_opens 62 = .ok (.iload 5, 2) := by decide +kernel
theorem dX13_opens_64 : decode cX13_opens 64 = .ok (.iadd, 1) := by decide +kernel
theorem dX13_opens_65 : decode cX13_opens 65 = .ok (.aload_n 0, 1) := by decide +kernel
theorem dX13_opens_66 : decode cX13_opens 66 = .ok (.iload_n 3, 1) := by decide +kernel
theorem dX13_opens_67 : decode cX13_opens 67 = .ok (.iconst 1, 1) := by decide +kernel
theorem dX13_opens_68 : decode cX13_opens 68 = .ok (.iadd, 1) := by decide +kernel
theorem dX13_opens_69 : decode cX13_opens 69 = .ok (.iload 5, 2) := by decide +kernel
theorem dX13_opens_71 : decode cX13_opens 71 = .ok (.invokevirtual 119, 3) := by decide +kernel
theorem dX13_opens_74 : decode cX13_opens 74 = .ok (.invokevirtual 107, 3) := by decide +kernel
theorem dX13_opens_77 : decode cX13_opens 77 = .ok (.iinc 5 1, 3) := by decide +kernel
theorem dX13_opens_80 : decode cX13_opens 80 = .ok (.goto (-28), 3) := by decide +kernel
theorem dX13_opens_83 : decode cX13_opens 83 = .ok (.aload_n 0, 1) := by decide +kernel
theorem dX13_opens_84 : decode cX13_opens 84 = .ok (.getfield 9, 3) := by decide +kernel
theorem dX13_opens_87 : decode cX13_opens 87 = .ok (.bipush 16, 2) := by decide +kernel
theorem dX13_opens_89 : decode cX13_opens 89 = .ok (.iload_n 1, 1) := by decide +kernel
theorem dX13_opens_90 : decode cX13_opens 90 = .ok (.iadd, 1) := by decide +kernel
theorem dX13_opens_91 : decode cX13_opens 91 = .ok (.dup2, 1) := by decide +kernel
theorem dX13_opens_92 : decode cX13_opens 92 = .ok (.iaload, 1) := by decide +kernel
theorem dX13_opens_93 : decode cX13_opens 93 = .ok (.iload 4, 2) := by decide +kernel
theorem dX13_opens_95 : decode cX13_opens 95 = .ok (.iadd, 1) := by decide +kernel
theorem dX13_opens_96 : decode cX13_opens 96 = .ok (.iastore, 1) := by decide +kernel
theorem dX13_opens_97 : decode cX13_opens 97 = .ok (.return_, 1) := by decide +kernel
theorem dX13_usesIn_0 : decode cX13_usesIn 0 = .ok (.iconst 0, 1) := by decide +kernel
theorem dX13_usesIn_1 : decode cX13_usesIn 1 = .ok (.istore_n 3, 1) := by decide +kernel
theorem dX13_usesIn_2 : decode cX13_usesIn 2 = .ok (.iconst 0, 1) := by decide +kernel
theorem dX13_usesIn_3 : decode cX13_usesIn 3 = .ok (.istore 4, 2) := by decide +kernel
theorem dX13_usesIn_5 : decode cX13_usesIn 5 = .ok (.iload 4, 2) := by decide +kernel
theorem dX13_usesIn_7 : decode cX13_usesIn 7 = .ok (.aload_n 0, 1) := by decide +kernel
theorem dX13_usesIn_8 : decode cX13_usesIn 8 = .ok (.iload_n 1, 1) := by decide +kernel
theorem dX13_usesIn_9 : decode cX13_usesIn 9 = .ok (.invokevirtual 103, 3) := by decide +kernel
theorem dX13_usesIn_12 : decode cX13_usesIn 12 = .ok (.if_icmp .ge 31, 3) := by decide +kernel
theorem dX13_usesIn_15 : decode cX13_usesIn 15 = .ok (.iload_n 3, 1) := by decide +kernel
theorem dX13_usesIn_16 : decode cX13_usesIn 16 = .ok (.aload_n 0, 1) := by decide +kernel
theorem dX13_usesIn_17 : decode cX13_usesIn 17 = .ok (.iload_n 1, 1) := by decide +kernel
theorem dX13_usesIn_18 : decode cX13_usesIn 18 = .ok (.iload 4, 2) := by decide +kernel
theorem dX13_usesIn_20 : decode cX13_usesIn 20 = .ok (.invokevirtual 119, 3) := by decide +kernel
theorem dX13_usesIn_23 : decode cX13_usesIn 23 = .ok (.iload_n 2, 1) := by decide +kernel
theorem dX13_usesIn_24 : decode cX13_usesIn 24 = .ok (.if_icmp .ne 7, 3) := by decide +kernel
theorem dX13_usesIn_27 : decode cX13_usesIn 27 = .ok (.iconst 1, 1) := by decide +kernel
theorem dX13_usesIn_28 : decode cX13_usesIn 28 = .ok (.goto 4, 3) := by decide +kernel
theorem dX13_usesIn_31 : decode cX13_usesIn 31 = .ok (.iconst 0, 1) := by decide +kernel
theorem dX13_usesIn_32 : decode cX13_usesIn 32 = .ok (.invokestatic 115, 3) := by decide +kernel
theorem dX13_usesIn_35 : decode cX13_usesIn 35 = .ok (.iadd, 1) := by decide +kernel
theorem dX13_usesIn_36 : decode cX13_usesIn 36 = .ok (.istore_n 3, 1) := by decide +kernel
theorem dX13_usesIn_37 : decode cX13_usesIn 37 = .ok (.iinc 4 1, 3) := by decide +kernel
theorem dX13_usesIn_40 : decode cX13_usesIn 40 = .ok (.goto (-35), 3) := by decide +kernel
theorem dX13_usesIn_43 : decode cX13_usesIn 43 = .ok (.iload_n 3, 1) := by decide +kernel
theorem dX13_usesIn_44 : decode cX13_usesIn 44 = .ok (.ireturn, 1) := by decide +kernel
theorem dX13_usesOf_0 : decode cX13_usesOf 0 = .ok (.iconst 0, 1) := by decide +kernel
theorem dX13_usesOf_1 : decode cX13_usesOf 1 = .ok (.istore_n 2, 1) := by decide +kernel
theorem dX13_usesOf_2 : decode cX13_usesOf 2 = .ok (.iconst 0, 1) := by decide +kernel
theorem dX13_usesOf_3 : decode cX13_usesOf 3 = .ok (.istore_n 3, 1) := by decide +kernel
theorem dX13_usesOf_4 : decode cX13_usesOf 4 = .ok (.iload_n 3, 1) := by decide +kernel
theorem dX13_usesOf_5 : decode cX13_usesOf 5 = .ok (.bipush 41, 2) := by decide +kernel
theorem dX13_usesOf_7 : decode cX13_usesOf 7 = .ok (.if_icmp .ge 21, 3) := by decide +kernel
theorem dX13_usesOf_10 : decode cX13_usesOf 10 = .ok (.iload_n 2, 1) := by decide +kernel
theorem dX13_usesOf_11 : decode cX13_usesOf 11 = .ok (.aload_n 0, 1) := by decide +kernel
theorem dX13_usesOf_12 : decode cX13_usesOf 12 = .ok (.iload_n 3, 1) := by decide +kernel
theorem dX13_usesOf_13 : decode cX13_usesOf 13 = .ok (.bipush 26, 2) := by decide +kernel
theorem dX13_usesOf_15 : decode cX13_usesOf 15 = .ok (.iload_n 1, 1) := by decide +kernel
theorem dX13_usesOf_16 : decode cX13_usesOf 16 = .ok (.iadd, 1) := by decide +kernel
theorem dX13_usesOf_17 : decode cX13_usesOf 17 = .ok (.invokevirtual 123, 3) := by decide +kernel
theorem dX13_usesOf_20 : decode cX13_usesOf 20 = .ok (.iadd, 1) := by decide +kernel
theorem dX13_usesOf_21 : decode cX13_usesOf 21 = .ok (.istore_n 2, 1) := by decide +kernel
theorem dX13_usesOf_22 : decode cX13_usesOf 22 = .ok (.iinc 3 1, 3) := by decide +kernel
theorem dX13_usesOf_25 : decode cX13_usesOf 25 = .ok (.goto (-21), 3) := by decide +kernel
theorem dX13_usesOf_28 : decode cX13_usesOf 28 = .ok (.iload_n 2, 1) := by decide +kernel
theorem dX13_usesOf_29 : decode cX13_usesOf 29 = .ok (.ireturn, 1) := by decide +kernel
theorem dX13_lengthOf_0 : decode cX13_lengthOf 0 = .ok (.iconst 0, 1) := by decide +kernel
theorem dX13_lengthOf_1 : decode cX13_lengthOf 1 = .ok (.istore_n 2, 1) := by decide +kernel
theorem dX13_lengthOf_2 : decode cX13_lengthOf 2 = .ok (.aload_n 0, 1) := by decide +kernel
theorem dX13_lengthOf_3 : decode cX13_lengthOf 3 = .ok (.iconst 0, 1) := by decide +kernel
theorem dX13_lengthOf_4 : decode cX13_lengthOf 4 = .ok (.putfield 126, 3) := by decide +kernel
theorem dX13_lengthOf_7 : decode cX13_lengthOf 7 = .ok (.iconst 0, 1) := by decide +kernel
theorem dX13_lengthOf_8 : decode cX13_lengthOf 8 = .ok (.istore_n 3, 1) := by decide +kernel
theorem dX13_lengthOf_9 : decode cX13_lengthOf 9 = .ok (.iload_n 3, 1) := by decide +kernel
theorem dX13_lengthOf_10 : decode cX13_lengthOf 10 = .ok (.aload_n 0, 1) := by decide +kernel
theorem dX13_lengthOf_11 : decode cX13_lengthOf 11 = .ok (.iload_n 1, 1) := by decide +kernel
theorem dX13_lengthOf_12 : decode cX13_lengthOf 12 = .ok (.invokevirtual 103, 3) := by decide +kernel
theorem dX13_lengthOf_15 : decode cX13_lengthOf 15 = .ok (.if_icmp .ge 57, 3) := by decide +kernel
theorem dX13_lengthOf_18 : decode cX13_lengthOf 18 = .ok (.aload_n 0, 1) := by decide +kernel
theorem dX13_lengthOf_19 : decode cX13_lengthOf 19 = .ok (.iload_n 1, 1) := by decide +kernel
theorem dX13_lengthOf_20 : decode cX13_lengthOf 20 = .ok (.iload_n 3, 1) := by decide +kernel
theorem dX13_lengthOf_21 : decode cX13_lengthOf 21 = .ok (.invokevirtual 119, 3) := by decide +kernel
theorem dX13_lengthOf_24 : decode cX13_lengthOf 24 = .ok (.istore 4, 2) := by decide +kernel
theorem dX13_lengthOf_26 : decode cX13_lengthOf 26 = .ok (.aload_n 0, 1) := by decide +kernel
theorem dX13_lengthOf_27 : decode cX13_lengthOf 27 = .ok (.getfield 31, 3) := by decide +kernel
theorem dX13_lengthOf_30 : decode cX13_lengthOf 30 = .ok (.iload 4, 2) := by decide +kernel
theorem dX13_lengthOf_32 : decode cX13_lengthOf 32 = .ok (.iaload, 1) := by decide +kernel
theorem dX13_lengthOf_33 : decode cX13_lengthOf 33 = .ok (.ifCond .ne 5, 3) := by decide +kernel
theorem dX13_lengthOf_36 : decode cX13_lengthOf 36 = .ok (.iconst 0, 1) := by decide +kernel
theorem dX13_lengthOf_37 : decode cX13_lengthOf 37 = .ok (.ireturn, 1) := by decide +kernel
theorem dX13_lengthOf_38 : decode cX13_lengthOf 38 = .ok (.iload_n 2, 1) := by decide +kernel
theorem dX13_lengthOf_39 : decode cX13_lengthOf 39 = .ok (.aload_n 0, 1) := by decide +kernel
theorem dX13_lengthOf_40 : decode cX13_lengthOf 40 = .ok (.getfield 31, 3) := by decide +kernel
theorem dX13_lengthOf_43 : decode cX13_lengthOf 43 = .ok (.iload 4, 2) := by decide +kernel
theorem dX13_lengthOf_45 : decode cX13_lengthOf 45 = .ok (.iaload, 1) := by decide +kernel
theorem dX13_lengthOf_46 : decode cX13_lengthOf 46 = .ok (.iadd, 1) := by decide +kernel
theorem dX13_lengthOf_47 : decode cX13_lengthOf 47 = .ok (.istore_n 2, 1) := by decide +kernel
theorem dX13_lengthOf_48 : decode cX13_lengthOf 48 = .ok (.aload_n 0, 1) := by decide +kernel
theorem dX13_lengthOf_49 : decode cX13_lengthOf 49 = .ok (.aload_n 0, 1) := by decide +kernel
theorem dX13_lengthOf_50 : decode cX13_lengthOf 50 = .ok (.getfield 126, 3) := by decide +kernel
theorem dX13_lengthOf_53 : decode cX13_lengthOf 53 = .ok (.aload_n 0, 1) := by decide +kernel
theorem dX13_lengthOf_54 : decode cX13_lengthOf 54 = .ok (.getfield 34, 3) := by decide +kernel
theorem dX13_lengthOf_57 : decode cX13_lengthOf 57 = .ok (.iload 4, 2) := by decide +kernel
theorem dX13_lengthOf_59 : decode cX13_lengthOf 59 = .ok (.iaload, 1) := by decide +kernel
theorem dX13_lengthOf_60 : decode cX13_lengthOf 60 = .ok (.invokestatic 129, 3) := by decide +kernel
theorem dX13_lengthOf_63 : decode cX13_lengthOf 63 = .ok (.putfield 126, 3) := by decide +kernel
theorem dX13_lengthOf_66 : decode cX13_lengthOf 66 = .ok (.iinc 3 1, 3) := by decide +kernel
theorem dX13_lengthOf_69 : decode cX13_lengthOf 69 = .ok (.goto (-60), 3) := by decide +kernel
theorem dX13_lengthOf_72 : decode cX13_lengthOf 72 = .ok (.iload_n 2, 1) := by decide +kernel
theorem dX13_lengthOf_73 : decode cX13_lengthOf 73 = .ok (.ireturn, 1) := by decide +kernel
theorem dX13_laysLengths_0 : decode cX13_laysLengths 0 = .ok (.iconst 0, 1) := by decide +kernel
theorem dX13_laysLengths_1 : decode cX13_laysLengths 1 = .ok (.istore_n 1, 1) := by decide +kernel
theorem dX13_laysLengths_2 : decode cX13_laysLengths 2 = .ok (.iload_n 1, 1) := by decide +kernel
theorem dX13_laysLengths_3 : decode cX13_laysLengths 3 = .ok (.bipush 66, 2) := by decide +kernel
theorem dX13_laysLengths_5 : decode cX13_laysLengths 5 = .ok (.if_icmp .ge 36, 3) := by decide +kernel
theorem dX13_laysLengths_8 : decode cX13_laysLengths 8 = .ok (.aload_n 0, 1) := by decide +kernel
theorem dX13_laysLengths_9 : decode cX13_laysLengths 9 = .ok (.getfield 31, 3) := by decide +kernel
theorem dX13_laysLengths_12 : decode cX13_laysLengths 12 = .ok (.iload_n 1, 1) := by decide +kernel
theorem dX13_laysLengths_13 : decode cX13_laysLengths 13 = .ok (.iload_n 1, 1) := by decide +kernel
theorem dX13_laysLengths_14 : decode cX13_laysLengths 14 = .ok (.bipush 26, 2) := by decide +kernel
theorem dX13_laysLengths_16 : decode cX13_laysLengths 16 = .ok (.if_icmp .ge 7, 3) := by decide +kernel
theorem dX13_laysLengths_19 : decode cX13_laysLengths 19 = .ok (.iconst 1, 1) := by decide +kernel
theorem dX13_laysLengths_20 : decode cX13_laysLengths 20 = .ok (.goto 4, 3) := by decide +kernel
theorem dX13_laysLengths_23 : decode cX13_laysLengths 23 = .ok (.iconst 0, 1) := by decide +kernel
theorem dX13_laysLengths_24 : decode cX13_laysLengths 24 = .ok (.invokestatic 115, 3) := by decide +kernel
theorem dX13_laysLengths_27 : decode cX13_laysLengths 27 = .ok (.iastore, 1) := by decide +kernel
theorem dX13_laysLengths_28 : decode cX13_laysLengths 28 = .ok (.aload_n 0, 1) := by decide +kernel
theorem dX13_laysLengths_29 : decode cX13_laysLengths 29 = .ok (.getfield 34, 3) := by decide +kernel
theorem dX13_laysLengths_32 : decode cX13_laysLengths 32 = .ok (.iload_n 1, 1) := by decide +kernel
theorem dX13_laysLengths_33 : decode cX13_laysLengths 33 = .ok (.iconst 0, 1) := by decide +kernel
theorem dX13_laysLengths_34 : decode cX13_laysLengths 34 = .ok (.iastore, 1) := by decide +kernel
theorem dX13_laysLengths_35 : decode cX13_laysLengths 35 = .ok (.iinc 1 1, 3) := by decide +kernel
theorem dX13_laysLengths_38 : decode cX13_laysLengths 38 = .ok (.goto (-36), 3) := by decide +kernel
theorem dX13_laysLengths_41 : decode cX13_laysLengths 41 = .ok (.iconst 1, 1) := by decide +kernel
theorem dX13_laysLengths_42 : decode cX13_laysLengths 42 = .ok (.istore_n 1, 1) := by decide +kernel
theorem dX13_laysLengths_43 : decode cX13_laysLengths 43 = .ok (.iload_n 1, 1) := by decide +kernel
theorem dX13_laysLengths_44 : decode cX13_laysLengths 44 = .ok (.ifCond .eq 98, 3) := by decide +kernel
theorem dX13_laysLengths_47 : decode cX13_laysLengths 47 = .ok (.iconst 0, 1) := by decide +kernel
theorem dX13_laysLengths_48 : decode cX13_laysLengths 48 = .ok (.istore_n 1, 1) := by decide +kernel
theorem dX13_laysLengths_49 : decode cX13_laysLengths 49 = .ok (.iconst 0, 1) := by decide +kernel
theorem dX13_laysLengths_50 : decode cX13_laysLengths 50 = .ok (.istore_n 2, 1) := by decide +kernel
theorem dX13_laysLengths_51 : decode cX13_laysLengths 51 = .ok (.iload_n 2, 1) := by decide +kernel
theorem dX13_laysLengths_52 : decode cX13_laysLengths 52 = .ok (.bipush 40, 2) := by decide +kernel
theorem dX13_laysLengths_54 : decode cX13_laysLengths 54 = .ok (.if_icmp .ge 85, 3) := by decide +kernel
theorem dX13_laysLengths_57 : decode cX13_laysLengths 57 = .ok (.aload_n 0, 1) := by decide +kernel
theorem dX13_laysLengths_58 : decode cX13_laysLengths 58 = .ok (.iload_n 2, 1) := by decide +kernel
theorem dX13_laysLengths_59 : decode cX13_laysLengths 59 = .ok (.invokevirtual 111, 3) := by decide +kernel
theorem dX13_laysLengths_62 : decode cX13_laysLengths 62 = .ok (.ifCond .eq 71, 3) := by decide +kernel
theorem dX13_laysLengths_65 : decode cX13_laysLengths 65 = .ok (.aload_n 0, 1) := by decide +kernel
theorem dX13_laysLengths_66 : decode cX13_laysLengths 66 = .ok (.getfield 31, 3) := by decide +kernel
theorem dX13_laysLengths_69 : decode cX13_laysLengths 69 = .ok (.bipush 26, 2) := by decide +kernel
theorem dX13_laysLengths_71 : decode cX13_laysLengths 71 = .ok (.iload_n 2, 1) := by decide +kernel
theorem dX13_laysLengths_72 : decode cX13_laysLengths 72 = .ok (.iadd, 1) := by decide +kernel
theorem dX13_laysLengths_73 : decode cX13_laysLengths 73 = .ok (.iaload, 1) := by decide +kernel
theorem dX13_laysLengths_74 : decode cX13_laysLengths 74 = .ok (.ifCond .le 6, 3) := by decide +kernel
theorem dX13_laysLengths_77 : decode cX13_laysLengths 77 = .ok (.goto 56, 3) := by decide +kernel
theorem dX13_laysLengths_80 : decode cX13_laysLengths 80 = .ok (.aload_n 0, 1) := by decide +kernel
theorem dX13_laysLengths_81 : decode cX13_laysLengths 81 = .ok (.getfield 31, 3) := by decide +kernel
theorem dX13_laysLengths_84 : decode cX13_laysLengths 84 = .ok (.bipush 26, 2) := by decide +kernel
theorem dX13_laysLengths_86 : decode cX13_laysLengths 86 = .ok (.iload_n 2, 1) := by decide +kernel
theorem dX13_laysLengths_87 : decode cX13_laysLengths 87 = .ok (.iadd, 1) := by decide +kernel
theorem dX13_laysLengths_88 : decode cX13_laysLengths 88 = .ok (.aload_n 0, 1) := by decide +kernel
theorem dX13_laysLengths_89 : decode cX13_laysLengths 89 = .ok (.iload_n 2, 1) := by decide +kernel
theorem dX13_laysLengths_90 : decode cX13_laysLengths 90 = .ok (.iconst 1, 1) := by decide +kernel
theorem dX13_laysLengths_91 : decode cX13_laysLengths 91 = .ok (.iadd, 1) := by decide +kernel
theorem dX13_laysLengths_92 : decode cX13_laysLengths 92 = .ok (.invokevirtual 134, 3) := by decide +kernel
theorem dX13_laysLengths_95 : decode cX13_laysLengths 95 = .ok (.iastore, 1) := by decide +kernel
theorem dX13_laysLengths_96 : decode cX13_laysLengths 96 = .ok (.aload_n 0, 1) := by decide +kernel
theorem dX13_laysLengths_97 : decode cX13_laysLengths 97 = .ok (.getfield 34, 3) := by decide +kernel
theorem dX13_laysLengths_100 : decode cX13_laysLengths 100 = .ok (.bipush 26, 2) := by decide +kernel
theorem dX13_laysLengths_102 : decode cX13_laysLengths 102 = .ok (.iload_n 2, 1) := by decide +kernel
theorem dX13_laysLengths_103 : decode cX13_laysLengths 103 = .ok (.iadd, 1) := by decide +kernel
theorem dX13_laysLengths_104 : decode cX13_laysLengths 104 = .ok (.aload_n 0, 1) := by decide +kernel
theorem dX13_laysLengths_105 : decode cX13_laysLengths 105 = .ok (.getfield 126, 3) := by decide +kernel
theorem dX13_laysLengths_108 : decode cX13_laysLengths 108 = .ok (.iconst 1, 1) := by decide +kernel
theorem dX13_laysLengths_109 : decode cX13_laysLengths 109 = .ok (.iadd, 1) := by decide +kernel
theorem dX13_laysLengths_110 : decode cX13_laysLengths 110 = .ok (.iastore, 1) := by decide +kernel
theorem dX13_laysLengths_111 : decode cX13_laysLengths 111 = .ok (.iload_n 1, 1) := by decide +kernel
theorem dX13_laysLengths_112 : decode cX13_laysLengths 112 = .ok (.ifCond .ne 15, 3) := by decide +kernel
theorem dX13_laysLengths_115 : decode cX13_laysLengths 115 = .ok (.aload_n 0, 1) := by decide +kernel
theorem dX13_laysLengths_116 : decode cX13_laysLengths 116 = .ok (.getfield 31, 3) := by decide +kernel
theorem dX13_laysLengths_119 : decode cX13_laysLengths 119 = .ok (.bipush 26, 2) := by decide +kernel
theorem dX13_laysLengths_121 : decode cX13_laysLengths 121 = .ok (.iload_n 2, 1) := by decide +kernel
theorem dX13_laysLengths_122 : decode cX13_laysLengths 122 = .ok (.iadd, 1) := by decide +kernel
theorem dX13_laysLengths_123 : decode cX13_laysLengths 123 = .ok (.iaload, 1) := by decide +kernel
theorem dX13_laysLengths_124 : decode cX13_laysLengths 124 = .ok (.ifCond .le 7, 3) := by decide +kernel
theorem dX13_laysLengths_127 : decode cX13_laysLengths 127 = .ok (.iconst 1, 1) := by decide +kernel
theorem dX13_laysLengths_128 : decode cX13_laysLengths 128 = .ok (.goto 4, 3) := by decide +kernel
theorem dX13_laysLengths_131 : decode cX13_laysLengths 131 = .ok (.iconst 0, 1) := by decide +kernel
theorem dX13_laysLengths_132 : decode cX13_laysLengths 132 = .ok (.istore_n 1, 1) := by decide +kernel
theorem dX13_laysLengths_133 : decode cX13_laysLengths 133 = .ok (.iinc 2 1, 3) := by decide +kernel
theorem dX13_laysLengths_136 : decode cX13_laysLengths 136 = .ok (.goto (-85), 3) := by decide +kernel
theorem dX13_laysLengths_139 : decode cX13_laysLengths 139 = .ok (.goto (-96), 3) := by decide +kernel
theorem dX13_laysLengths_142 : decode cX13_laysLengths 142 = .ok (.return_, 1) := by decide +kernel
theorem dX13_textLong_0 : decode cX13_textLong 0 = .ok (.aload_n 0, 1) := by decide +kernel
theorem dX13_textLong_1 : decode cX13_textLong 1 = .ok (.invokevirtual 137, 3) := by decide +kernel
theorem dX13_textLong_4 : decode cX13_textLong 4 = .ok (.aload_n 0, 1) := by decide +kernel
theorem dX13_textLong_5 : decode cX13_textLong 5 = .ok (.iconst 0, 1) := by decide +kernel
theorem dX13_textLong_6 : decode cX13_textLong 6 = .ok (.invokevirtual 134, 3) := by decide +kernel
theorem dX13_textLong_9 : decode cX13_textLong 9 = .ok (.ireturn, 1) := by decide +kernel
theorem dX13_unfolds_0 : decode cX13_unfolds 0 = .ok (.iconst 0, 1) := by decide +kernel
theorem dX13_unfolds_1 : decode cX13_unfolds 1 = .ok (.istore_n 1, 1) := by decide +kernel
theorem dX13_unfolds_2 : decode cX13_unfolds 2 = .ok (.iconst 0, 1) := by decide +kernel
theorem dX13_unfolds_3 : decode cX13_unfolds 3 = .ok (.istore_n 2, 1) := by decide +kernel
theorem dX13_unfolds_4 : decode cX13_unfolds 4 = .ok (.iload_n 2, 1) := by decide +kernel
theorem dX13_unfolds_5 : decode cX13_unfolds 5 = .ok (.aload_n 0, 1) := by decide +kernel
theorem dX13_unfolds_6 : decode cX13_unfolds 6 = .ok (.iconst 0, 1) := by decide +kernel
theorem dX13_unfolds_7 : decode cX13_unfolds 7 = .ok (.invokevirtual 103, 3) := by decide +kernel
theorem dX13_unfolds_10 : decode cX13_unfolds 10 = .ok (.if_icmp .ge 189, 3) := by decide +kernel
theorem dX13_unfolds_13 : decode cX13_unfolds 13 = .ok (.iconst 0, 1) := by decide +kernel
theorem dX13_unfolds_14 : decode cX13_unfolds 14 = .ok (.istore_n 3, 1) := by decide +kernel
theorem dX13_unfolds_15 : decode cX13_unfolds 15 = .ok (.aload_n 0, 1) := by decide +kernel
theorem dX13_unfolds_16 : decode cX13_unfolds 16 = .ok (.getfield 43, 3) := by decide +kernel
theorem dX13_unfolds_19 : decode cX13_unfolds 19 = .ok (.iconst 0, 1) := by decide +kernel
theorem dX13_unfolds_20 : decode cX13_unfolds 20 = .ok (.iconst 0, 1) := by decide +kernel
theorem dX13_unfolds_21 : decode cX13_unfolds 21 = .ok (.iastore, 1) := by decide +kernel
theorem dX13_unfolds_22 : decode cX13_unfolds 22 = .ok (.aload_n 0, 1) := by decide +kernel
theorem dX13_unfolds_23 : decode cX13_unfolds 23 = .ok (.getfield 46, 3) := by decide +kernel
theorem dX13_unfolds_26 : decode cX13_unfolds 26 = .ok (.iconst 0, 1) := by decide +kernel
theorem dX13_unfolds_27 : decode cX13_unfolds 27 = .ok (.iload_n 2, 1) := by decide +kernel
theorem dX13_unfolds_28 : decode cX13_unfolds 28 = .ok (.iastore, 1) := by decide +kernel
theorem dX13_unfolds_29 : decode cX13_unfolds 29 = .ok (.iload_n 3, 1) := by decide +kernel
theorem dX13_unfolds_30 : decode cX13_unfolds 30 = .ok (.ifCond .lt 163, 3) := by decide +kernel
theorem dX13_unfolds_33 : decode cX13_unfolds 33 = .ok (.iload_n 3, 1) := by decide +kernel
theorem dX13_unfolds_34 : decode cX13_unfolds 34 = .ok (.ifCond .le 26, 3) := by decide +kernel
theorem dX13_unfolds_37 : decode cX13_unfolds 37 = .ok (.aload_n 0, 1) := by decide +kernel
theorem dX13_unfolds_38 : decode cX13_unfolds 38 = .ok (.getfield 46, 3) := by decide +kernel
theorem dX13_unfolds_41 : decode cX13_unfolds 41 = .ok (.iload_n 3, 1) := by decide +kernel
theorem dX13_unfolds_42 : decode cX13_unfolds 42 = .ok (.iaload, 1) := by decide +kernel
theorem dX13_unfolds_43 : decode cX13_unfolds 43 = .ok (.aload_n 0, 1) := by decide +kernel
theorem dX13_unfolds_44 : decode cX13_unfolds 44 = .ok (.aload_n 0, 1) := by decide +kernel
theorem dX13_unfolds_45 : decode cX13_unfolds 45 = .ok (.getfield 43, 3) := by decide +kernel
theorem dX13_unfolds_48 : decode cX13_unfolds 48 = .ok (.iload_n 3, 1) := by decide +kernel
theorem dX13_unfolds_49 : decode cX13_unfolds 49 = .ok (.iaload, 1) := by decide +kernel
theorem dX13_unfolds_50 : decode cX13_unfolds 50 = .ok (.invokevirtual 103, 3) := by decide +kernel
theorem dX13_unfolds_53 : decode cX13_unfolds 53 = .ok (.if_icmp .ne 7, 3) := by decide +kernel
theorem dX13_unfolds_56 : decode cX13_unfolds 56 = .ok (.iconst 1, 1) := by decide +kernel
theorem dX13_unfolds_57 : decode cX13_unfolds 57 = .ok (.goto 4, 3) := by decide +kernel
theorem dX13_unfolds_60 : decode cX13_unfolds 60 = .ok (.iconst 0, 1) := by decide +kernel
theorem dX13_unfolds_61 : decode cX13_unfolds 61 = .ok (.istore 4, 2) := by decide +kernel
theorem dX13_unfolds_63 : decode cX13_unfolds 63 = .ok (.iload 4, 2) := by decide +kernel
theorem dX13_unfolds_65 : decode cX13_unfolds 65 = .ok (.ifCond .eq 7, 3) := by decide +kernel
theorem dX13_unfolds_68 : decode cX13_unfolds 68 = .ok (.iconst 0, 1) := by decide +kernel
theorem dX13_unfolds_69 : decode cX13_unfolds 69 = .ok (.goto 19, 3) := by decide +kernel
theorem dX13_unfolds_72 : decode cX13_unfolds 72 = .ok (.aload_n 0, 1) := by decide +kernel
theorem dX13_unfolds_73 : decode cX13_unfolds 73 = .ok (.aload_n 0, 1) := by decide +kernel
theorem dX13_unfolds_74 : decode cX13_unfolds 74 = .ok (.getfield 43, 3) := by decide +kernel
theorem dX13_unfolds_77 : decode cX13_unfolds 77 = .ok (.iload_n 3, 1) := by decide +kernel
theorem dX13_unfolds_78 : decode cX13_unfolds 78 = .ok (.iaload, 1) := by decide +kernel
theorem dX13_unfolds_79 : decode cX13_unfolds 79 = .ok (.aload_n 0, 1) := by decide +kernel
theorem dX13_unfolds_80 : decode cX13_unfolds 80 = .ok (.getfield 46, 3) := by decide +kernel
theorem dX13_unfolds_83 : decode cX13_unfolds 83 = .ok (.iload_n 3, 1) := by decide +kernel
theorem dX13_unfolds_84 : decode cX13_unfolds 84 = .ok (.iaload, 1) := by decide +kernel
theorem dX13_unfolds_85 : decode cX13_unfolds 85 = .ok (.invokevirtual 119, 3) := by decide +kernel
theorem dX13_unfolds_88 : decode cX13_unfolds 88 = .ok (.istore 5, 2) := by decide +kernel
theorem dX13_unfolds_90 : decode cX13_unfolds 90 = .ok (.iload 4, 2) := by decide +kernel
theorem dX13_unfolds_92 : decode cX13_unfolds 92 = .ok (.ifCond .eq 28, 3) := by decide +kernel
theorem dX13_unfolds_95 : decode cX13_unfolds 95 = .ok (.iinc 3 (-1), 3) := by decide +kernel
theorem dX13_unfolds_98 : decode cX13_unfolds 98 = .ok (.iload_n 3, 1) := by decide +kernel
theorem dX13_unfolds_99 : decode cX13_unfolds 99 = .ok (.ifCond .le 16, 3) := by decide +kernel
theorem dX13_unfolds_102 : decode cX13_unfolds 102 = .ok (.aload_n 0, 1) := by decide +kernel
theorem dX13_unfolds_103 : decode cX13_unfolds 103 = .ok (.getfield 46, 3) := by decide +kernel
theorem dX13_unfolds_106 : decode cX13_unfolds 106 = .ok (.iload_n 3, 1) := by decide +kernel
theorem dX13_unfolds_107 : decode cX13_unfolds 107 = .ok (.dup2, 1) := by decide +kernel
theorem dX13_unfolds_108 : decode cX13_unfolds 108 = .ok (.iaload, 1) := by decide +kernel
theorem dX13_unfolds_109 : decode cX13_unfolds 109 = .ok (.iconst 1, 1) := by decide +kernel
theorem dX13_unfolds_110 : decode cX13_unfolds 110 = .ok (.iadd, 1) := by decide +kernel
theorem dX13_unfolds_111 : decode cX13_unfolds 111 = .ok (.iastore, 1) := by decide +kernel
theorem dX13_unfolds_112 : decode cX13_unfolds 112 = .ok (.goto 78, 3) := by decide +kernel
theorem dX13_unfolds_115 : decode cX13_unfolds 115 = .ok (.iconst (-1), 1) := by decide +kernel
theorem dX13_unfolds_116 : decode cX13_unfolds 116 = .ok (.istore_n 3, 1) := by decide +kernel
theorem dX13_unfolds_117 : decode cX13_unfolds 117 = .ok (.goto 73, 3) := by decide +kernel
theorem dX13_unfolds_120 : decode cX13_unfolds 120 = .ok (.iload 5, 2) := by decide +kernel
theorem dX13_unfolds_122 : decode cX13_unfolds 122 = .ok (.bipush 26, 2) := by decide +kernel
theorem dX13_unfolds_124 : decode cX13_unfolds 124 = .ok (.if_icmp .ge 43, 3) := by decide +kernel
theorem dX13_unfolds_127 : decode cX13_unfolds 127 = .ok (.aload_n 0, 1) := by decide +kernel
theorem dX13_unfolds_128 : decode cX13_unfolds 128 = .ok (.getfield 37, 3) := by decide +kernel
theorem dX13_unfolds_131 : decode cX13_unfolds 131 = .ok (.iload_n 1, 1) := by decide +kernel
theorem dX13_unfolds_132 : decode cX13_unfolds 132 = .ok (.iload 5, 2) := by decide +kernel
theorem dX13_unfolds_134 : decode cX13_unfolds 134 = .ok (.iastore, 1) := by decide +kernel
theorem dX13_unfolds_135 : decode cX13_unfolds 135 = .ok (.aload_n 0, 1) := by decide +kernel
theorem dX13_unfolds_136 : decode cX13_unfolds 136 = .ok (.getfield 40, 3) := by decide +kernel
theorem dX13_unfolds_139 : decode cX13_unfolds 139 = .ok (.iload_n 1, 1) := by decide +kernel
theorem dX13_unfolds_140 : decode cX13_unfolds 140 = .ok (.iload_n 2, 1) := by decide +kernel
theorem dX13_unfolds_141 : decode cX13_unfolds 141 = .ok (.iastore, 1) := by decide +kernel
theorem dX13_unfolds_142 : decode cX13_unfolds 142 = .ok (.iinc 1 1, 3) := by decide +kernel
theorem dX13_unfolds_145 : decode cX13_unfolds 145 = .ok (.iload_n 3, 1) := by decide +kernel
theorem dX13_unfolds_146 : decode cX13_unfolds 146 = .ok (.ifCond .le 16, 3) := by decide +kernel
theorem dX13_unfolds_149 : decode cX13_unfolds 149 = .ok (.aload_n 0, 1) := by decide +kernel
theorem dX13_unfolds_150 : decode cX13_unfolds 150 = .ok (.getfield 46, 3) := by decide +kernel
theorem dX13_unfolds_153 : decode cX13_unfolds 153 = .ok (.iload_n 3, 1) := by decide +kernel
theorem dX13_unfolds_154 : decode cX13_unfolds 154 = .ok (.dup2, 1) := by decide +kernel
theorem dX13_unfolds_155 : decode cX13_unfolds 155 = .ok (.iaload, 1) := by decide +kernel
theorem dX13_unfolds_156 : decode cX13_unfolds 156 = .ok (.iconst 1, 1) := by decide +kernel
theorem dX13_unfolds_157 : decode cX13_unfolds 157 = .ok (.iadd, 1) := by decide +kernel
theorem dX13_unfolds_158 : decode cX13_unfolds 158 = .ok (.iastore, 1) := by decide +kernel
theorem dX13_unfolds_159 : decode cX13_unfolds 159 = .ok (.goto 31, 3) := by decide +kernel
theorem dX13_unfolds_162 : decode cX13_unfolds 162 = .ok (.iconst (-1), 1) := by decide +kernel
theorem dX13_unfolds_163 : decode cX13_unfolds 163 = .ok (.istore_n 3, 1) := by decide +kernel
theorem dX13_unfolds_164 : decode cX13_unfolds 164 = .ok (.goto 26, 3) := by decide +kernel
theorem dX13_unfolds_167 : decode cX13_unfolds 167 = .ok (.iinc 3 1, 3) := by decide +kernel
theorem dX13_unfolds_170 : decode cX13_unfolds 170 = .ok (.aload_n 0, 1) := by decide +kernel
theorem dX13_unfolds_171 : decode cX13_unfolds 171 = .ok (.getfield 43, 3) := by decide +kernel
theorem dX13_unfolds_174 : decode cX13_unfolds 174 = .ok (.iload_n 3, 1) := by decide +kernel
theorem dX13_unfolds_175 : decode cX13_unfolds 175 = .ok (.iload 5, 2) := by decide +kernel
theorem dX13_unfolds_177 : decode cX13_unfolds 177 = .ok (.bipush 26, 2) := by decide +kernel
theorem dX13_unfolds_179 : decode cX13_unfolds 179 = .ok (.isub, 1) := by decide +kernel
theorem dX13_unfolds_180 : decode cX13_unfolds 180 = .ok (.iconst 1, 1) := by decide +kernel
theorem dX13_unfolds_181 : decode cX13_unfolds 181 = .ok (.iadd, 1) := by decide +kernel
theorem dX13_unfolds_182 : decode cX13_unfolds 182 = .ok (.iastore, 1) := by decide +kernel
theorem dX13_unfolds_183 : decode cX13_unfolds 183 = .ok (.aload_n 0, 1) := by decide +kernel
theorem dX13_unfolds_184 : decode cX13_unfolds 184 = .ok (.getfield 46, 3) := by decide +kernel
theorem dX13_unfolds_187 : decode cX13_unfolds 187 = .ok (.iload_n 3, 1) := by decide +kernel
theorem dX13_unfolds_188 : decode cX13_unfolds 188 = .ok (.iconst 0, 1) := by decide +kernel
theorem dX13_unfolds_189 : decode cX13_unfolds 189 = .ok (.iastore, 1) := by decide +kernel
theorem dX13_unfolds_190 : decode cX13_unfolds 190 = .ok (.goto (-161), 3) := by decide +kernel
theorem dX13_unfolds_193 : decode cX13_unfolds 193 = .ok (.iinc 2 1, 3) := by decide +kernel
theorem dX13_unfolds_196 : decode cX13_unfolds 196 = .ok (.goto (-192), 3) := by decide +kernel
theorem dX13_unfolds_199 : decode cX13_unfolds 199 = .ok (.iload_n 1, 1) := by decide +kernel
theorem dX13_unfolds_200 : decode cX13_unfolds 200 = .ok (.ireturn, 1) := by decide +kernel
theorem dX13_tellsText_0 : decode cX13_tellsText 0 = .ok (.aload_n 0, 1) := by decide +kernel
theorem dX13_tellsText_1 : decode cX13_tellsText 1 = .ok (.getfield 9, 3) := by decide +kernel
theorem dX13_tellsText_4 : decode cX13_tellsText 4 = .ok (.iconst 3, 1) := by decide +kernel
theorem dX13_tellsText_5 : decode cX13_tellsText 5 = .ok (.aload_n 0, 1) := by decide +kernel
theorem dX13_tellsText_6 : decode cX13_tellsText 6 = .ok (.invokevirtual 140, 3) := by decide +kernel
theorem dX13_tellsText_9 : decode cX13_tellsText 9 = .ok (.iastore, 1) := by decide +kernel
theorem dX13_tellsText_10 : decode cX13_tellsText 10 = .ok (.iconst 0, 1) := by decide +kernel
theorem dX13_tellsText_11 : decode cX13_tellsText 11 = .ok (.istore_n 1, 1) := by decide +kernel
theorem dX13_tellsText_12 : decode cX13_tellsText 12 = .ok (.iload_n 1, 1) := by decide +kernel
theorem dX13_tellsText_13 : decode cX13_tellsText 13 = .ok (.aload_n 0, 1) := by decide +kernel
theorem dX13_tellsText_14 : decode cX13_tellsText 14 = .ok (.getfield 9, 3) := by decide +kernel
theorem dX13_tellsText_17 : decode cX13_tellsText 17 = .ok (.iconst 3, 1) := by decide +kernel
theorem dX13_tellsText_18 : decode cX13_tellsText 18 = .ok (.iaload, 1) := by decide +kernel
theorem dX13_tellsText_19 : decode cX13_tellsText 19 = .ok (.if_icmp .ge 25, 3) := by decide +kernel
theorem dX13_tellsText_22 : decode cX13_tellsText 22 = .ok (.aload_n 0, 1) := by decide +kernel
theorem dX13_tellsText_23 : decode cX13_tellsText 23 = .ok (.getfield 9, 3) := by decide +kernel
theorem dX13_tellsText_26 : decode cX13_tellsText 26 = .ok (.sipush 16460, 3) := by decide +kernel
theorem dX13_tellsText_29 : decode cX13_tellsText 29 = .ok (.iload_n 1, 1) := by decide +kernel
theorem dX13_tellsText_30 : decode cX13_tellsText 30 = .ok (.iadd, 1) := by decide +kernel
theorem dX13_tellsText_31 : decode cX13_tellsText 31 = .ok (.aload_n 0, 1) := by decide +kernel
theorem dX13_tellsText_32 : decode cX13_tellsText 32 = .ok (.getfield 37, 3) := by decide +kernel
theorem dX13_tellsText_35 : decode cX13_tellsText 35 = .ok (.iload_n 1, 1) := by decide +kernel
theorem dX13_tellsText_36 : decode cX13_tellsText 36 = .ok (.iaload, 1) := by decide +kernel
theorem dX13_tellsText_37 : decode cX13_tellsText 37 = .ok (.iastore, 1) := by decide +kernel
theorem dX13_tellsText_38 : decode cX13_tellsText 38 = .ok (.iinc 1 1, 3) := by decide +kernel
theorem dX13_tellsText_41 : decode cX13_tellsText 41 = .ok (.goto (-29), 3) := by decide +kernel
theorem dX13_tellsText_44 : decode cX13_tellsText 44 = .ok (.aload_n 0, 1) := by decide +kernel
theorem dX13_tellsText_45 : decode cX13_tellsText 45 = .ok (.getfield 9, 3) := by decide +kernel
theorem dX13_tellsText_48 : decode cX13_tellsText 48 = .ok (.iconst 4, 1) := by decide +kernel
theorem dX13_tellsText_49 : decode cX13_tellsText 49 = .ok (.aload_n 0, 1) := by decide +kernel
theorem dX13_tellsText_50 : decode cX13_tellsText 50 = .ok (.invokevirtual 144, 3) := by decide +kernel
theorem dX13_tellsText_53 : decode cX13_tellsText 53 = .ok (.iastore, 1) := by decide +kernel
theorem dX13_tellsText_54 : decode cX13_tellsText 54 = .ok (.return_, 1) := by decide +kernel
theorem dX13_pair_0 : decode cX13_pair 0 = .ok (.bipush 66, 2) := by decide +kernel
theorem dX13_pair_2 : decode cX13_pair 2 = .ok (.iload_n 0, 1) := by decide +kernel
theorem dX13_pair_3 : decode cX13_pair 3 = .ok (.imul, 1) := by decide +kernel
theorem dX13_pair_4 : decode cX13_pair 4 = .ok (.iload_n 1, 1) := by decide +kernel
theorem dX13_pair_5 : decode cX13_pair 5 = .ok (.iadd, 1) := by decide +kernel
theorem dX13_pair_6 : decode cX13_pair 6 = .ok (.ireturn, 1) := by decide +kernel
theorem dX13_isAlone_0 : decode cX13_isAlone 0 = .ok (.iload_n 1, 1) := by decide +kernel
theorem dX13_isAlone_1 : decode cX13_isAlone 1 = .ok (.ifCond .le 16, 3) := by decide +kernel
theorem dX13_isAlone_4 : decode cX13_isAlone 4 = .ok (.aload_n 0, 1) := by decide +kernel
theorem dX13_isAlone_5 : decode cX13_isAlone 5 = .ok (.iload_n 1, 1) := by decide +kernel
theorem dX13_isAlone_6 : decode cX13_isAlone 6 = .ok (.invokevirtual 103, 3) := by decide +kernel
theorem dX13_isAlone_9 : decode cX13_isAlone 9 = .ok (.iconst 2, 1) := by decide +kernel
theorem dX13_isAlone_10 : decode cX13_isAlone 10 = .ok (.if_icmp .ne 7, 3) := by decide +kernel
theorem dX13_isAlone_13 : decode cX13_isAlone 13 = .ok (.iconst 1, 1) := by decide +kernel
theorem dX13_isAlone_14 : decode cX13_isAlone 14 = .ok (.goto 4, 3) := by decide +kernel
theorem dX13_isAlone_17 : decode cX13_isAlone 17 = .ok (.iconst 0, 1) := by decide +kernel
theorem dX13_isAlone_18 : decode cX13_isAlone 18 = .ok (.ireturn, 1) := by decide +kernel
theorem dX13_countsIn_0 : decode cX13_countsIn 0 = .ok (.iconst 0, 1) := by decide +kernel
theorem dX13_countsIn_1 : decode cX13_countsIn 1 = .ok (.istore_n 2, 1) := by decide +kernel
theorem dX13_countsIn_2 : decode cX13_countsIn 2 = .ok (.iconst 0, 1) := by decide +kernel
theorem dX13_countsIn_3 : decode cX13_countsIn 3 = .ok (.istore_n 3, 1) := by decide +kernel
theorem dX13_countsIn_4 : decode cX13_countsIn 4 = .ok (.iload_n 3, 1) := by decide +kernel
theorem dX13_countsIn_5 : decode cX13_countsIn 5 = .ok (.iconst 1, 1) := by decide +kernel
theorem dX13_countsIn_6 : decode cX13_countsIn 6 = .ok (.iadd, 1) := by decide +kernel
theorem dX13_countsIn_7 : decode cX13_countsIn 7 = .ok (.aload_n 0, 1) := by decide +kernel
theorem dX13_countsIn_8 : decode cX13_countsIn 8 = .ok (.iload_n 1, 1) := by decide +kernel
theorem dX13_countsIn_9 : decode cX13_countsIn 9 = .ok (.invokevirtual 103, 3) := by decide +kernel
theorem dX13_countsIn_12 : decode cX13_countsIn 12 = .ok (.if_icmp .ge 121, 3) := by decide +kernel
theorem dX13_countsIn_15 : decode cX13_countsIn 15 = .ok (.aload_n 0, 1) := by decide +kernel
theorem dX13_countsIn_16 : decode cX13_countsIn 16 = .ok (.iload_n 1, 1) := by decide +kernel
theorem dX13_countsIn_17 : decode cX13_countsIn 17 = .ok (.iload_n 3, 1) := by decide +kernel
theorem dX13_countsIn_18 : decode cX13_countsIn 18 = .ok (.invokevirtual 119, 3) := by decide +kernel
theorem dX13_countsIn_21 : decode cX13_countsIn 21 = .ok (.istore 4, 2) := by decide +kernel
theorem dX13_countsIn_23 : decode cX13_countsIn 23 = .ok (.aload_n 0, 1) := by decide +kernel
theorem dX13_countsIn_24 : decode cX13_countsIn 24 = .ok (.iload_n 1, 1) := by decide +kernel
theorem dX13_countsIn_25 : decode cX13_countsIn 25 = .ok (.iload_n 3, 1) := by decide +kernel
theorem dX13_countsIn_26 : decode cX13_countsIn 26 = .ok (.iconst 1, 1) := by decide +kernel
theorem dX13_countsIn_27 : decode cX13_countsIn 27 = .ok (.iadd, 1) := by decide +kernel
theorem dX13_countsIn_28 : decode cX13_countsIn 28 = .ok (.invokevirtual 119, 3) := by decide +kernel
theorem dX13_countsIn_31 : decode cX13_countsIn 31 = .ok (.istore 5, 2) := by decide +kernel
theorem dX13_countsIn_33 : decode cX13_countsIn 33 = .ok (.iload 4, 2) := by decide +kernel
theorem dX13_countsIn_35 : decode cX13_countsIn 35 = .ok (.iload 5, 2) := by decide +kernel
theorem dX13_countsIn_37 : decode cX13_countsIn 37 = .ok (.if_icmp .ne 20, 3) := by decide +kernel
theorem dX13_countsIn_40 : decode cX13_countsIn 40 = .ok (.iload_n 2, 1) := by decide +kernel
theorem dX13_countsIn_41 : decode cX13_countsIn 41 = .ok (.ifCond .eq 16, 3) := by decide +kernel
theorem dX13_countsIn_44 : decode cX13_countsIn 44 = .ok (.aload_n 0, 1) := by decide +kernel
theorem dX13_countsIn_45 : decode cX13_countsIn 45 = .ok (.iload_n 1, 1) := by decide +kernel
theorem dX13_countsIn_46 : decode cX13_countsIn 46 = .ok (.iload_n 3, 1) := by decide +kernel
theorem dX13_countsIn_47 : decode cX13_countsIn 47 = .ok (.iconst 1, 1) := by decide +kernel
theorem dX13_countsIn_48 : decode cX13_countsIn 48 = .ok (.isub, 1) := by decide +kernel
theorem dX13_countsIn_49 : decode cX13_countsIn 49 = .ok (.invokevirtual 119, 3) := by decide +kernel
theorem dX13_countsIn_52 : decode cX13_countsIn 52 = .ok (.iload 4, 2) := by decide +kernel
theorem dX13_countsIn_54 : decode cX13_countsIn 54 = .ok (.if_icmp .eq 7, 3) := by decide +kernel
theorem dX13_countsIn_57 : decode cX13_countsIn 57 = .ok (.iconst 1, 1) := by decide +kernel
theorem dX13_countsIn_58 : decode cX13_countsIn 58 = .ok (.goto 4, 3) := by decide +kernel
theorem dX13_countsIn_61 : decode cX13_countsIn 61 = .ok (.iconst 0, 1) := by decide +kernel
theorem dX13_countsIn_62 : decode cX13_countsIn 62 = .ok (.istore_n 2, 1) := by decide +kernel
theorem dX13_countsIn_63 : decode cX13_countsIn 63 = .ok (.iload_n 2, 1) := by decide +kernel
theorem dX13_countsIn_64 : decode cX13_countsIn 64 = .ok (.ifCond .ne 6, 3) := by decide +kernel
theorem dX13_countsIn_67 : decode cX13_countsIn 67 = .ok (.goto 60, 3) := by decide +kernel
theorem dX13_countsIn_70 : decode cX13_countsIn 70 = .ok (.aload_n 0, 1) := by decide +kernel
theorem dX13_countsIn_71 : decode cX13_countsIn 71 = .ok (.getfield 49, 3) := by decide +kernel
theorem dX13_countsIn_74 : decode cX13_countsIn 74 = .ok (.iload 4, 2) := by decide +kernel
theorem dX13_countsIn_76 : decode cX13_countsIn 76 = .ok (.iload 5, 2) := by decide +kernel
theorem dX13_countsIn_78 : decode cX13_countsIn 78 = .ok (.invokestatic 147, 3) := by decide +kernel
theorem dX13_countsIn_81 : decode cX13_countsIn 81 = .ok (.iaload, 1) := by decide +kernel
theorem dX13_countsIn_82 : decode cX13_countsIn 82 = .ok (.ifCond .ne 19, 3) := by decide +kernel
theorem dX13_countsIn_85 : decode cX13_countsIn 85 = .ok (.aload_n 0, 1) := by decide +kernel
theorem dX13_countsIn_86 : decode cX13_countsIn 86 = .ok (.getfield 52, 3) := by decide +kernel
theorem dX13_countsIn_89 : decode cX13_countsIn 89 = .ok (.iload 4, 2) := by decide +kernel
theorem dX13_countsIn_91 : decode cX13_countsIn 91 = .ok (.iload 5, 2) := by decide +kernel
theorem dX13_countsIn_93 : decode cX13_countsIn 93 = .ok (.invokestatic 147, 3) := by decide +kernel
theorem dX13_countsIn_96 : decode cX13_countsIn 96 = .ok (.aload_n 0, 1) := by decide +kernel
theorem dX13_countsIn_97 : decode cX13_countsIn 97 = .ok (.getfield 150, 3) := by decide +kernel
theorem dX13_countsIn_100 : decode cX13_countsIn 100 = .ok (.iastore, 1) := by decide +kernel
theorem dX13_countsIn_101 : decode cX13_countsIn 101 = .ok (.aload_n 0, 1) := by decide +kernel
theorem dX13_countsIn_102 : decode cX13_countsIn 102 = .ok (.dup, 1) := by decide +kernel
theorem dX13_countsIn_103 : decode cX13_countsIn 103 = .ok (.getfield 150, 3) := by decide +kernel
theorem dX13_countsIn_106 : decode cX13_countsIn 106 = .ok (.iconst 1, 1) := by decide +kernel
theorem dX13_countsIn_107 : decode cX13_countsIn 107 = .ok (.iadd, 1) := by decide +kernel
theorem dX13_countsIn_108 : decode cX13_countsIn 108 = .ok (.putfield 150, 3) := by decide +kernel
theorem dX13_countsIn_111 : decode cX13_countsIn 111 = .ok (.aload_n 0, 1) := by decide +kernel
theorem dX13_countsIn_112 : decode cX13_countsIn 112 = .ok (.getfield 49, 3) := by decide +kernel
theorem dX13_countsIn_115 : decode cX13_countsIn 115 = .ok (.iload 4, 2) := by decide +kernel
theorem dX13_countsIn_117 : decode cX13_countsIn 117 = .ok (.iload 5, 2) := by decide +kernel
theorem dX13_countsIn_119 : decode cX13_countsIn 119 = .ok (.invokestatic 147, 3) := by decide +kernel
theorem dX13_countsIn_122 : decode cX13_countsIn 122 = .ok (.dup2, 1) := by decide +kernel
theorem dX13_countsIn_123 : decode cX13_countsIn 123 = .ok (.iaload, 1) := by decide +kernel
theorem dX13_countsIn_124 : decode cX13_countsIn 124 = .ok (.iconst 1, 1) := by decide +kernel
theorem dX13_countsIn_125 : decode cX13_countsIn 125 = .ok (.iadd, 1) := by decide +kernel
theorem dX13_countsIn_126 : decode cX13_countsIn 126 = .ok (.iastore, 1) := by decide +kernel
theorem dX13_countsIn_127 : decode cX13_countsIn 127 = .ok (.iinc 3 1, 3) := by decide +kernel
theorem dX13_countsIn_130 : decode cX13_countsIn 130 = .ok (.goto (-126), 3) := by decide +kernel
theorem dX13_countsIn_133 : decode cX13_countsIn 133 = .ok (.return_, 1) := by decide +kernel
theorem dX13_laysPairs_0 : decode cX13_laysPairs 0 = .ok (.iconst 0, 1) := by decide +kernel
theorem dX13_laysPairs_1 : decode cX13_laysPairs 1 = .ok (.istore_n 1, 1) := by decide +kernel
theorem dX13_laysPairs_2 : decode cX13_laysPairs 2 = .ok (.iload_n 1, 1) := by decide +kernel
theorem dX13_laysPairs_3 : decode cX13_laysPairs 3 = .ok (.sipush 4356, 3) := by decide +kernel
theorem dX13_laysPairs_6 : decode cX13_laysPairs 6 = .ok (.if_icmp .ge 23, 3) := by decide +kernel
theorem dX13_laysPairs_9 : decode cX13_laysPairs 9 = .ok (.aload_n 0, 1) := by decide +kernel
theorem dX13_laysPairs_10 : decode cX13_laysPairs 10 = .ok (.getfield 49, 3) := by decide +kernel
theorem dX13_laysPairs_13 : decode cX13_laysPairs 13 = .ok (.iload_n 1, 1) := by decide +kernel
theorem dX13_laysPairs_14 : decode cX13_laysPairs 14 = .ok (.iconst 0, 1) := by decide +kernel
theorem dX13_laysPairs_15 : decode cX13_laysPairs 15 = .ok (.iastore, 1) := by decide +kernel
theorem dX13_laysPairs_16 : decode cX13_laysPairs 16 = .ok (.aload_n 0, 1) := by decide +kernel
theorem dX13_laysPairs_17 : decode cX13_laysPairs 17 = .ok (.getfield 55, 3) := by decide +kernel
theorem dX13_laysPairs_20 : decode cX13_laysPairs 20 = .ok (.iload_n 1, 1) := by decide +kernel
theorem dX13_laysPairs_21 : decode cX13_laysPairs 21 = .ok (.iconst (-1), 1) := by decide +kernel
theorem dX13_laysPairs_22 : decode cX13_laysPairs 22 = .ok (.iastore, 1) := by decide +kernel
theorem dX13_laysPairs_23 : decode cX13_laysPairs 23 = .ok (.iinc 1 1, 3) := by decide +kernel
theorem dX13_laysPairs_26 : decode cX13_laysPairs 26 = .ok (.goto (-24), 3) := by decide +kernel
theorem dX13_laysPairs_29 : decode cX13_laysPairs 29 = .ok (.aload_n 0, 1) := by decide +kernel
theorem dX13_laysPairs_30 : decode cX13_laysPairs 30 = .ok (.iconst 0, 1) := by decide +kernel
theorem dX13_laysPairs_31 : decode cX13_laysPairs 31 = .ok (.putfield 150, 3) := by decide +kernel
theorem dX13_laysPairs_34 : decode cX13_laysPairs 34 = .ok (.iconst 0, 1) := by decide +kernel
theorem dX13_laysPairs_35 : decode cX13_laysPairs 35 = .ok (.istore_n 1, 1) := by decide +kernel
theorem dX13_laysPairs_36 : decode cX13_laysPairs 36 = .ok (.iload_n 1, 1) := by decide +kernel
theorem dX13_laysPairs_37 : decode cX13_laysPairs 37 = .ok (.bipush 41, 2) := by decide +kernel
theorem dX13_laysPairs_39 : decode cX13_laysPairs 39 = .ok (.if_icmp .ge 69, 3) := by decide +kernel
theorem dX13_laysPairs_42 : decode cX13_laysPairs 42 = .ok (.aload_n 0, 1) := by decide +kernel
theorem dX13_laysPairs_43 : decode cX13_laysPairs 43 = .ok (.iload_n 1, 1) := by decide +kernel
theorem dX13_laysPairs_44 : decode cX13_laysPairs 44 = .ok (.invokevirtual 153, 3) := by decide +kernel
theorem dX13_laysPairs_47 : decode cX13_laysPairs 47 = .ok (.ifCond .eq 21, 3) := by decide +kernel
theorem dX13_laysPairs_50 : decode cX13_laysPairs 50 = .ok (.aload_n 0, 1) := by decide +kernel
theorem dX13_laysPairs_51 : decode cX13_laysPairs 51 = .ok (.iload_n 1, 1) := by decide +kernel
theorem dX13_laysPairs_52 : decode cX13_laysPairs 52 = .ok (.iconst 0, 1) := by decide +kernel
theorem dX13_laysPairs_53 : decode cX13_laysPairs 53 = .ok (.invokevirtual 119, 3) := by decide +kernel
theorem dX13_laysPairs_56 : decode cX13_laysPairs 56 = .ok (.aload_n 0, 1) := by decide +kernel
theorem dX13_laysPairs_57 : decode cX13_laysPairs 57 = .ok (.iload_n 1, 1) := by decide +kernel
theorem dX13_laysPairs_58 : decode cX13_laysPairs 58 = .ok (.iconst 1, 1) := by decide +kernel
theorem dX13_laysPairs_59 : decode cX13_laysPairs 59 = .ok (.invokevirtual 119, 3) := by decide +kernel
theorem dX13_laysPairs_62 : decode cX13_laysPairs 62 = .ok (.invokestatic 147, 3) := by decide +kernel
theorem dX13_laysPairs_65 : decode cX13_laysPairs 65 = .ok (.goto 4, 3) := by decide +kernel
theorem dX13_laysPairs_68 : decode cX13_laysPairs 68 = .ok (.iconst (-1), 1) := by decide +kernel
theorem dX13_laysPairs_69 : decode cX13_laysPairs 69 = .ok (.istore_n 2, 1) := by decide +kernel
theorem dX13_laysPairs_70 : decode cX13_laysPairs 70 = .ok (.iload_n 2, 1) := by decide +kernel
theorem dX13_laysPairs_71 : decode cX13_laysPairs 71 = .ok (.iconst (-1), 1) := by decide +kernel
theorem dX13_laysPairs_72 : decode cX13_laysPairs 72 = .ok (.if_icmp .ne 11, 3) := by decide +kernel
theorem dX13_laysPairs_75 : decode cX13_laysPairs 75 = .ok (.aload_n 0, 1) := by decide +kernel
theorem dX13_laysPairs_76 : decode cX13_laysPairs 76 = .ok (.iload_n 1, 1) := by decide +kernel
theorem dX13_laysPairs_77 : decode cX13_laysPairs 77 = .ok (.invokevirtual 156, 3) := by decide +kernel
theorem dX13_laysPairs_80 : decode cX13_laysPairs 80 = .ok (.goto 22, 3) := by decide +kernel
theorem dX13_laysPairs_83 : decode cX13_laysPairs 83 = .ok (.aload_n 0, 1) := by decide +kernel
theorem dX13_laysPairs_84 : decode cX13_laysPairs 84 = .ok (.getfield 55, 3) := by decide +kernel
theorem dX13_laysPairs_87 : decode cX13_laysPairs 87 = .ok (.iload_n 2, 1) := by decide +kernel
theorem dX13_laysPairs_88 : decode cX13_laysPairs 88 = .ok (.iaload, 1) := by decide +kernel
theorem dX13_laysPairs_89 : decode cX13_laysPairs 89 = .ok (.iconst (-1), 1) := by decide +kernel
theorem dX13_laysPairs_90 : decode cX13_laysPairs 90 = .ok (.if_icmp .ne 12, 3) := by decide +kernel
theorem dX13_laysPairs_93 : decode cX13_laysPairs 93 = .ok (.aload_n 0, 1) := by decide +kernel
theorem dX13_laysPairs_94 : decode cX13_laysPairs 94 = .ok (.getfield 55, 3) := by decide +kernel
theorem dX13_laysPairs_97 : decode cX13_laysPairs 97 = .ok (.iload_n 2, 1) := by decide +kernel
theorem dX13_laysPairs_98 : decode cX13_laysPairs 98 = .ok (.iload_n 1, 1) := by decide +kernel
theorem dX13_laysPairs_99 : decode cX13_laysPairs 99 = .ok (.iconst 1, 1) := by decide +kernel
theorem dX13_laysPairs_100 : decode cX13_laysPairs 100 = .ok (.isub, 1) := by decide +kernel
theorem dX13_laysPairs_101 : decode cX13_laysPairs 101 = .ok (.iastore, 1) := by decide +kernel
theorem dX13_laysPairs_102 : decode cX13_laysPairs 102 = .ok (.iinc 1 1, 3) := by decide +kernel
theorem dX13_laysPairs_105 : decode cX13_laysPairs 105 = .ok (.goto (-69), 3) := by decide +kernel
theorem dX13_laysPairs_108 : decode cX13_laysPairs 108 = .ok (.return_, 1) := by decide +kernel
theorem dX13_isWorth_0 : decode cX13_isWorth 0 = .ok (.aload_n 0, 1) := by decide +kernel
theorem dX13_isWorth_1 : decode cX13_isWorth 1 = .ok (.getfield 55, 3) := by decide +kernel
theorem dX13_isWorth_4 : decode cX13_isWorth 4 = .ok (.iload_n 1, 1) := by decide +kernel
theorem dX13_isWorth_5 : decode cX13_isWorth 5 = .ok (.iaload, 1) := by decide +kernel
theorem dX13_isWorth_6 : decode cX13_isWorth 6 = .ok (.iconst (-1), 1) := by decide +kernel
theorem dX13_isWorth_7 : decode cX13_isWorth 7 = .ok (.if_icmp .eq 20, 3) := by decide +kernel
theorem dX13_isWorth_10 : decode cX13_isWorth 10 = .ok (.aload_n 0, 1) := by decide +kernel
theorem dX13_isWorth_11 : decode cX13_isWorth 11 = .ok (.getfield 49, 3) := by decide +kernel
theorem dX13_isWorth_14 : decode cX13_isWorth 14 = .ok (.iload_n 1, 1) := by decide +kernel
theorem dX13_isWorth_15 : decode cX13_isWorth 15 = .ok (.iaload, 1) := by decide +kernel
theorem dX13_isWorth_16 : decode cX13_isWorth 16 = .ok (.ifCond .le 7, 3) := by decide +kernel
theorem dX13_isWorth_19 : decode cX13_isWorth 19 = .ok (.iconst 1, 1) := by decide +kernel
theorem dX13_isWorth_20 : decode cX13_isWorth 20 = .ok (.goto 32, 3) := by decide +kernel
theorem dX13_isWorth_23 : decode cX13_isWorth 23 = .ok (.iconst 0, 1) := by decide +kernel
theorem dX13_isWorth_24 : decode cX13_isWorth 24 = .ok (.goto 28, 3) := by decide +kernel
theorem dX13_isWorth_27 : decode cX13_isWorth 27 = .ok (.aload_n 0, 1) := by decide +kernel
theorem dX13_isWorth_28 : decode cX13_isWorth 28 = .ok (.getfield 49, 3) := by decide +kernel
theorem dX13_isWorth_31 : decode cX13_isWorth 31 = .ok (.iload_n 1, 1) := by decide +kernel
theorem dX13_isWorth_32 : decode cX13_isWorth 32 = .ok (.iaload, 1) := by decide +kernel
theorem dX13_isWorth_33 : decode cX13_isWorth 33 = .ok (.aload_n 0, 1) := by decide +kernel
theorem dX13_isWorth_34 : decode cX13_isWorth 34 = .ok (.getfield 9, 3) := by decide +kernel
theorem dX13_isWorth_37 : decode cX13_isWorth 37 = .ok (.iconst 0, 1) := by decide +kernel
theorem dX13_isWorth_38 : decode cX13_isWorth 38 = .ok (.iaload, 1) := by decide +kernel
theorem dX13_isWorth_39 : decode cX13_isWorth 39 = .ok (.if_icmp .lt 12, 3) := by decide +kernel
theorem dX13_isWorth_42 : decode cX13_isWorth 42 = .ok (.iload_n 2, 1) := by decide +kernel
theorem dX13_isWorth_43 : decode cX13_isWorth 43 = .ok (.iconst (-1), 1) := by decide +kernel
theorem dX13_isWorth_44 : decode cX13_isWorth 44 = .ok (.if_icmp .eq 7, 3) := by decide +kernel
theorem dX13_isWorth_47 : decode cX13_isWorth 47 = .ok (.iconst 1, 1) := by decide +kernel
theorem dX13_isWorth_48 : decode cX13_isWorth 48 = .ok (.goto 4, 3) := by decide +kernel
theorem dX13_isWorth_51 : decode cX13_isWorth 51 = .ok (.iconst 0, 1) := by decide +kernel
theorem dX13_isWorth_52 : decode cX13_isWorth 52 = .ok (.ireturn, 1) := by decide +kernel
theorem dX13_isAhead_0 : decode cX13_isAhead 0 = .ok (.aload_n 0, 1) := by decide +kernel
theorem dX13_isAhead_1 : decode cX13_isAhead 1 = .ok (.getfield 49, 3) := by decide +kernel
theorem dX13_isAhead_4 : decode cX13_isAhead 4 = .ok (.iload_n 1, 1) := by decide +kernel
theorem dX13_isAhead_5 : decode cX13_isAhead 5 = .ok (.iaload, 1) := by decide +kernel
theorem dX13_isAhead_6 : decode cX13_isAhead 6 = .ok (.aload_n 0, 1) := by decide +kernel
theorem dX13_isAhead_7 : decode cX13_isAhead 7 = .ok (.getfield 49, 3) := by decide +kernel
theorem dX13_isAhead_10 : decode cX13_isAhead 10 = .ok (.iload_n 2, 1) := by decide +kernel
theorem dX13_isAhead_11 : decode cX13_isAhead 11 = .ok (.iaload, 1) := by decide +kernel
theorem dX13_isAhead_12 : decode cX13_isAhead 12 = .ok (.if_icmp .eq 24, 3) := by decide +kernel
theorem dX13_isAhead_15 : decode cX13_isAhead 15 = .ok (.aload_n 0, 1) := by decide +kernel
theorem dX13_isAhead_16 : decode cX13_isAhead 16 = .ok (.getfield 49, 3) := by decide +kernel
theorem dX13_isAhead_19 : decode cX13_isAhead 19 = .ok (.iload_n 1, 1) := by decide +kernel
theorem dX13_isAhead_20 : decode cX13_isAhead 20 = .ok (.iaload, 1) := by decide +kernel
theorem dX13_isAhead_21 : decode cX13_isAhead 21 = .ok (.aload_n 0, 1) := by decide +kernel
theorem dX13_isAhead_22 : decode cX13_isAhead 22 = .ok (.getfield 49, 3) := by decide +kernel
theorem dX13_isAhead_25 : decode cX13_isAhead 25 = .ok (.iload_n 2, 1) := by decide +kernel
theorem dX13_isAhead_26 : decode cX13_isAhead 26 = .ok (.iaload, 1) := by decide +kernel
theorem dX13_isAhead_27 : decode cX13_isAhead 27 = .ok (.if_icmp .le 7, 3) := by decide +kernel
theorem dX13_isAhead_30 : decode cX13_isAhead 30 = .ok (.iconst 1, 1) := by decide +kernel
theorem dX13_isAhead_31 : decode cX13_isAhead 31 = .ok (.goto 4, 3) := by decide +kernel
theorem dX13_isAhead_34 : decode cX13_isAhead 34 = .ok (.iconst 0, 1) := by decide +kernel
theorem dX13_isAhead_35 : decode cX13_isAhead 35 = .ok (.ireturn, 1) := by decide +kernel
theorem dX13_isAhead_36 : decode cX13_isAhead 36 = .ok (.aload_n 0, 1) := by decide +kernel
theorem dX13_isAhead_37 : decode cX13_isAhead 37 = .ok (.getfield 9, 3) := by decide +kernel
theorem dX13_isAhead_40 : decode cX13_isAhead 40 = .ok (.iconst 1, 1) := by decide +kernel
theorem dX13_isAhead_41 : decode cX13_isAhead 41 = .ok (.iaload, 1) := by decide +kernel
theorem dX13_isAhead_42 : decode cX13_isAhead 42 = .ok (.iconst 1, 1) := by decide +kernel
theorem dX13_isAhead_43 : decode cX13_isAhead 43 = .ok (.if_icmp .ne 24, 3) := by decide +kernel
theorem dX13_isAhead_46 : decode cX13_isAhead 46 = .ok (.aload_n 0, 1) := by decide +kernel
theorem dX13_isAhead_47 : decode cX13_isAhead 47 = .ok (.getfield 52, 3) := by decide +kernel
theorem dX13_isAhead_50 : decode cX13_isAhead 50 = .ok (.iload_n 1, 1) := by decide +kernel
theorem dX13_isAhead_51 : decode cX13_isAhead 51 = .ok (.iaload, 1) := by decide +kernel
theorem dX13_isAhead_52 : decode cX13_isAhead 52 = .ok (.aload_n 0, 1) := by decide +kernel
theorem dX13_isAhead_53 : decode cX13_isAhead 53 = .ok (.getfield 52, 3) := by decide +kernel
theorem dX13_isAhead_56 : decode cX13_isAhead 56 = .ok (.iload_n 2, 1) := by decide +kernel
theorem dX13_isAhead_57 : decode cX13_isAhead 57 = .ok (.iaload, 1) := by decide +kernel
theorem dX13_isAhead_58 : decode cX13_isAhead 58 = .ok (.if_icmp .ge 7, 3) := by decide +kernel
theorem dX13_isAhead_61 : decode cX13_isAhead 61 = .ok (.iconst 1, 1) := by decide +kernel
theorem dX13_isAhead_62 : decode cX13_isAhead 62 = .ok (.goto 4, 3) := by decide +kernel
theorem dX13_isAhead_65 : decode cX13_isAhead 65 = .ok (.iconst 0, 1) := by decide +kernel
theorem dX13_isAhead_66 : decode cX13_isAhead 66 = .ok (.ireturn, 1) := by decide +kernel
theorem dX13_isAhead_67 : decode cX13_isAhead 67 = .ok (.aload_n 0, 1) := by decide +kernel
theorem dX13_isAhead_68 : decode cX13_isAhead 68 = .ok (.getfield 9, 3) := by decide +kernel
theorem dX13_isAhead_71 : decode cX13_isAhead 71 = .ok (.iconst 1, 1) := by decide +kernel
theorem dX13_isAhead_72 : decode cX13_isAhead 72 = .ok (.iaload, 1) := by decide +kernel
theorem dX13_isAhead_73 : decode cX13_isAhead 73 = .ok (.iconst 2, 1) := by decide +kernel
theorem dX13_isAhead_74 : decode cX13_isAhead 74 = .ok (.if_icmp .ne 45, 3) := by decide +kernel
theorem dX13_isAhead_77 : decode cX13_isAhead 77 = .ok (.aload_n 0, 1) := by decide +kernel
theorem dX13_isAhead_78 : decode cX13_isAhead 78 = .ok (.getfield 31, 3) := by decide +kernel
theorem dX13_isAhead_81 : decode cX13_isAhead 81 = .ok (.iload_n 1, 1) := by decide +kernel
theorem dX13_isAhead_82 : decode cX13_isAhead 82 = .ok (.bipush 66, 2) := by decide +kernel
theorem dX13_isAhead_84 : decode cX13_isAhead 84 = .ok (.idiv, 1) := by decide +kernel
theorem dX13_isAhead_85 : decode cX13_isAhead 85 = .ok (.iaload, 1) := by decide +kernel
theorem dX13_isAhead_86 : decode cX13_isAhead 86 = .ok (.aload_n 0, 1) := by decide +kernel
theorem dX13_isAhead_87 : decode cX13_isAhead 87 = .ok (.getfield 31, 3) := by decide +kernel
theorem dX13_isAhead_90 : decode cX13_isAhead 90 = .ok (.iload_n 1, 1) := by decide +kernel
theorem dX13_isAhead_91 : decode cX13_isAhead 91 = .ok (.bipush 66, 2) := by decide +kernel
theorem dX13_isAhead_93 : decode cX13_isAhead 93 = .ok (.irem, 1) := by decide +kernel
theorem dX13_isAhead_94 : decode cX13_isAhead 94 = .ok (.iaload, 1) := by decide +kernel
theorem dX13_isAhead_95 : decode cX13_isAhead 95 = .ok (.iadd, 1) := by decide +kernel
theorem dX13_isAhead_96 : decode cX13_isAhead 96 = .ok (.aload_n 0, 1) := by decide +kernel
theorem dX13_isAhead_97 : decode cX13_isAhead 97 = .ok (.getfield 31, 3) := by decide +kernel
theorem dX13_isAhead_100 : decode cX13_isAhead 100 = .ok (.iload_n 2, 1) := by decide +kernel
theorem dX13_isAhead_101 : decode cX13_isAhead 101 = .ok (.bipush 66, 2) := by decide +kernel
theorem dX13_isAhead_103 : decode cX13_isAhead 103 = .ok (.idiv, 1) := by decide +kernel
theorem dX13_isAhead_104 : decode cX13_isAhead 104 = .ok (.iaload, 1) := by decide +kernel
theorem dX13_isAhead_105 : decode cX13_isAhead 105 = .ok (.isub, 1) := by decide +kernel
theorem dX13_isAhead_106 : decode cX13_isAhead 106 = .ok (.aload_n 0, 1) := by decide +kernel
theorem dX13_isAhead_107 : decode cX13_isAhead 107 = .ok (.getfield 31, 3) := by decide +kernel
theorem dX13_isAhead_110 : decode cX13_isAhead 110 = .ok (.iload_n 2, 1) := by decide +kernel
theorem dX13_isAhead_111 : decode cX13_isAhead 111 = .ok (.bipush 66, 2) := by decide +kernel
theorem dX13_isAhead_113 : decode cX13_isAhead 113 = .ok (.irem, 1) := by decide +kernel
theorem dX13_isAhead_114 : decode cX13_isAhead 114 = .ok (.iaload, 1) := by decide +kernel
theorem dX13_isAhead_115 : decode cX13_isAhead 115 = .ok (.isub, 1) := by decide +kernel
theorem dX13_isAhead_116 : decode cX13_isAhead 116 = .ok (.goto 4, 3) := by decide +kernel
theorem dX13_isAhead_119 : decode cX13_isAhead 119 = .ok (.iconst 0, 1) := by decide +kernel
theorem dX13_isAhead_120 : decode cX13_isAhead 120 = .ok (.istore_n 3, 1) := by decide +kernel
theorem dX13_isAhead_121 : decode cX13_isAhead 121 = .ok (.iload_n 3, 1) := by decide +kernel
theorem dX13_isAhead_122 : decode cX13_isAhead 122 = .ok (.ifCond .eq 15, 3) := by decide +kernel
theorem dX13_isAhead_125 : decode cX13_isAhead 125 = .ok (.iload_n 3, 1) := by decide +kernel
theorem dX13_isAhead_126 : decode cX13_isAhead 126 = .ok (.ifCond .le 7, 3) := by decide +kernel
theorem dX13_isAhead_129 : decode cX13_isAhead 129 = .ok (.iconst 1, 1) := by decide +kernel
theorem dX13_isAhead_130 : decode cX13_isAhead 130 = .ok (.goto 17, 3) := by decide +kernel
theorem dX13_isAhead_133 : decode cX13_isAhead 133 = .ok (.iconst 0, 1) := by decide +kernel
theorem dX13_isAhead_134 : decode cX13_isAhead 134 = .ok (.goto 13, 3) := by decide +kernel
theorem dX13_isAhead_137 : decode cX13_isAhead 137 = .ok (.iload_n 1, 1) := by decide +kernel
theorem dX13_isAhead_138 : decode cX13_isAhead 138 = .ok (.iload_n 2, 1) := by decide +kernel
theorem dX13_isAhead_139 : decode cX13_isAhead 139 = .ok (.if_icmp .ge 7, 3) := by decide +kernel
theorem dX13_isAhead_142 : decode cX13_isAhead 142 = .ok (.iconst 1, 1) := by decide +kernel
theorem dX13_isAhead_143 : decode cX13_isAhead 143 = .ok (.goto 4, 3) := by decide +kernel
theorem dX13_isAhead_146 : decode cX13_isAhead 146 = .ok (.iconst 0, 1) := by decide +kernel
theorem dX13_isAhead_147 : decode cX13_isAhead 147 = .ok (.ireturn, 1) := by decide +kernel
theorem dX13_bestPair_0 : decode cX13_bestPair 0 = .ok (.aload_n 0, 1) := by decide +kernel
theorem dX13_bestPair_1 : decode cX13_bestPair 1 = .ok (.invokevirtual 160, 3) := by decide +kernel
theorem dX13_bestPair_4 : decode cX13_bestPair 4 = .ok (.aload_n 0, 1) := by decide +kernel
theorem dX13_bestPair_5 : decode cX13_bestPair 5 = .ok (.invokevirtual 137, 3) := by decide +kernel
theorem dX13_bestPair_8 : decode cX13_bestPair 8 = .ok (.aload_n 0, 1) := by decide +kernel
theorem dX13_bestPair_9 : decode cX13_bestPair 9 = .ok (.invokevirtual 163, 3) := by decide +kernel
theorem dX13_bestPair_12 : decode cX13_bestPair 12 = .ok (.istore_n 1, 1) := by decide +kernel
theorem dX13_bestPair_13 : decode cX13_bestPair 13 = .ok (.iconst (-1), 1) := by decide +kernel
theorem dX13_bestPair_14 : decode cX13_bestPair 14 = .ok (.istore_n 2, 1) := by decide +kernel
theorem dX13_bestPair_15 : decode cX13_bestPair 15 = .ok (.iconst 0, 1) := by decide +kernel
theorem dX13_bestPair_16 : decode cX13_bestPair 16 = .ok (.istore_n 3, 1) := by decide +kernel
theorem dX13_bestPair_17 : decode cX13_bestPair 17 = .ok (.iload_n 3, 1) := by decide +kernel
theorem dX13_bestPair_18 : decode cX13_bestPair 18 = .ok (.sipush 4356, 3) := by decide +kernel
theorem dX13_bestPair_21 : decode cX13_bestPair 21 = .ok (.if_icmp .ge 34, 3) := by decide +kernel
theorem dX13_bestPair_24 : decode cX13_bestPair 24 = .ok (.aload_n 0, 1) := by decide +kernel
theorem dX13_bestPair_25 : decode cX13_bestPair 25 = .ok (.iload_n 3, 1) := by decide +kernel
theorem dX13_bestPair_26 : decode cX13_bestPair 26 = .ok (.iload_n 1, 1) := by decide +kernel
theorem dX13_bestPair_27 : decode cX13_bestPair 27 = .ok (.invokevirtual 166, 3) := by decide +kernel
theorem dX13_bestPair_30 : decode cX13_bestPair 30 = .ok (.ifCond .eq 19, 3) := by decide +kernel
theorem dX13_bestPair_33 : decode cX13_bestPair 33 = .ok (.iload_n 2, 1) := by decide +kernel
theorem dX13_bestPair_34 : decode cX13_bestPair 34 = .ok (.iconst (-1), 1) := by decide +kernel
theorem dX13_bestPair_35 : decode cX13_bestPair 35 = .ok (.if_icmp .eq 12, 3) := by decide +kernel
theorem dX13_bestPair_38 : decode cX13_bestPair 38 = .ok (.aload_n 0, 1) := by decide +kernel
theorem dX13_bestPair_39 : decode cX13_bestPair 39 = .ok (.iload_n 3, 1) := by decide +kernel
theorem dX13_bestPair_40 : decode cX13_bestPair 40 = .ok (.iload_n 2, 1) := by decide +kernel
theorem dX13_bestPair_41 : decode cX13_bestPair 41 = .ok (.invokevirtual 170, 3) := by decide +kernel
theorem dX13_bestPair_44 : decode cX13_bestPair 44 = .ok (.ifCond .eq 5, 3) := by decide +kernel
theorem dX13_bestPair_47 : decode cX13_bestPair 47 = .ok (.iload_n 3, 1) := by decide +kernel
theorem dX13_bestPair_48 : decode cX13_bestPair 48 = .ok (.istore_n 2, 1) := by decide +kernel
theorem dX13_bestPair_49 : decode cX13_bestPair 49 = .ok (.iinc 3 1, 3) := by decide +kernel
theorem dX13_bestPair_52 : decode cX13_bestPair 52 = .ok (.goto (-35), 3) := by decide +kernel
theorem dX13_bestPair_55 : decode cX13_bestPair 55 = .ok (.iload_n 2, 1) := by decide +kernel
theorem dX13_bestPair_56 : decode cX13_bestPair 56 = .ok (.ireturn, 1) := by decide +kernel
theorem dX13_worthy_0 : decode cX13_worthy 0 = .ok (.aload_n 0, 1) := by decide +kernel
theorem dX13_worthy_1 : decode cX13_worthy 1 = .ok (.invokevirtual 163, 3) := by decide +kernel
theorem dX13_worthy_4 : decode cX13_worthy 4 = .ok (.istore_n 2, 1) := by decide +kernel
theorem dX13_worthy_5 : decode cX13_worthy 5 = .ok (.iconst 0, 1) := by decide +kernel
theorem dX13_worthy_6 : decode cX13_worthy 6 = .ok (.istore_n 3, 1) := by decide +kernel
theorem dX13_worthy_7 : decode cX13_worthy 7 = .ok (.iconst 0, 1) := by decide +kernel
theorem dX13_worthy_8 : decode cX13_worthy 8 = .ok (.istore 4, 2) := by decide +kernel
theorem dX13_worthy_10 : decode cX13_worthy 10 = .ok (.iload 4, 2) := by decide +kernel
theorem dX13_worthy_12 : decode cX13_worthy 12 = .ok (.sipush 4356, 3) := by decide +kernel
theorem dX13_worthy_15 : decode cX13_worthy 15 = .ok (.if_icmp .ge 45, 3) := by decide +kernel
theorem dX13_worthy_18 : decode cX13_worthy 18 = .ok (.iload_n 3, 1) := by decide +kernel
theorem dX13_worthy_19 : decode cX13_worthy 19 = .ok (.aload_n 0, 1) := by decide +kernel
theorem dX13_worthy_20 : decode cX13_worthy 20 = .ok (.iload 4, 2) := by decide +kernel
theorem dX13_worthy_22 : decode cX13_worthy 22 = .ok (.iload_n 2, 1) := by decide +kernel
theorem dX13_worthy_23 : decode cX13_worthy 23 = .ok (.invokevirtual 166, 3) := by decide +kernel
theorem dX13_worthy_26 : decode cX13_worthy 26 = .ok (.ifCond .eq 22, 3) := by decide +kernel
theorem dX13_worthy_29 : decode cX13_worthy 29 = .ok (.iload_n 1, 1) := by decide +kernel
theorem dX13_worthy_30 : decode cX13_worthy 30 = .ok (.ifCond .eq 14, 3) := by decide +kernel
theorem dX13_worthy_33 : decode cX13_worthy 33 = .ok (.aload_n 0, 1) := by decide +kernel
theorem dX13_worthy_34 : decode cX13_worthy 34 = .ok (.getfield 49, 3) := by decide +kernel
theorem dX13_worthy_37 : decode cX13_worthy 37 = .ok (.iload 4, 2) := by decide +kernel
theorem dX13_worthy_39 : decode cX13_worthy 39 = .ok (.iaload, 1) := by decide +kernel
theorem dX13_worthy_40 : decode cX13_worthy 40 = .ok (.iload_n 1, 1) := by decide +kernel
theorem dX13_worthy_41 : decode cX13_worthy 41 = .ok (.if_icmp .ne 7, 3) := by decide +kernel
theorem dX13_worthy_44 : decode cX13_worthy 44 = .ok (.iconst 1, 1) := by decide +kernel
theorem dX13_worthy_45 : decode cX13_worthy 45 = .ok (.goto 4, 3) := by decide +kernel
theorem dX13_worthy_48 : decode cX13_worthy 48 = .ok (.iconst 0, 1) := by decide +kernel
theorem dX13_worthy_49 : decode cX13_worthy 49 = .ok (.invokestatic 115, 3) := by decide +kernel
theorem dX13_worthy_52 : decode cX13_worthy 52 = .ok (.iadd, 1) := by decide +kernel
theorem dX13_worthy_53 : decode cX13_worthy 53 = .ok (.istore_n 3, 1) := by decide +kernel
theorem dX13_worthy_54 : decode cX13_worthy 54 = .ok (.iinc 4 1, 3) := by decide +kernel
theorem dX13_worthy_57 : decode cX13_worthy 57 = .ok (.goto (-47), 3) := by decide +kernel
theorem dX13_worthy_60 : decode cX13_worthy 60 = .ok (.iload_n 3, 1) := by decide +kernel
theorem dX13_worthy_61 : decode cX13_worthy 61 = .ok (.ireturn, 1) := by decide +kernel
theorem dX13_joins_0 : decode cX13_joins 0 = .ok (.iconst 0, 1) := by decide +kernel
theorem dX13_joins_1 : decode cX13_joins 1 = .ok (.istore 5, 2) := by decide +kernel
theorem dX13_joins_3 : decode cX13_joins 3 = .ok (.iconst 0, 1) := by decide +kernel
theorem dX13_joins_4 : decode cX13_joins 4 = .ok (.istore 6, 2) := by decide +kernel
theorem dX13_joins_6 : decode cX13_joins 6 = .ok (.iconst 0, 1) := by decide +kernel
theorem dX13_joins_7 : decode cX13_joins 7 = .ok (.istore 7, 2) := by decide +kernel
theorem dX13_joins_9 : decode cX13_joins 9 = .ok (.iload 7, 2) := by decide +kernel
theorem dX13_joins_11 : decode cX13_joins 11 = .ok (.aload_n 0, 1) := by decide +kernel
theorem dX13_joins_12 : decode cX13_joins 12 = .ok (.iload_n 1, 1) := by decide +kernel
theorem dX13_joins_13 : decode cX13_joins 13 = .ok (.invokevirtual 103, 3) := by decide +kernel
theorem dX13_joins_16 : decode cX13_joins 16 = .ok (.if_icmp .ge 101, 3) := by decide +kernel
theorem dX13_joins_19 : decode cX13_joins 19 = .ok (.iload 7, 2) := by decide +kernel
theorem dX13_joins_21 : decode cX13_joins 21 = .ok (.iconst 1, 1) := by decide +kernel
theorem dX13_joins_22 : decode cX13_joins 22 = .ok (.iadd, 1) := by decide +kernel
theorem dX13_joins_23 : decode cX13_joins 23 = .ok (.aload_n 0, 1) := by decide +kernel
theorem dX13_joins_24 : decode cX13_joins 24 = .ok (.iload_n 1, 1) := by decide +kernel
theorem dX13_joins_25 : decode cX13_joins 25 = .ok (.invokevirtual 103, 3) := by decide +kernel
theorem dX13_joins_28 : decode cX13_joins 28 = .ok (.if_icmp .ge 31, 3) := by decide +kernel
theorem dX13_joins_31 : decode cX13_joins 31 = .ok (.aload_n 0, 1) := by decide +kernel
theorem dX13_joins_32 : decode cX13_joins 32 = .ok (.iload_n 1, 1) := by decide +kernel
theorem dX13_joins_33 : decode cX13_joins 33 = .ok (.iload 7, 2) := by decide +kernel
theorem dX13_joins_35 : decode cX13_joins 35 = .ok (.invokevirtual 119, 3) := by decide +kernel
theorem dX13_joins_38 : decode cX13_joins 38 = .ok (.iload_n 2, 1) := by decide +kernel
theorem dX13_joins_39 : decode cX13_joins 39 = .ok (.if_icmp .ne 20, 3) := by decide +kernel
theorem dX13_joins_42 : decode cX13_joins 42 = .ok (.aload_n 0, 1) := by decide +kernel
theorem dX13_joins_43 : decode cX13_joins 43 = .ok (.iload_n 1, 1) := by decide +kernel
theorem dX13_joins_44 : decode cX13_joins 44 = .ok (.iload 7, 2) := by decide +kernel
theorem dX13_joins_46 : decode cX13_joins 46 = .ok (.iconst 1, 1) := by decide +kernel
theorem dX13_joins_47 : decode cX13_joins 47 = .ok (.iadd, 1) := by decide +kernel
theorem dX13_joins_48 : decode cX13_joins 48 = .ok (.invokevirtual 119, 3) := by decide +kernel
theorem dX13_joins_51 : decode cX13_joins 51 = .ok (.iload_n 3, 1) := by decide +kernel
theorem dX13_joins_52 : decode cX13_joins 52 = .ok (.if_icmp .ne 7, 3) := by decide +kernel
theorem dX13_joins_55 : decode cX13_joins 55 = .ok (.iconst 1, 1) := by decide +kernel
theorem dX13_joins_56 : decode cX13_joins 56 = .ok (.goto 4, 3) := by decide +kernel
theorem dX13_joins_59 : decode cX13_joins 59 = .ok (.iconst 0, 1) := by decide +kernel
theorem dX13_joins_60 : decode cX13_joins 60 = .ok (.istore 8, 2) := by decide +kernel
theorem dX13_joins_62 : decode cX13_joins 62 = .ok (.aload_n 0, 1) := by decide +kernel
theorem dX13_joins_63 : decode cX13_joins 63 = .ok (.iload_n 1, 1) := by decide +kernel
theorem dX13_joins_64 : decode cX13_joins 64 = .ok (.iload 6, 2) := by decide +kernel
theorem dX13_joins_66 : decode cX13_joins 66 = .ok (.iload 8, 2) := by decide +kernel
theorem dX13_joins_68 : decode cX13_joins 68 = .ok (.ifCond .eq 8, 3) := by decide +kernel
theorem dX13_joins_71 : decode cX13_joins 71 = .ok (.iload 4, 2) := by decide +kernel
theorem dX13_joins_73 : decode cX13_joins 73 = .ok (.goto 10, 3) := by decide +kernel
theorem dX13_joins_76 : decode cX13_joins 76 = .ok (.aload_n 0, 1) := by decide +kernel
theorem dX13_joins_77 : decode cX13_joins 77 = .ok (.iload_n 1, 1) := by decide +kernel
theorem dX13_joins_78 : decode cX13_joins 78 = .ok (.iload 7, 2) := by decide +kernel
theorem dX13_joins_80 : decode cX13_joins 80 = .ok (.invokevirtual 119, 3) := by decide +kernel
theorem dX13_joins_83 : decode cX13_joins 83 = .ok (.invokevirtual 107, 3) := by decide +kernel
theorem dX13_joins_86 : decode cX13_joins 86 = .ok (.iinc 6 1, 3) := by decide +kernel
theorem dX13_joins_89 : decode cX13_joins 89 = .ok (.iload 7, 2) := by decide +kernel
theorem dX13_joins_91 : decode cX13_joins 91 = .ok (.iload 8, 2) := by decide +kernel
theorem dX13_joins_93 : decode cX13_joins 93 = .ok (.ifCond .eq 7, 3) := by decide +kernel
theorem dX13_joins_96 : decode cX13_joins 96 = .ok (.iconst 2, 1) := by decide +kernel
theorem dX13_joins_97 : decode cX13_joins 97 = .ok (.goto 4, 3) := by decide +kernel
theorem dX13_joins_100 : decode cX13_joins 100 = .ok (.iconst 1, 1) := by decide +kernel
theorem dX13_joins_101 : decode cX13_joins 101 = .ok (.iadd, 1) := by decide +kernel
theorem dX13_joins_102 : decode cX13_joins 102 = .ok (.istore 7, 2) := by decide +kernel
theorem dX13_joins_104 : decode cX13_joins 104 = .ok (.iload 5, 2) := by decide +kernel
theorem dX13_joins_106 : decode cX13_joins 106 = .ok (.iload 8, 2) := by decide +kernel
theorem dX13_joins_108 : decode cX13_joins 108 = .ok (.invokestatic 115, 3) := by decide +kernel
theorem dX13_joins_111 : decode cX13_joins 111 = .ok (.iadd, 1) := by decide +kernel
theorem dX13_joins_112 : decode cX13_joins 112 = .ok (.istore 5, 2) := by decide +kernel
theorem dX13_joins_114 : decode cX13_joins 114 = .ok (.goto (-105), 3) := by decide +kernel
theorem dX13_joins_117 : decode cX13_joins 117 = .ok (.aload_n 0, 1) := by decide +kernel
theorem dX13_joins_118 : decode cX13_joins 118 = .ok (.getfield 9, 3) := by decide +kernel
theorem dX13_joins_121 : decode cX13_joins 121 = .ok (.bipush 16, 2) := by decide +kernel
theorem dX13_joins_123 : decode cX13_joins 123 = .ok (.iload_n 1, 1) := by decide +kernel
theorem dX13_joins_124 : decode cX13_joins 124 = .ok (.iadd, 1) := by decide +kernel
theorem dX13_joins_125 : decode cX13_joins 125 = .ok (.iload 6, 2) := by decide +kernel
theorem dX13_joins_127 : decode cX13_joins 127 = .ok (.iastore, 1) := by decide +kernel
theorem dX13_joins_128 : decode cX13_joins 128 = .ok (.iload 5, 2) := by decide +kernel
theorem dX13_joins_130 : decode cX13_joins 130 = .ok (.ireturn, 1) := by decide +kernel
theorem dX13_makes_0 : decode cX13_makes 0 = .ok (.iload_n 1, 1) := by decide +kernel
theorem dX13_makes_1 : decode cX13_makes 1 = .ok (.bipush 66, 2) := by decide +kernel
theorem dX13_makes_3 : decode cX13_makes 3 = .ok (.idiv, 1) := by decide +kernel
theorem dX13_makes_4 : decode cX13_makes 4 = .ok (.istore_n 2, 1) := by decide +kernel
theorem dX13_makes_5 : decode cX13_makes 5 = .ok (.iload_n 1, 1) := by decide +kernel
theorem dX13_makes_6 : decode cX13_makes 6 = .ok (.bipush 66, 2) := by decide +kernel
theorem dX13_makes_8 : decode cX13_makes 8 = .ok (.irem, 1) := by decide +kernel
theorem dX13_makes_9 : decode cX13_makes 9 = .ok (.istore_n 3, 1) := by decide +kernel
theorem dX13_makes_10 : decode cX13_makes 10 = .ok (.aload_n 0, 1) := by decide +kernel
theorem dX13_makes_11 : decode cX13_makes 11 = .ok (.getfield 55, 3) := by decide +kernel
theorem dX13_makes_14 : decode cX13_makes 14 = .ok (.iload_n 1, 1) := by decide +kernel
theorem dX13_makes_15 : decode cX13_makes 15 = .ok (.iaload, 1) := by decide +kernel
theorem dX13_makes_16 : decode cX13_makes 16 = .ok (.iconst (-1), 1) := by decide +kernel
theorem dX13_makes_17 : decode cX13_makes 17 = .ok (.if_icmp .eq 12, 3) := by decide +kernel
theorem dX13_makes_20 : decode cX13_makes 20 = .ok (.aload_n 0, 1) := by decide +kernel
theorem dX13_makes_21 : decode cX13_makes 21 = .ok (.getfield 55, 3) := by decide +kernel
theorem dX13_makes_24 : decode cX13_makes 24 = .ok (.iload_n 1, 1) := by decide +kernel
theorem dX13_makes_25 : decode cX13_makes 25 = .ok (.iaload, 1) := by decide +kernel
theorem dX13_makes_26 : decode cX13_makes 26 = .ok (.goto 7, 3) := by decide +kernel
theorem dX13_makes_29 : decode cX13_makes 29 = .ok (.aload_n 0, 1) := by decide +kernel
theorem dX13_makes_30 : decode cX13_makes 30 = .ok (.invokevirtual 163, 3) := by decide +kernel
theorem dX13_makes_33 : decode cX13_makes 33 = .ok (.istore 4, 2) := by decide +kernel
theorem dX13_makes_35 : decode cX13_makes 35 = .ok (.iconst 0, 1) := by decide +kernel
theorem dX13_makes_36 : decode cX13_makes 36 = .ok (.istore 5, 2) := by decide +kernel
theorem dX13_makes_38 : decode cX13_makes 38 = .ok (.iload 5, 2) := by decide +kernel
theorem dX13_makes_40 : decode cX13_makes 40 = .ok (.bipush 41, 2) := by decide +kernel
theorem dX13_makes_42 : decode cX13_makes 42 = .ok (.if_icmp .ge 61, 3) := by decide +kernel
theorem dX13_makes_45 : decode cX13_makes 45 = .ok (.aload_n 0, 1) := by decide +kernel
theorem dX13_makes_46 : decode cX13_makes 46 = .ok (.iload 5, 2) := by decide +kernel
theorem dX13_makes_48 : decode cX13_makes 48 = .ok (.invokevirtual 153, 3) := by decide +kernel
theorem dX13_makes_51 : decode cX13_makes 51 = .ok (.ifCond .eq 28, 3) := by decide +kernel
theorem dX13_makes_54 : decode cX13_makes 54 = .ok (.aload_n 0, 1) := by decide +kernel
theorem dX13_makes_55 : decode cX13_makes 55 = .ok (.iload 5, 2) := by decide +kernel
theorem dX13_makes_57 : decode cX13_makes 57 = .ok (.iconst 0, 1) := by decide +kernel
theorem dX13_makes_58 : decode cX13_makes 58 = .ok (.invokevirtual 119, 3) := by decide +kernel
theorem dX13_makes_61 : decode cX13_makes 61 = .ok (.iload_n 2, 1) := by decide +kernel
theorem dX13_makes_62 : decode cX13_makes 62 = .ok (.if_icmp .ne 17, 3) := by decide +kernel
theorem dX13_makes_65 : decode cX13_makes 65 = .ok (.aload_n 0, 1) := by decide +kernel
theorem dX13_makes_66 : decode cX13_makes 66 = .ok (.iload 5, 2) := by decide +kernel
theorem dX13_makes_68 : decode cX13_makes 68 = .ok (.iconst 1, 1) := by decide +kernel
theorem dX13_makes_69 : decode cX13_makes 69 = .ok (.invokevirtual 119, 3) := by decide +kernel
theorem dX13_makes_72 : decode cX13_makes 72 = .ok (.iload_n 3, 1) := by decide +kernel
theorem dX13_makes_73 : decode cX13_makes 73 = .ok (.if_icmp .ne 6, 3) := by decide +kernel
theorem dX13_makes_76 : decode cX13_makes 76 = .ok (.goto 21, 3) := by decide +kernel
theorem dX13_makes_79 : decode cX13_makes 79 = .ok (.aload_n 0, 1) := by decide +kernel
theorem dX13_makes_80 : decode cX13_makes 80 = .ok (.iconst 5, 1) := by decide +kernel
theorem dX13_makes_81 : decode cX13_makes 81 = .ok (.aload_n 0, 1) := by decide +kernel
theorem dX13_makes_82 : decode cX13_makes 82 = .ok (.iload 5, 2) := by decide +kernel
theorem dX13_makes_84 : decode cX13_makes 84 = .ok (.iload_n 2, 1) := by decide +kernel
theorem dX13_makes_85 : decode cX13_makes 85 = .ok (.iload_n 3, 1) := by decide +kernel
theorem dX13_makes_86 : decode cX13_makes 86 = .ok (.bipush 26, 2) := by decide +kernel
theorem dX13_makes_88 : decode cX13_makes 88 = .ok (.iload 4, 2) := by decide +kernel
theorem dX13_makes_90 : decode cX13_makes 90 = .ok (.iadd, 1) := by decide +kernel
theorem dX13_makes_91 : decode cX13_makes 91 = .ok (.invokevirtual 173, 3) := by decide +kernel
theorem dX13_makes_94 : decode cX13_makes 94 = .ok (.invokevirtual 177, 3) := by decide +kernel
theorem dX13_makes_97 : decode cX13_makes 97 = .ok (.iinc 5 1, 3) := by decide +kernel
theorem dX13_makes_100 : decode cX13_makes 100 = .ok (.goto (-62), 3) := by decide +kernel
theorem dX13_makes_103 : decode cX13_makes 103 = .ok (.aload_n 0, 1) := by decide +kernel
theorem dX13_makes_104 : decode cX13_makes 104 = .ok (.getfield 55, 3) := by decide +kernel
theorem dX13_makes_107 : decode cX13_makes 107 = .ok (.iload_n 1, 1) := by decide +kernel
theorem dX13_makes_108 : decode cX13_makes 108 = .ok (.iaload, 1) := by decide +kernel
theorem dX13_makes_109 : decode cX13_makes 109 = .ok (.iconst (-1), 1) := by decide +kernel
theorem dX13_makes_110 : decode cX13_makes 110 = .ok (.if_icmp .eq 6, 3) := by decide +kernel
theorem dX13_makes_113 : decode cX13_makes 113 = .ok (.iload 4, 2) := by decide +kernel
theorem dX13_makes_115 : decode cX13_makes 115 = .ok (.ireturn, 1) := by decide +kernel
theorem dX13_makes_116 : decode cX13_makes 116 = .ok (.aload_n 0, 1) := by decide +kernel
theorem dX13_makes_117 : decode cX13_makes 117 = .ok (.iload 4, 2) := by decide +kernel
theorem dX13_makes_119 : decode cX13_makes 119 = .ok (.iconst 1, 1) := by decide +kernel
theorem dX13_makes_120 : decode cX13_makes 120 = .ok (.iadd, 1) := by decide +kernel
theorem dX13_makes_121 : decode cX13_makes 121 = .ok (.iload_n 2, 1) := by decide +kernel
theorem dX13_makes_122 : decode cX13_makes 122 = .ok (.invokevirtual 93, 3) := by decide +kernel
theorem dX13_makes_125 : decode cX13_makes 125 = .ok (.aload_n 0, 1) := by decide +kernel
theorem dX13_makes_126 : decode cX13_makes 126 = .ok (.iload 4, 2) := by decide +kernel
theorem dX13_makes_128 : decode cX13_makes 128 = .ok (.iconst 1, 1) := by decide +kernel
theorem dX13_makes_129 : decode cX13_makes 129 = .ok (.iadd, 1) := by decide +kernel
theorem dX13_makes_130 : decode cX13_makes 130 = .ok (.iload_n 3, 1) := by decide +kernel
theorem dX13_makes_131 : decode cX13_makes 131 = .ok (.invokevirtual 93, 3) := by decide +kernel
theorem dX13_makes_134 : decode cX13_makes 134 = .ok (.aload_n 0, 1) := by decide +kernel
theorem dX13_makes_135 : decode cX13_makes 135 = .ok (.iconst 1, 1) := by decide +kernel
theorem dX13_makes_136 : decode cX13_makes 136 = .ok (.iconst 1, 1) := by decide +kernel
theorem dX13_makes_137 : decode cX13_makes 137 = .ok (.invokevirtual 177, 3) := by decide +kernel
theorem dX13_makes_140 : decode cX13_makes 140 = .ok (.iload 4, 2) := by decide +kernel
theorem dX13_makes_142 : decode cX13_makes 142 = .ok (.ireturn, 1) := by decide +kernel
theorem dX13_lonely_0 : decode cX13_lonely 0 = .ok (.iconst 0, 1) := by decide +kernel
theorem dX13_lonely_1 : decode cX13_lonely 1 = .ok (.istore_n 1, 1) := by decide +kernel
theorem dX13_lonely_2 : decode cX13_lonely 2 = .ok (.iload_n 1, 1) := by decide +kernel
theorem dX13_lonely_3 : decode cX13_lonely 3 = .ok (.bipush 40, 2) := by decide +kernel
theorem dX13_lonely_5 : decode cX13_lonely 5 = .ok (.if_icmp .ge 28, 3) := by decide +kernel
theorem dX13_lonely_8 : decode cX13_lonely 8 = .ok (.aload_n 0, 1) := by decide +kernel
theorem dX13_lonely_9 : decode cX13_lonely 9 = .ok (.iload_n 1, 1) := by decide +kernel
theorem dX13_lonely_10 : decode cX13_lonely 10 = .ok (.invokevirtual 111, 3) := by decide +kernel
theorem dX13_lonely_13 : decode cX13_lonely 13 = .ok (.ifCond .eq 14, 3) := by decide +kernel
theorem dX13_lonely_16 : decode cX13_lonely 16 = .ok (.aload_n 0, 1) := by decide +kernel
theorem dX13_lonely_17 : decode cX13_lonely 17 = .ok (.iload_n 1, 1) := by decide +kernel
theorem dX13_lonely_18 : decode cX13_lonely 18 = .ok (.invokevirtual 180, 3) := by decide +kernel
theorem dX13_lonely_21 : decode cX13_lonely 21 = .ok (.iconst 2, 1) := by decide +kernel
theorem dX13_lonely_22 : decode cX13_lonely 22 = .ok (.if_icmp .ge 5, 3) := by decide +kernel
theorem dX13_lonely_25 : decode cX13_lonely 25 = .ok (.iload_n 1, 1) := by decide +kernel
theorem dX13_lonely_26 : decode cX13_lonely 26 = .ok (.ireturn, 1) := by decide +kernel
theorem dX13_lonely_27 : decode cX13_lonely 27 = .ok (.iinc 1 1, 3) := by decide +kernel
theorem dX13_lonely_30 : decode cX13_lonely 30 = .ok (.goto (-28), 3) := by decide +kernel
theorem dX13_lonely_33 : decode cX13_lonely 33 = .ok (.iconst (-1), 1) := by decide +kernel
theorem dX13_lonely_34 : decode cX13_lonely 34 = .ok (.ireturn, 1) := by decide +kernel
theorem dX13_unmakes_0 : decode cX13_unmakes 0 = .ok (.iconst 0, 1) := by decide +kernel
theorem dX13_unmakes_1 : decode cX13_unmakes 1 = .ok (.istore_n 2, 1) := by decide +kernel
theorem dX13_unmakes_2 : decode cX13_unmakes 2 = .ok (.iconst 0, 1) := by decide +kernel
theorem dX13_unmakes_3 : decode cX13_unmakes 3 = .ok (.istore_n 3, 1) := by decide +kernel
theorem dX13_unmakes_4 : decode cX13_unmakes 4 = .ok (.iload_n 3, 1) := by decide +kernel
theorem dX13_unmakes_5 : decode cX13_unmakes 5 = .ok (.bipush 41, 2) := by decide +kernel
theorem dX13_unmakes_7 : decode cX13_unmakes 7 = .ok (.if_icmp .ge 57, 3) := by decide +kernel
theorem dX13_unmakes_10 : decode cX13_unmakes 10 = .ok (.aload_n 0, 1) := by decide +kernel
theorem dX13_unmakes_11 : decode cX13_unmakes 11 = .ok (.iload_n 3, 1) := by decide +kernel
theorem dX13_unmakes_12 : decode cX13_unmakes 12 = .ok (.invokevirtual 103, 3) := by decide +kernel
theorem dX13_unmakes_15 : decode cX13_unmakes 15 = .ok (.iconst 1, 1) := by decide +kernel
theorem dX13_unmakes_16 : decode cX13_unmakes 16 = .ok (.isub, 1) := by decide +kernel
theorem dX13_unmakes_17 : decode cX13_unmakes 17 = .ok (.istore 4, 2) := by decide +kernel
theorem dX13_unmakes_19 : decode cX13_unmakes 19 = .ok (.iload 4, 2) := by decide +kernel
theorem dX13_unmakes_21 : decode cX13_unmakes 21 = .ok (.ifCond .lt 37, 3) := by decide +kernel
theorem dX13_unmakes_24 : decode cX13_unmakes 24 = .ok (.aload_n 0, 1) := by decide +kernel
theorem dX13_unmakes_25 : decode cX13_unmakes 25 = .ok (.iload_n 3, 1) := by decide +kernel
theorem dX13_unmakes_26 : decode cX13_unmakes 26 = .ok (.iload 4, 2) := by decide +kernel
theorem dX13_unmakes_28 : decode cX13_unmakes 28 = .ok (.invokevirtual 119, 3) := by decide +kernel
theorem dX13_unmakes_31 : decode cX13_unmakes 31 = .ok (.bipush 26, 2) := by decide +kernel
theorem dX13_unmakes_33 : decode cX13_unmakes 33 = .ok (.iload_n 1, 1) := by decide +kernel
theorem dX13_unmakes_34 : decode cX13_unmakes 34 = .ok (.iadd, 1) := by decide +kernel
theorem dX13_unmakes_35 : decode cX13_unmakes 35 = .ok (.if_icmp .eq 6, 3) := by decide +kernel
theorem dX13_unmakes_38 : decode cX13_unmakes 38 = .ok (.goto 14, 3) := by decide +kernel
theorem dX13_unmakes_41 : decode cX13_unmakes 41 = .ok (.aload_n 0, 1) := by decide +kernel
theorem dX13_unmakes_42 : decode cX13_unmakes 42 = .ok (.iload_n 3, 1) := by decide +kernel
theorem dX13_unmakes_43 : decode cX13_unmakes 43 = .ok (.iload 4, 2) := by decide +kernel
theorem dX13_unmakes_45 : decode cX13_unmakes 45 = .ok (.iload_n 1, 1) := by decide +kernel
theorem dX13_unmakes_46 : decode cX13_unmakes 46 = .ok (.invokevirtual 183, 3) := by decide +kernel
theorem dX13_unmakes_49 : decode cX13_unmakes 49 = .ok (.iinc 2 1, 3) := by decide +kernel
theorem dX13_unmakes_52 : decode cX13_unmakes 52 = .ok (.iinc 4 (-1), 3) := by decide +kernel
theorem dX13_unmakes_55 : decode cX13_unmakes 55 = .ok (.goto (-36), 3) := by decide +kernel
theorem dX13_unmakes_58 : decode cX13_unmakes 58 = .ok (.iinc 3 1, 3) := by decide +kernel
theorem dX13_unmakes_61 : decode cX13_unmakes 61 = .ok (.goto (-57), 3) := by decide +kernel
theorem dX13_unmakes_64 : decode cX13_unmakes 64 = .ok (.aload_n 0, 1) := by decide +kernel
theorem dX13_unmakes_65 : decode cX13_unmakes 65 = .ok (.iload_n 1, 1) := by decide +kernel
theorem dX13_unmakes_66 : decode cX13_unmakes 66 = .ok (.invokevirtual 186, 3) := by decide +kernel
theorem dX13_unmakes_69 : decode cX13_unmakes 69 = .ok (.iload_n 2, 1) := by decide +kernel
theorem dX13_unmakes_70 : decode cX13_unmakes 70 = .ok (.ireturn, 1) := by decide +kernel
theorem dX13_inlines_0 : decode cX13_inlines 0 = .ok (.iconst 0, 1) := by decide +kernel
theorem dX13_inlines_1 : decode cX13_inlines 1 = .ok (.istore_n 1, 1) := by decide +kernel
theorem dX13_inlines_2 : decode cX13_inlines 2 = .ok (.aload_n 0, 1) := by decide +kernel
theorem dX13_inlines_3 : decode cX13_inlines 3 = .ok (.invokevirtual 189, 3) := by decide +kernel
theorem dX13_inlines_6 : decode cX13_inlines 6 = .ok (.istore_n 2, 1) := by decide +kernel
theorem dX13_inlines_7 : decode cX13_inlines 7 = .ok (.iload_n 2, 1) := by decide +kernel
theorem dX13_inlines_8 : decode cX13_inlines 8 = .ok (.iconst (-1), 1) := by decide +kernel
theorem dX13_inlines_9 : decode cX13_inlines 9 = .ok (.if_icmp .eq 32, 3) := by decide +kernel
theorem dX13_inlines_12 : decode cX13_inlines 12 = .ok (.aload_n 0, 1) := by decide +kernel
theorem dX13_inlines_13 : decode cX13_inlines 13 = .ok (.aload_n 0, 1) := by decide +kernel
theorem dX13_inlines_14 : decode cX13_inlines 14 = .ok (.iload_n 2, 1) := by decide +kernel
theorem dX13_inlines_15 : decode cX13_inlines 15 = .ok (.invokevirtual 192, 3) := by decide +kernel
theorem dX13_inlines_18 : decode cX13_inlines 18 = .ok (.ifCond .le 7, 3) := by decide +kernel
theorem dX13_inlines_21 : decode cX13_inlines 21 = .ok (.iconst 2, 1) := by decide +kernel
theorem dX13_inlines_22 : decode cX13_inlines 22 = .ok (.goto 4, 3) := by decide +kernel
theorem dX13_inlines_25 : decode cX13_inlines 25 = .ok (.iconst 3, 1) := by decide +kernel
theorem dX13_inlines_26 : decode cX13_inlines 26 = .ok (.iconst 1, 1) := by decide +kernel
theorem dX13_inlines_27 : decode cX13_inlines 27 = .ok (.invokevirtual 177, 3) := by decide +kernel
theorem dX13_inlines_30 : decode cX13_inlines 30 = .ok (.iinc 1 1, 3) := by decide +kernel
theorem dX13_inlines_33 : decode cX13_inlines 33 = .ok (.aload_n 0, 1) := by decide +kernel
theorem dX13_inlines_34 : decode cX13_inlines 34 = .ok (.invokevirtual 189, 3) := by decide +kernel
theorem dX13_inlines_37 : decode cX13_inlines 37 = .ok (.istore_n 2, 1) := by decide +kernel
theorem dX13_inlines_38 : decode cX13_inlines 38 = .ok (.goto (-31), 3) := by decide +kernel
theorem dX13_inlines_41 : decode cX13_inlines 41 = .ok (.iload_n 1, 1) := by decide +kernel
theorem dX13_inlines_42 : decode cX13_inlines 42 = .ok (.ireturn, 1) := by decide +kernel
theorem dX13_steps_0 : decode cX13_steps 0 = .ok (.aload_n 0, 1) := by decide +kernel
theorem dX13_steps_1 : decode cX13_steps 1 = .ok (.invokevirtual 195, 3) := by decide +kernel
theorem dX13_steps_4 : decode cX13_steps 4 = .ok (.istore_n 1, 1) := by decide +kernel
theorem dX13_steps_5 : decode cX13_steps 5 = .ok (.iload_n 1, 1) := by decide +kernel
theorem dX13_steps_6 : decode cX13_steps 6 = .ok (.iconst (-1), 1) := by decide +kernel
theorem dX13_steps_7 : decode cX13_steps 7 = .ok (.if_icmp .ne 5, 3) := by decide +kernel
theorem dX13_steps_10 : decode cX13_steps 10 = .ok (.iconst 0, 1) := by decide +kernel
theorem dX13_steps_11 : decode cX13_steps 11 = .ok (.ireturn, 1) := by decide +kernel
theorem dX13_steps_12 : decode cX13_steps 12 = .ok (.aload_n 0, 1) := by decide +kernel
theorem dX13_steps_13 : decode cX13_steps 13 = .ok (.iload_n 1, 1) := by decide +kernel
theorem dX13_steps_14 : decode cX13_steps 14 = .ok (.invokevirtual 198, 3) := by decide +kernel
theorem dX13_steps_17 : decode cX13_steps 17 = .ok (.istore_n 2, 1) := by decide +kernel
theorem dX13_steps_18 : decode cX13_steps 18 = .ok (.aload_n 0, 1) := by decide +kernel
theorem dX13_steps_19 : decode cX13_steps 19 = .ok (.iconst 0, 1) := by decide +kernel
theorem dX13_steps_20 : decode cX13_steps 20 = .ok (.iconst 1, 1) := by decide +kernel
theorem dX13_steps_21 : decode cX13_steps 21 = .ok (.invokevirtual 177, 3) := by decide +kernel
theorem dX13_steps_24 : decode cX13_steps 24 = .ok (.aload_n 0, 1) := by decide +kernel
theorem dX13_steps_25 : decode cX13_steps 25 = .ok (.getfield 9, 3) := by decide +kernel
theorem dX13_steps_28 : decode cX13_steps 28 = .ok (.iconst 2, 1) := by decide +kernel
theorem dX13_steps_29 : decode cX13_steps 29 = .ok (.iaload, 1) := by decide +kernel
theorem dX13_steps_30 : decode cX13_steps 30 = .ok (.iconst 1, 1) := by decide +kernel
theorem dX13_steps_31 : decode cX13_steps 31 = .ok (.if_icmp .ne 10, 3) := by decide +kernel
theorem dX13_steps_34 : decode cX13_steps 34 = .ok (.aload_n 0, 1) := by decide +kernel
theorem dX13_steps_35 : decode cX13_steps 35 = .ok (.invokevirtual 201, 3) := by decide +kernel
theorem dX13_steps_38 : decode cX13_steps 38 = .ok (.goto 4, 3) := by decide +kernel
theorem dX13_steps_41 : decode cX13_steps 41 = .ok (.iconst 0, 1) := by decide +kernel
theorem dX13_steps_42 : decode cX13_steps 42 = .ok (.istore_n 3, 1) := by decide +kernel
theorem dX13_steps_43 : decode cX13_steps 43 = .ok (.iload_n 2, 1) := by decide +kernel
theorem dX13_steps_44 : decode cX13_steps 44 = .ok (.ifCond .lt 11, 3) := by decide +kernel
theorem dX13_steps_47 : decode cX13_steps 47 = .ok (.iload_n 3, 1) := by decide +kernel
theorem dX13_steps_48 : decode cX13_steps 48 = .ok (.ifCond .lt 7, 3) := by decide +kernel
theorem dX13_steps_51 : decode cX13_steps 51 = .ok (.iconst 1, 1) := by decide +kernel
theorem dX13_steps_52 : decode cX13_steps 52 = .ok (.goto 4, 3) := by decide +kernel
theorem dX13_steps_55 : decode cX13_steps 55 = .ok (.iconst 0, 1) := by decide +kernel
theorem dX13_steps_56 : decode cX13_steps 56 = .ok (.ireturn, 1) := by decide +kernel
theorem dX13_stepsMany_0 : decode cX13_stepsMany 0 = .ok (.iconst 0, 1) := by decide +kernel
theorem dX13_stepsMany_1 : decode cX13_stepsMany 1 = .ok (.istore_n 2, 1) := by decide +kernel
theorem dX13_stepsMany_2 : decode cX13_stepsMany 2 = .ok (.iload_n 2, 1) := by decide +kernel
theorem dX13_stepsMany_3 : decode cX13_stepsMany 3 = .ok (.iload_n 1, 1) := by decide +kernel
theorem dX13_stepsMany_4 : decode cX13_stepsMany 4 = .ok (.if_icmp .ge 16, 3) := by decide +kernel
theorem dX13_stepsMany_7 : decode cX13_stepsMany 7 = .ok (.aload_n 0, 1) := by decide +kernel
theorem dX13_stepsMany_8 : decode cX13_stepsMany 8 = .ok (.invokevirtual 204, 3) := by decide +kernel
theorem dX13_stepsMany_11 : decode cX13_stepsMany 11 = .ok (.ifCond .eq 9, 3) := by decide +kernel
theorem dX13_stepsMany_14 : decode cX13_stepsMany 14 = .ok (.iinc 2 1, 3) := by decide +kernel
theorem dX13_stepsMany_17 : decode cX13_stepsMany 17 = .ok (.goto (-15), 3) := by decide +kernel
theorem dX13_stepsMany_20 : decode cX13_stepsMany 20 = .ok (.iload_n 2, 1) := by decide +kernel
theorem dX13_stepsMany_21 : decode cX13_stepsMany 21 = .ok (.ireturn, 1) := by decide +kernel
theorem dX13_aside_0 : decode cX13_aside 0 = .ok (.aload_n 0, 1) := by decide +kernel
theorem dX13_aside_1 : decode cX13_aside 1 = .ok (.getfield 9, 3) := by decide +kernel
theorem dX13_aside_4 : decode cX13_aside 4 = .ok (.iconst 0, 1) := by decide +kernel
theorem dX13_aside_5 : decode cX13_aside 5 = .ok (.aload_n 0, 1) := by decide +kernel
theorem dX13_aside_6 : decode cX13_aside 6 = .ok (.getfield 13, 3) := by decide +kernel
theorem dX13_aside_9 : decode cX13_aside 9 = .ok (.iconst 0, 1) := by decide +kernel
theorem dX13_aside_10 : decode cX13_aside 10 = .ok (.invokestatic 208, 3) := by decide +kernel
theorem dX13_aside_13 : decode cX13_aside 13 = .ok (.return_, 1) := by decide +kernel
theorem dX13_back_0 : decode cX13_back 0 = .ok (.aload_n 0, 1) := by decide +kernel
theorem dX13_back_1 : decode cX13_back 1 = .ok (.getfield 13, 3) := by decide +kernel
theorem dX13_back_4 : decode cX13_back 4 = .ok (.iconst 0, 1) := by decide +kernel
theorem dX13_back_5 : decode cX13_back 5 = .ok (.aload_n 0, 1) := by decide +kernel
theorem dX13_back_6 : decode cX13_back 6 = .ok (.getfield 9, 3) := by decide +kernel
theorem dX13_back_9 : decode cX13_back 9 = .ok (.iconst 0, 1) := by decide +kernel
theorem dX13_back_10 : decode cX13_back 10 = .ok (.invokestatic 208, 3) := by decide +kernel
theorem dX13_back_13 : decode cX13_back 13 = .ok (.iload_n 1, 1) := by decide +kernel
theorem dX13_back_14 : decode cX13_back 14 = .ok (.ireturn, 1) := by decide +kernel
theorem dX13_feeds_0 : decode cX13_feeds 0 = .ok (.bipush 24, 2) := by decide +kernel
theorem dX13_feeds_2 : decode cX13_feeds 2 = .ok (.istore_n 2, 1) := by decide +kernel
theorem dX13_feeds_3 : decode cX13_feeds 3 = .ok (.iload_n 2, 1) := by decide +kernel
theorem dX13_feeds_4 : decode cX13_feeds 4 = .ok (.ifCond .lt 44, 3) := by decide +kernel
theorem dX13_feeds_7 : decode cX13_feeds 7 = .ok (.iload_n 1, 1) := by decide +kernel
theorem dX13_feeds_8 : decode cX13_feeds 8 = .ok (.iload_n 2, 1) := by decide +kernel
theorem dX13_feeds_9 : decode cX13_feeds 9 = .ok (.ishr, 1) := by decide +kernel
theorem dX13_feeds_10 : decode cX13_feeds 10 = .ok (.sipush 255, 3) := by decide +kernel
theorem dX13_feeds_13 : decode cX13_feeds 13 = .ok (.iand, 1) := by decide +kernel
theorem dX13_feeds_14 : decode cX13_feeds 14 = .ok (.istore_n 3, 1) := by decide +kernel
theorem dX13_feeds_15 : decode cX13_feeds 15 = .ok (.iload_n 3, 1) := by decide +kernel
theorem dX13_feeds_16 : decode cX13_feeds 16 = .ok (.ifCond .ne 6, 3) := by decide +kernel
theorem dX13_feeds_19 : decode cX13_feeds 19 = .ok (.goto 23, 3) := by decide +kernel
theorem dX13_feeds_22 : decode cX13_feeds 22 = .ok (.aload_n 0, 1) := by decide +kernel
theorem dX13_feeds_23 : decode cX13_feeds 23 = .ok (.getfield 58, 3) := by decide +kernel
theorem dX13_feeds_26 : decode cX13_feeds 26 = .ok (.aload_n 0, 1) := by decide +kernel
theorem dX13_feeds_27 : decode cX13_feeds 27 = .ok (.getfield 212, 3) := by decide +kernel
theorem dX13_feeds_30 : decode cX13_feeds 30 = .ok (.iload_n 3, 1) := by decide +kernel
theorem dX13_feeds_31 : decode cX13_feeds 31 = .ok (.iastore, 1) := by decide +kernel
theorem dX13_feeds_32 : decode cX13_feeds 32 = .ok (.aload_n 0, 1) := by decide +kernel
theorem dX13_feeds_33 : decode cX13_feeds 33 = .ok (.dup, 1) := by decide +kernel
theorem dX13_feeds_34 : decode cX13_feeds 34 = .ok (.getfield 212, 3) := by decide +kernel
theorem dX13_feeds_37 : decode cX13_feeds 37 = .ok (.iconst 1, 1) := by decide +kernel
theorem dX13_feeds_38 : decode cX13_feeds 38 = .ok (.iadd, 1) := by decide +kernel
theorem dX13_feeds_39 : decode cX13_feeds 39 = .ok (.putfield 212, 3) := by decide +kernel
theorem dX13_feeds_42 : decode cX13_feeds 42 = .ok (.iinc 2 (-8), 3) := by decide +kernel
theorem dX13_feeds_45 : decode cX13_feeds 45 = .ok (.goto (-42), 3) := by decide +kernel
theorem dX13_feeds_48 : decode cX13_feeds 48 = .ok (.return_, 1) := by decide +kernel
theorem dX13_bytesIn_0 : decode cX13_bytesIn 0 = .ok (.iload_n 0, 1) := by decide +kernel
theorem dX13_bytesIn_1 : decode cX13_bytesIn 1 = .ok (.bipush 24, 2) := by decide +kernel
theorem dX13_bytesIn_3 : decode cX13_bytesIn 3 = .ok (.ishr, 1) := by decide +kernel
theorem dX13_bytesIn_4 : decode cX13_bytesIn 4 = .ok (.sipush 255, 3) := by decide +kernel
theorem dX13_bytesIn_7 : decode cX13_bytesIn 7 = .ok (.iand, 1) := by decide +kernel
theorem dX13_bytesIn_8 : decode cX13_bytesIn 8 = .ok (.ifCond .le 7, 3) := by decide +kernel
theorem dX13_bytesIn_11 : decode cX13_bytesIn 11 = .ok (.iconst 1, 1) := by decide +kernel
theorem dX13_bytesIn_12 : decode cX13_bytesIn 12 = .ok (.goto 4, 3) := by decide +kernel
theorem dX13_bytesIn_15 : decode cX13_bytesIn 15 = .ok (.iconst 0, 1) := by decide +kernel
theorem dX13_bytesIn_16 : decode cX13_bytesIn 16 = .ok (.invokestatic 115, 3) := by decide +kernel
theorem dX13_bytesIn_19 : decode cX13_bytesIn 19 = .ok (.iload_n 0, 1) := by decide +kernel
theorem dX13_bytesIn_20 : decode cX13_bytesIn 20 = .ok (.bipush 16, 2) := by decide +kernel
theorem dX13_bytesIn_22 : decode cX13_bytesIn 22 = .ok (.ishr, 1) := by decide +kernel
theorem dX13_bytesIn_23 : decode cX13_bytesIn 23 = .ok (.sipush 255, 3) := by decide +kernel
theorem dX13_bytesIn_26 : decode cX13_bytesIn 26 = .ok (.iand, 1) := by decide +kernel
theorem dX13_bytesIn_27 : decode cX13_bytesIn 27 = .ok (.ifCond .le 7, 3) := by decide +kernel
theorem dX13_bytesIn_30 : decode cX13_bytesIn 30 = .ok (.iconst 1, 1) := by decide +kernel
theorem dX13_bytesIn_31 : decode cX13_bytesIn 31 = .ok (.goto 4, 3) := by decide +kernel
theorem dX13_bytesIn_34 : decode cX13_bytesIn 34 = .ok (.iconst 0, 1) := by decide +kernel
theorem dX13_bytesIn_35 : decode cX13_bytesIn 35 = .ok (.invokestatic 115, 3) := by decide +kernel
theorem dX13_bytesIn_38 : decode cX13_bytesIn 38 = .ok (.iadd, 1) := by decide +kernel
theorem dX13_bytesIn_39 : decode cX13_bytesIn 39 = .ok (.iload_n 0, 1) := by decide +kernel
theorem dX13_bytesIn_40 : decode cX13_bytesIn 40 = .ok (.bipush 8, 2) := by decide +kernel
theorem dX13_bytesIn_42 : decode cX13_bytesIn 42 = .ok (.ishr, 1) := by decide +kernel
theorem dX13_bytesIn_43 : decode cX13_bytesIn 43 = .ok (.sipush 255, 3) := by decide +kernel
theorem dX13_bytesIn_46 : decode cX13_bytesIn 46 = .ok (.iand, 1) := by decide +kernel
theorem dX13_bytesIn_47 : decode cX13_bytesIn 47 = .ok (.ifCond .le 7, 3) := by decide +kernel
theorem dX13_bytesIn_50 : decode cX13_bytesIn 50 = .ok (.iconst 1, 1) := by decide +kernel
theorem dX13_bytesIn_51 : decode cX13_bytesIn 51 = .ok (.goto 4, 3) := by decide +kernel
theorem dX13_bytesIn_54 : decode cX13_bytesIn 54 = .ok (.iconst 0, 1) := by decide +kernel
theorem dX13_bytesIn_55 : decode cX13_bytesIn 55 = .ok (.invokestatic 115, 3) := by decide +kernel
theorem dX13_bytesIn_58 : decode cX13_bytesIn 58 = .ok (.iadd, 1) := by decide +kernel
theorem dX13_bytesIn_59 : decode cX13_bytesIn 59 = .ok (.iload_n 0, 1) := by decide +kernel
theorem dX13_bytesIn_60 : decode cX13_bytesIn 60 = .ok (.sipush 255, 3) := by decide +kernel
theorem dX13_bytesIn_63 : decode cX13_bytesIn 63 = .ok (.iand, 1) := by decide +kernel
theorem dX13_bytesIn_64 : decode cX13_bytesIn 64 = .ok (.ifCond .le 7, 3) := by decide +kernel
theorem dX13_bytesIn_67 : decode cX13_bytesIn 67 = .ok (.iconst 1, 1) := by decide +kernel
theorem dX13_bytesIn_68 : decode cX13_bytesIn 68 = .ok (.goto 4, 3) := by decide +kernel
theorem dX13_bytesIn_71 : decode cX13_bytesIn 71 = .ok (.iconst 0, 1) := by decide +kernel
theorem dX13_bytesIn_72 : decode cX13_bytesIn 72 = .ok (.invokestatic 115, 3) := by decide +kernel
theorem dX13_bytesIn_75 : decode cX13_bytesIn 75 = .ok (.iadd, 1) := by decide +kernel
theorem dX13_bytesIn_76 : decode cX13_bytesIn 76 = .ok (.ireturn, 1) := by decide +kernel
theorem dX13_feed_0 : decode cX13_feed 0 = .ok (.aload_n 0, 1) := by decide +kernel
theorem dX13_feed_1 : decode cX13_feed 1 = .ok (.iconst 0, 1) := by decide +kernel
theorem dX13_feed_2 : decode cX13_feed 2 = .ok (.putfield 100, 3) := by decide +kernel
theorem dX13_feed_5 : decode cX13_feed 5 = .ok (.aload_n 0, 1) := by decide +kernel
theorem dX13_feed_6 : decode cX13_feed 6 = .ok (.getfield 212, 3) := by decide +kernel
theorem dX13_feed_9 : decode cX13_feed 9 = .ok (.iload_n 1, 1) := by decide +kernel
theorem dX13_feed_10 : decode cX13_feed 10 = .ok (.invokestatic 215, 3) := by decide +kernel
theorem dX13_feed_13 : decode cX13_feed 13 = .ok (.iadd, 1) := by decide +kernel
theorem dX13_feed_14 : decode cX13_feed 14 = .ok (.iload_n 2, 1) := by decide +kernel
theorem dX13_feed_15 : decode cX13_feed 15 = .ok (.invokestatic 215, 3) := by decide +kernel
theorem dX13_feed_18 : decode cX13_feed 18 = .ok (.iadd, 1) := by decide +kernel
theorem dX13_feed_19 : decode cX13_feed 19 = .ok (.iload_n 3, 1) := by decide +kernel
theorem dX13_feed_20 : decode cX13_feed 20 = .ok (.invokestatic 215, 3) := by decide +kernel
theorem dX13_feed_23 : decode cX13_feed 23 = .ok (.iadd, 1) := by decide +kernel
theorem dX13_feed_24 : decode cX13_feed 24 = .ok (.iload 4, 2) := by decide +kernel
theorem dX13_feed_26 : decode cX13_feed 26 = .ok (.invokestatic 215, 3) := by decide +kernel
theorem dX13_feed_29 : decode cX13_feed 29 = .ok (.iadd, 1) := by decide +kernel
theorem dX13_feed_30 : decode cX13_feed 30 = .ok (.iload 5, 2) := by decide +kernel
theorem dX13_feed_32 : decode cX13_feed 32 = .ok (.invokestatic 215, 3) := by decide +kernel
theorem dX13_feed_35 : decode cX13_feed 35 = .ok (.iadd, 1) := by decide +kernel
theorem dX13_feed_36 : decode cX13_feed 36 = .ok (.sipush 600, 3) := by decide +kernel
theorem dX13_feed_39 : decode cX13_feed 39 = .ok (.if_icmp .le 5, 3) := by decide +kernel
theorem dX13_feed_42 : decode cX13_feed 42 = .ok (.iconst (-1), 1) := by decide +kernel
theorem dX13_feed_43 : decode cX13_feed 43 = .ok (.ireturn, 1) := by decide +kernel
theorem dX13_feed_44 : decode cX13_feed 44 = .ok (.aload_n 0, 1) := by decide +kernel
theorem dX13_feed_45 : decode cX13_feed 45 = .ok (.iload_n 1, 1) := by decide +kernel
theorem dX13_feed_46 : decode cX13_feed 46 = .ok (.invokevirtual 218, 3) := by decide +kernel
theorem dX13_feed_49 : decode cX13_feed 49 = .ok (.aload_n 0, 1) := by decide +kernel
theorem dX13_feed_50 : decode cX13_feed 50 = .ok (.iload_n 2, 1) := by decide +kernel
theorem dX13_feed_51 : decode cX13_feed 51 = .ok (.invokevirtual 218, 3) := by decide +kernel
theorem dX13_feed_54 : decode cX13_feed 54 = .ok (.aload_n 0, 1) := by decide +kernel
theorem dX13_feed_55 : decode cX13_feed 55 = .ok (.iload_n 3, 1) := by decide +kernel
theorem dX13_feed_56 : decode cX13_feed 56 = .ok (.invokevirtual 218, 3) := by decide +kernel
theorem dX13_feed_59 : decode cX13_feed 59 = .ok (.aload_n 0, 1) := by decide +kernel
theorem dX13_feed_60 : decode cX13_feed 60 = .ok (.iload 4, 2) := by decide +kernel
theorem dX13_feed_62 : decode cX13_feed 62 = .ok (.invokevirtual 218, 3) := by decide +kernel
theorem dX13_feed_65 : decode cX13_feed 65 = .ok (.aload_n 0, 1) := by decide +kernel
theorem dX13_feed_66 : decode cX13_feed 66 = .ok (.iload 5, 2) := by decide +kernel
theorem dX13_feed_68 : decode cX13_feed 68 = .ok (.invokevirtual 218, 3) := by decide +kernel
theorem dX13_feed_71 : decode cX13_feed 71 = .ok (.aload_n 0, 1) := by decide +kernel
theorem dX13_feed_72 : decode cX13_feed 72 = .ok (.getfield 212, 3) := by decide +kernel
theorem dX13_feed_75 : decode cX13_feed 75 = .ok (.ireturn, 1) := by decide +kernel
theorem dX13_byteAt_0 : decode cX13_byteAt 0 = .ok (.iload_n 1, 1) := by decide +kernel
theorem dX13_byteAt_1 : decode cX13_byteAt 1 = .ok (.aload_n 0, 1) := by decide +kernel
theorem dX13_byteAt_2 : decode cX13_byteAt 2 = .ok (.getfield 212, 3) := by decide +kernel
theorem dX13_byteAt_5 : decode cX13_byteAt 5 = .ok (.if_icmp .ge 12, 3) := by decide +kernel
theorem dX13_byteAt_8 : decode cX13_byteAt 8 = .ok (.aload_n 0, 1) := by decide +kernel
theorem dX13_byteAt_9 : decode cX13_byteAt 9 = .ok (.getfield 58, 3) := by decide +kernel
theorem dX13_byteAt_12 : decode cX13_byteAt 12 = .ok (.iload_n 1, 1) := by decide +kernel
theorem dX13_byteAt_13 : decode cX13_byteAt 13 = .ok (.iaload, 1) := by decide +kernel
theorem dX13_byteAt_14 : decode cX13_byteAt 14 = .ok (.goto 4, 3) := by decide +kernel
theorem dX13_byteAt_17 : decode cX13_byteAt 17 = .ok (.iconst (-1), 1) := by decide +kernel
theorem dX13_byteAt_18 : decode cX13_byteAt 18 = .ok (.ireturn, 1) := by decide +kernel
theorem dX13_isLetterAt_0 : decode cX13_isLetterAt 0 = .ok (.aload_n 0, 1) := by decide +kernel
theorem dX13_isLetterAt_1 : decode cX13_isLetterAt 1 = .ok (.iload_n 1, 1) := by decide +kernel
theorem dX13_isLetterAt_2 : decode cX13_isLetterAt 2 = .ok (.invokevirtual 221, 3) := by decide +kernel
theorem dX13_isLetterAt_5 : decode cX13_isLetterAt 5 = .ok (.bipush 97, 2) := by decide +kernel
theorem dX13_isLetterAt_7 : decode cX13_isLetterAt 7 = .ok (.bipush 122, 2) := by decide +kernel
theorem dX13_isLetterAt_9 : decode cX13_isLetterAt 9 = .ok (.invokestatic 224, 3) := by decide +kernel
theorem dX13_isLetterAt_12 : decode cX13_isLetterAt 12 = .ok (.ireturn, 1) := by decide +kernel
theorem dX13_isDigitAt_0 : decode cX13_isDigitAt 0 = .ok (.aload_n 0, 1) := by decide +kernel
theorem dX13_isDigitAt_1 : decode cX13_isDigitAt 1 = .ok (.iload_n 1, 1) := by decide +kernel
theorem dX13_isDigitAt_2 : decode cX13_isDigitAt 2 = .ok (.invokevirtual 221, 3) := by decide +kernel
theorem dX13_isDigitAt_5 : decode cX13_isDigitAt 5 = .ok (.bipush 48, 2) := by decide +kernel
theorem dX13_isDigitAt_7 : decode cX13_isDigitAt 7 = .ok (.bipush 57, 2) := by decide +kernel
theorem dX13_isDigitAt_9 : decode cX13_isDigitAt 9 = .ok (.invokestatic 224, 3) := by decide +kernel
theorem dX13_isDigitAt_12 : decode cX13_isDigitAt 12 = .ok (.ireturn, 1) := by decide +kernel
theorem dX13_advance_0 : decode cX13_advance 0 = .ok (.aload_n 0, 1) := by decide +kernel
theorem dX13_advance_1 : decode cX13_advance 1 = .ok (.aload_n 0, 1) := by decide +kernel
theorem dX13_advance_2 : decode cX13_advance 2 = .ok (.getfield 228, 3) := by decide +kernel
theorem dX13_advance_5 : decode cX13_advance 5 = .ok (.invokevirtual 221, 3) := by decide +kernel
theorem dX13_advance_8 : decode cX13_advance 8 = .ok (.bipush 32, 2) := by decide +kernel
theorem dX13_advance_10 : decode cX13_advance 10 = .ok (.if_icmp .eq 16, 3) := by decide +kernel
theorem dX13_advance_13 : decode cX13_advance 13 = .ok (.aload_n 0, 1) := by decide +kernel
theorem dX13_advance_14 : decode cX13_advance 14 = .ok (.aload_n 0, 1) := by decide +kernel
theorem dX13_advance_15 : decode cX13_advance 15 = .ok (.getfield 228, 3) := by decide +kernel
theorem dX13_advance_18 : decode cX13_advance 18 = .ok (.invokevirtual 221, 3) := by decide +kernel
theorem dX13_advance_21 : decode cX13_advance 21 = .ok (.bipush 10, 2) := by decide +kernel
theorem dX13_advance_23 : decode cX13_advance 23 = .ok (.if_icmp .ne 16, 3) := by decide +kernel
theorem dX13_advance_26 : decode cX13_advance 26 = .ok (.aload_n 0, 1) := by decide +kernel
theorem dX13_advance_27 : decode cX13_advance 27 = .ok (.dup, 1) := by decide +kernel
theorem dX13_advance_28 : decode cX13_advance 28 = .ok (.getfield 228, 3) := by decide +kernel
theorem dX13_advance_31 : decode cX13_advance 31 = .ok (.iconst 1, 1) := by decide +kernel
theorem dX13_advance_32 : decode cX13_advance 32 = .ok (.iadd, 1) := by decide +kernel
theorem dX13_advance_33 : decode cX13_advance 33 = .ok (.putfield 228, 3) := by decide +kernel
theorem dX13_advance_36 : decode cX13_advance 36 = .ok (.goto (-36), 3) := by decide +kernel
theorem dX13_advance_39 : decode cX13_advance 39 = .ok (.aload_n 0, 1) := by decide +kernel
theorem dX13_advance_40 : decode cX13_advance 40 = .ok (.aload_n 0, 1) := by decide +kernel
theorem dX13_advance_41 : decode cX13_advance 41 = .ok (.getfield 228, 3) := by decide +kernel
theorem dX13_advance_44 : decode cX13_advance 44 = .ok (.putfield 231, 3) := by decide +kernel
theorem dX13_advance_47 : decode cX13_advance 47 = .ok (.aload_n 0, 1) := by decide +kernel
theorem dX13_advance_48 : decode cX13_advance 48 = .ok (.iconst 0, 1) := by decide +kernel
theorem dX13_advance_49 : decode cX13_advance 49 = .ok (.putfield 234, 3) := by decide +kernel
theorem dX13_advance_52 : decode cX13_advance 52 = .ok (.aload_n 0, 1) := by decide +kernel
theorem dX13_advance_53 : decode cX13_advance 53 = .ok (.getfield 231, 3) := by decide +kernel
theorem dX13_advance_56 : decode cX13_advance 56 = .ok (.aload_n 0, 1) := by decide +kernel
theorem dX13_advance_57 : decode cX13_advance 57 = .ok (.getfield 212, 3) := by decide +kernel
theorem dX13_advance_60 : decode cX13_advance 60 = .ok (.if_icmp .ne 11, 3) := by decide +kernel
theorem dX13_advance_63 : decode cX13_advance 63 = .ok (.aload_n 0, 1) := by decide +kernel
theorem dX13_advance_64 : decode cX13_advance 64 = .ok (.iconst 0, 1) := by decide +kernel
theorem dX13_advance_65 : decode cX13_advance 65 = .ok (.putfield 237, 3) := by decide +kernel
theorem dX13_advance_68 : decode cX13_advance 68 = .ok (.goto 173, 3) := by decide +kernel
theorem dX13_advance_71 : decode cX13_advance 71 = .ok (.aload_n 0, 1) := by decide +kernel
theorem dX13_advance_72 : decode cX13_advance 72 = .ok (.aload_n 0, 1) := by decide +kernel
theorem dX13_advance_73 : decode cX13_advance 73 = .ok (.getfield 231, 3) := by decide +kernel
theorem dX13_advance_76 : decode cX13_advance 76 = .ok (.invokevirtual 240, 3) := by decide +kernel
theorem dX13_advance_79 : decode cX13_advance 79 = .ok (.ifCond .eq 32, 3) := by decide +kernel
theorem dX13_advance_82 : decode cX13_advance 82 = .ok (.aload_n 0, 1) := by decide +kernel
theorem dX13_advance_83 : decode cX13_advance 83 = .ok (.iconst 1, 1) := by decide +kernel
theorem dX13_advance_84 : decode cX13_advance 84 = .ok (.putfield 237, 3) := by decide +kernel
theorem dX13_advance_87 : decode cX13_advance 87 = .ok (.aload_n 0, 1) := by decide +kernel
theorem dX13_advance_88 : decode cX13_advance 88 = .ok (.aload_n 0, 1) := by decide +kernel
theorem dX13_advance_89 : decode cX13_advance 89 = .ok (.getfield 228, 3) := by decide +kernel
theorem dX13_advance_92 : decode cX13_advance 92 = .ok (.invokevirtual 240, 3) := by decide +kernel
theorem dX13_advance_95 : decode cX13_advance 95 = .ok (.ifCond .eq 146, 3) := by decide +kernel
theorem dX13_advance_98 : decode cX13_advance 98 = .ok (.aload_n 0, 1) := by decide +kernel
theorem dX13_advance_99 : decode cX13_advance 99 = .ok (.dup, 1) := by decide +kernel
theorem dX13_advance_100 : decode cX13_advance 100 = .ok (.getfield 228, 3) := by decide +kernel
theorem dX13_advance_103 : decode cX13_advance 103 = .ok (.iconst 1, 1) := by decide +kernel
theorem dX13_advance_104 : decode cX13_advance 104 = .ok (.iadd, 1) := by decide +kernel
theorem dX13_advance_105 : decode cX13_advance 105 = .ok (.putfield 228, 3) := by decide +kernel
theorem dX13_advance_108 : decode cX13_advance 108 = .ok (.goto (-21), 3) := by decide +kernel
theorem dX13_advance_111 : decode cX13_advance 111 = .ok (.aload_n 0, 1) := by decide +kernel
theorem dX13_advance_112 : decode cX13_advance 112 = .ok (.aload_n 0, 1) := by decide +kernel
theorem dX13_advance_113 : decode cX13_advance 113 = .ok (.getfield 231, 3) := by decide +kernel
theorem dX13_advance_116 : decode cX13_advance 116 = .ok (.invokevirtual 243, 3) := by decide +kernel
theorem dX13_advance_119 : decode cX13_advance 119 = .ok (.ifCond .eq 75, 3) := by decide +kernel
theorem dX13_advance_122 : decode cX13_advance 122 = .ok (.aload_n 0, 1) := by decide +kernel
theorem dX13_advance_123 : decode cX13_advance 123 = .ok (.iconst 2, 1) := by decide +kernel
theorem dX13_advance_124 : decode cX13_advance 124 = .ok (.putfield 237, 3) := by decide +kernel
theorem dX13_advance_127 : decode cX13_advance 127 = .ok (.aload_n 0, 1) := by decide +kernel
theorem dX13_advance_128 : decode cX13_advance 128 = .ok (.aload_n 0, 1) := by decide +kernel
theorem dX13_advance_129 : decode cX13_advance 129 = .ok (.getfield 228, 3) := by decide +kernel
theorem dX13_advance_132 : decode cX13_advance 132 = .ok (.invokevirtual 243, 3) := by decide +kernel
theorem dX13_advance_135 : decode cX13_advance 135 = .ok (.ifCond .eq 106, 3) := by decide +kernel
theorem dX13_advance_138 : decode cX13_advance 138 = .ok (.aload_n 0, 1) := by decide +kernel
theorem dX13_advance_139 : decode cX13_advance 139 = .ok (.aload_n 0, 1) := by decide +kernel
theorem dX13_advance_140 : decode cX13_advance 140 = .ok (.getfield 228, 3) := by decide +kernel
theorem dX13_advance_143 : decode cX13_advance 143 = .ok (.aload_n 0, 1) := by decide +kernel
theorem dX13_advance_144 : decode cX13_advance 144 = .ok (.getfield 231, 3) := by decide +kernel
theorem dX13_advance_147 : decode cX13_advance 147 = .ok (.isub, 1) := by decide +kernel
theorem dX13_advance_148 : decode cX13_advance 148 = .ok (.bipush 6, 2) := by decide +kernel
theorem dX13_advance_150 : decode cX13_advance 150 = .ok (.if_icmp .ge 26, 3) := by decide +kernel
theorem dX13_advance_153 : decode cX13_advance 153 = .ok (.bipush 10, 2) := by decide +kernel
theorem dX13_advance_155 : decode cX13_advance 155 = .ok (.aload_n 0, 1) := by decide +kernel
theorem dX13_advance_156 : decode cX13_advance 156 = .ok (.getfield 234, 3) := by decide +kernel
theorem dX13_advance_159 : decode cX13_advance 159 = .ok (.imul, 1) := by decide +kernel
theorem dX13_advance_160 : decode cX13_advance 160 = .ok (.aload_n 0, 1) := by decide +kernel
theorem dX13_advance_161 : decode cX13_advance 161 = .ok (.getfield 58, 3) := by decide +kernel
theorem dX13_advance_164 : decode cX13_advance 164 = .ok (.aload_n 0, 1) := by decide +kernel
theorem dX13_advance_165 : decode cX13_advance 165 = .ok (.getfield 228, 3) := by decide +kernel
theorem dX13_advance_168 : decode cX13_advance 168 = .ok (.iaload, 1) := by decide +kernel
theorem dX13_advance_169 : decode cX13_advance 169 = .ok (.iadd, 1) := by decide +kernel
theorem dX13_advance_170 : decode cX13_advance 170 = .ok (.bipush 48, 2) := by decide +kernel
theorem dX13_advance_172 : decode cX13_advance 172 = .ok (.isub, 1) := by decide +kernel
theorem dX13_advance_173 : decode cX13_advance 173 = .ok (.goto 5, 3) := by decide +kernel
theorem dX13_advance_176 : decode cX13_advance 176 = .ok (.ldc 246, 2) := by decide +kernel
theorem dX13_advance_178 : decode cX13_advance 178 = .ok (.putfield 234, 3) := by decide +kernel
theorem dX13_advance_181 : decode cX13_advance 181 = .ok (.aload_n 0, 1) := by decide +kernel
theorem dX13_advance_182 : decode cX13_advance 182 = .ok (.dup, 1) := by decide +kernel
theorem dX13_advance_183 : decode cX13_advance 183 = .ok (.getfield 228, 3) := by decide +kernel
theorem dX13_advance_186 : decode cX13_advance 186 = .ok (.iconst 1, 1) := by decide +kernel
theorem dX13_advance_187 : decode cX13_advance 187 = .ok (.iadd, 1) := by decide +kernel
theorem dX13_advance_188 : decode cX13_advance 188 = .ok (.putfield 228, 3) := by decide +kernel
theorem dX13_advance_191 : decode cX13_advance 191 = .ok (.goto (-64), 3) := by decide +kernel
theorem dX13_advance_194 : decode cX13_advance 194 = .ok (.aload_n 0, 1) := by decide +kernel
theorem dX13_advance_195 : decode cX13_advance 195 = .ok (.getfield 58, 3) := by decide +kernel
theorem dX13_advance_198 : decode cX13_advance 198 = .ok (.aload_n 0, 1) := by decide +kernel
theorem dX13_advance_199 : decode cX13_advance 199 = .ok (.getfield 231, 3) := by decide +kernel
theorem dX13_advance_202 : decode cX13_advance 202 = .ok (.iaload, 1) := by decide +kernel
theorem dX13_advance_203 : decode cX13_advance 203 = .ok (.istore_n 1, 1) := by decide +kernel
theorem dX13_advance_204 : decode cX13_advance 204 = .ok (.aload_n 0, 1) := by decide +kernel
theorem dX13_advance_205 : decode cX13_advance 205 = .ok (.iload_n 1, 1) := by decide +kernel
theorem dX13_advance_206 : decode cX13_advance 206 = .ok (.bipush 59, 2) := by decide +kernel
theorem dX13_advance_208 : decode cX13_advance 208 = .ok (.if_icmp .eq 15, 3) := by decide +kernel
theorem dX13_advance_211 : decode cX13_advance 211 = .ok (.iload_n 1, 1) := by decide +kernel
theorem dX13_advance_212 : decode cX13_advance 212 = .ok (.bipush 40, 2) := by decide +kernel
theorem dX13_advance_214 : decode cX13_advance 214 = .ok (.if_icmp .eq 9, 3) := by decide +kernel
theorem dX13_advance_217 : decode cX13_advance 217 = .ok (.iload_n 1, 1) := by decide +kernel
theorem dX13_advance_218 : decode cX13_advance 218 = .ok (.bipush 41, 2) := by decide +kernel
theorem dX13_advance_220 : decode cX13_advance 220 = .ok (.if_icmp .ne 7, 3) := by decide +kernel
theorem dX13_advance_223 : decode cX13_advance 223 = .ok (.iconst 3, 1) := by decide +kernel
theorem dX13_advance_224 : decode cX13_advance 224 = .ok (.goto 4, 3) := by decide +kernel
theorem dX13_advance_227 : decode cX13_advance 227 = .ok (.iconst 4, 1) := by decide +kernel
theorem dX13_advance_228 : decode cX13_advance 228 = .ok (.putfield 237, 3) := by decide +kernel
theorem dX13_advance_231 : decode cX13_advance 231 = .ok (.aload_n 0, 1) := by decide +kernel
theorem dX13_advance_232 : decode cX13_advance 232 = .ok (.dup, 1) := by decide +kernel
theorem dX13_advance_233 : decode cX13_advance 233 = .ok (.getfield 228, 3) := by decide +kernel
theorem dX13_advance_236 : decode cX13_advance 236 = .ok (.iconst 1, 1) := by decide +kernel
theorem dX13_advance_237 : decode cX13_advance 237 = .ok (.iadd, 1) := by decide +kernel
theorem dX13_advance_238 : decode cX13_advance 238 = .ok (.putfield 228, 3) := by decide +kernel
theorem dX13_advance_241 : decode cX13_advance 241 = .ok (.return_, 1) := by decide +kernel
theorem dX13_faulty_0 : decode cX13_faulty 0 = .ok (.aload_n 0, 1) := by decide +kernel
theorem dX13_faulty_1 : decode cX13_faulty 1 = .ok (.getfield 247, 3) := by decide +kernel
theorem dX13_faulty_4 : decode cX13_faulty 4 = .ok (.ifCond .ne 20, 3) := by decide +kernel
theorem dX13_faulty_7 : decode cX13_faulty 7 = .ok (.iload_n 1, 1) := by decide +kernel
theorem dX13_faulty_8 : decode cX13_faulty 8 = .ok (.ifCond .eq 16, 3) := by decide +kernel
theorem dX13_faulty_11 : decode cX13_faulty 11 = .ok (.aload_n 0, 1) := by decide +kernel
theorem dX13_faulty_12 : decode cX13_faulty 12 = .ok (.iload_n 2, 1) := by decide +kernel
theorem dX13_faulty_13 : decode cX13_faulty 13 = .ok (.putfield 247, 3) := by decide +kernel
theorem dX13_faulty_16 : decode cX13_faulty 16 = .ok (.aload_n 0, 1) := by decide +kernel
theorem dX13_faulty_17 : decode cX13_faulty 17 = .ok (.aload_n 0, 1) := by decide +kernel
theorem dX13_faulty_18 : decode cX13_faulty 18 = .ok (.getfield 231, 3) := by decide +kernel
theorem dX13_faulty_21 : decode cX13_faulty 21 = .ok (.putfield 250, 3) := by decide +kernel
theorem dX13_faulty_24 : decode cX13_faulty 24 = .ok (.aload_n 0, 1) := by decide +kernel
theorem dX13_faulty_25 : decode cX13_faulty 25 = .ok (.getfield 247, 3) := by decide +kernel
theorem dX13_faulty_28 : decode cX13_faulty 28 = .ok (.ifCond .eq 7, 3) := by decide +kernel
theorem dX13_faulty_31 : decode cX13_faulty 31 = .ok (.iconst 1, 1) := by decide +kernel
theorem dX13_faulty_32 : decode cX13_faulty 32 = .ok (.goto 4, 3) := by decide +kernel
theorem dX13_faulty_35 : decode cX13_faulty 35 = .ok (.iconst 0, 1) := by decide +kernel
theorem dX13_faulty_36 : decode cX13_faulty 36 = .ok (.ireturn, 1) := by decide +kernel
theorem dX13_length_0 : decode cX13_length 0 = .ok (.aload_n 0, 1) := by decide +kernel
theorem dX13_length_1 : decode cX13_length 1 = .ok (.getfield 228, 3) := by decide +kernel
theorem dX13_length_4 : decode cX13_length 4 = .ok (.aload_n 0, 1) := by decide +kernel
theorem dX13_length_5 : decode cX13_length 5 = .ok (.getfield 231, 3) := by decide +kernel
theorem dX13_length_8 : decode cX13_length 8 = .ok (.isub, 1) := by decide +kernel
theorem dX13_length_9 : decode cX13_length 9 = .ok (.ireturn, 1) := by decide +kernel
theorem dX13_isKey_0 : decode cX13_isKey 0 = .ok (.aload_n 0, 1) := by decide +kernel
theorem dX13_isKey_1 : decode cX13_isKey 1 = .ok (.getfield 247, 3) := by decide +kernel
theorem dX13_isKey_4 : decode cX13_isKey 4 = .ok (.ifCond .ne 22, 3) := by decide +kernel
theorem dX13_isKey_7 : decode cX13_isKey 7 = .ok (.aload_n 0, 1) := by decide +kernel
theorem dX13_isKey_8 : decode cX13_isKey 8 = .ok (.getfield 237, 3) := by decide +kernel
theorem dX13_isKey_11 : decode cX13_isKey 11 = .ok (.iconst 1, 1) := by decide +kernel
theorem dX13_isKey_12 : decode cX13_isKey 12 = .ok (.if_icmp .ne 14, 3) := by decide +kernel
theorem dX13_isKey_15 : decode cX13_isKey 15 = .ok (.aload_n 0, 1) := by decide +kernel
theorem dX13_isKey_16 : decode cX13_isKey 16 = .ok (.invokevirtual 253, 3) := by decide +kernel
theorem dX13_isKey_19 : decode cX13_isKey 19 = .ok (.aload_n 1, 1) := by decide +kernel
theorem dX13_isKey_20 : decode cX13_isKey 20 = .ok (.invokevirtual 256, 3) := by decide +kernel
theorem dX13_isKey_23 : decode cX13_isKey 23 = .ok (.if_icmp .eq 5, 3) := by decide +kernel
theorem dX13_isKey_26 : decode cX13_isKey 26 = .ok (.iconst 0, 1) := by decide +kernel
theorem dX13_isKey_27 : decode cX13_isKey 27 = .ok (.ireturn, 1) := by decide +kernel
theorem dX13_isKey_28 : decode cX13_isKey 28 = .ok (.iconst 0, 1) := by decide +kernel
theorem dX13_isKey_29 : decode cX13_isKey 29 = .ok (.istore_n 2, 1) := by decide +kernel
theorem dX13_isKey_30 : decode cX13_isKey 30 = .ok (.iload_n 2, 1) := by decide +kernel
theorem dX13_isKey_31 : decode cX13_isKey 31 = .ok (.aload_n 0, 1) := by decide +kernel
theorem dX13_isKey_32 : decode cX13_isKey 32 = .ok (.invokevirtual 253, 3) := by decide +kernel
theorem dX13_isKey_35 : decode cX13_isKey 35 = .ok (.if_icmp .ge 30, 3) := by decide +kernel
theorem dX13_isKey_38 : decode cX13_isKey 38 = .ok (.aload_n 0, 1) := by decide +kernel
theorem dX13_isKey_39 : decode cX13_isKey 39 = .ok (.getfield 58, 3) := by decide +kernel
theorem dX13_isKey_42 : decode cX13_isKey 42 = .ok (.aload_n 0, 1) := by decide +kernel
theorem dX13_isKey_43 : decode cX13_isKey 43 = .ok (.getfield 231, 3) := by decide +kernel
theorem dX13_isKey_46 : decode cX13_isKey 46 = .ok (.iload_n 2, 1) := by decide +kernel
theorem dX13_isKey_47 : decode cX13_isKey 47 = .ok (.iadd, 1) := by decide +kernel
theorem dX13_isKey_48 : decode cX13_isKey 48 = .ok (.iaload, 1) := by decide +kernel
theorem dX13_isKey_49 : decode cX13_isKey 49 = .ok (.aload_n 1, 1) := by decide +kernel
theorem dX13_isKey_50 : decode cX13_isKey 50 = .ok (.iload_n 2, 1) := by decide +kernel
theorem dX13_isKey_51 : decode cX13_isKey 51 = .ok (.invokevirtual 259, 3) := by decide +kernel
theorem dX13_isKey_54 : decode cX13_isKey 54 = .ok (.if_icmp .eq 5, 3) := by decide +kernel
theorem dX13_isKey_57 : decode cX13_isKey 57 = .ok (.iconst 0, 1) := by decide +kernel
theorem dX13_isKey_58 : decode cX13_isKey 58 = .ok (.ireturn, 1) := by decide +kernel
theorem dX13_isKey_59 : decode cX13_isKey 59 = .ok (.iinc 2 1, 3) := by decide +kernel
theorem dX13_isKey_62 : decode cX13_isKey 62 = .ok (.goto (-32), 3) := by decide +kernel
theorem dX13_isKey_65 : decode cX13_isKey 65 = .ok (.iconst 1, 1) := by decide +kernel
theorem dX13_isKey_66 : decode cX13_isKey 66 = .ok (.ireturn, 1) := by decide +kernel
theorem dX13_isSign_0 : decode cX13_isSign 0 = .ok (.aload_n 0, 1) := by decide +kernel
theorem dX13_isSign_1 : decode cX13_isSign 1 = .ok (.getfield 247, 3) := by decide +kernel
theorem dX13_isSign_4 : decode cX13_isSign 4 = .ok (.ifCond .ne 28, 3) := by decide +kernel
theorem dX13_isSign_7 : decode cX13_isSign 7 = .ok (.aload_n 0, 1) := by decide +kernel
theorem dX13_isSign_8 : decode cX13_isSign 8 = .ok (.getfield 237, 3) := by decide +kernel
theorem dX13_isSign_11 : decode cX13_isSign 11 = .ok (.iconst 3, 1) := by decide +kernel
theorem dX13_isSign_12 : decode cX13_isSign 12 = .ok (.if_icmp .ne 20, 3) := by decide +kernel
theorem dX13_isSign_15 : decode cX13_isSign 15 = .ok (.aload_n 0, 1) := by decide +kernel
theorem dX13_isSign_16 : decode cX13_isSign 16 = .ok (.getfield 58, 3) := by decide +kernel
theorem dX13_isSign_19 : decode cX13_isSign 19 = .ok (.aload_n 0, 1) := by decide +kernel
theorem dX13_isSign_20 : decode cX13_isSign 20 = .ok (.getfield 231, 3) := by decide +kernel
theorem dX13_isSign_23 : decode cX13_isSign 23 = .ok (.iaload, 1) := by decide +kernel
theorem dX13_isSign_24 : decode cX13_isSign 24 = .ok (.iload_n 1, 1) := by decide +kernel
theorem dX13_isSign_25 : decode cX13_isSign 25 = .ok (.if_icmp .ne 7, 3) := by decide +kernel
theorem dX13_isSign_28 : decode cX13_isSign 28 = .ok (.iconst 1, 1) := by decide +kernel
theorem dX13_isSign_29 : decode cX13_isSign 29 = .ok (.goto 4, 3) := by decide +kernel
theorem dX13_isSign_32 : decode cX13_isSign 32 = .ok (.iconst 0, 1) := by decide +kernel
theorem dX13_isSign_33 : decode cX13_isSign 33 = .ok (.ireturn, 1) := by decide +kernel
theorem dX13_takesSign_0 : decode cX13_takesSign 0 = .ok (.aload_n 0, 1) := by decide +kernel
theorem dX13_takesSign_1 : decode cX13_takesSign 1 = .ok (.aload_n 0, 1) := by decide +kernel
theorem dX13_takesSign_2 : decode cX13_takesSign 2 = .ok (.iload_n 1, 1) := by decide +kernel
theorem dX13_takesSign_3 : decode cX13_takesSign 3 = .ok (.invokevirtual 263, 3) := by decide +kernel
theorem dX13_takesSign_6 : decode cX13_takesSign 6 = .ok (.ifCond .ne 7, 3) := by decide +kernel
theorem dX13_takesSign_9 : decode cX13_takesSign 9 = .ok (.iconst 1, 1) := by decide +kernel
theorem dX13_takesSign_10 : decode cX13_takesSign 10 = .ok (.goto 4, 3) := by decide +kernel
theorem dX13_takesSign_13 : decode cX13_takesSign 13 = .ok (.iconst 0, 1) := by decide +kernel
theorem dX13_takesSign_14 : decode cX13_takesSign 14 = .ok (.iconst 1, 1) := by decide +kernel
theorem dX13_takesSign_15 : decode cX13_takesSign 15 = .ok (.invokevirtual 266, 3) := by decide +kernel
theorem dX13_takesSign_18 : decode cX13_takesSign 18 = .ok (.ifCond .ne 7, 3) := by decide +kernel
theorem dX13_takesSign_21 : decode cX13_takesSign 21 = .ok (.aload_n 0, 1) := by decide +kernel
theorem dX13_takesSign_22 : decode cX13_takesSign 22 = .ok (.invokevirtual 270, 3) := by decide +kernel
theorem dX13_takesSign_25 : decode cX13_takesSign 25 = .ok (.return_, 1) := by decide +kernel
theorem dX13_number_0 : decode cX13_number 0 = .ok (.aload_n 0, 1) := by decide +kernel
theorem dX13_number_1 : decode cX13_number 1 = .ok (.aload_n 0, 1) := by decide +kernel
theorem dX13_number_2 : decode cX13_number 2 = .ok (.getfield 237, 3) := by decide +kernel
theorem dX13_number_5 : decode cX13_number 5 = .ok (.iconst 2, 1) := by decide +kernel
theorem dX13_number_6 : decode cX13_number 6 = .ok (.if_icmp .eq 7, 3) := by decide +kernel
theorem dX13_number_9 : decode cX13_number 9 = .ok (.iconst 1, 1) := by decide +kernel
theorem dX13_number_10 : decode cX13_number 10 = .ok (.goto 4, 3) := by decide +kernel
theorem dX13_number_13 : decode cX13_number 13 = .ok (.iconst 0, 1) := by decide +kernel
theorem dX13_number_14 : decode cX13_number 14 = .ok (.iconst 1, 1) := by decide +kernel
theorem dX13_number_15 : decode cX13_number 15 = .ok (.invokevirtual 266, 3) := by decide +kernel
theorem dX13_number_18 : decode cX13_number 18 = .ok (.ifCond .ne 28, 3) := by decide +kernel
theorem dX13_number_21 : decode cX13_number 21 = .ok (.aload_n 0, 1) := by decide +kernel
theorem dX13_number_22 : decode cX13_number 22 = .ok (.aload_n 0, 1) := by decide +kernel
theorem dX13_number_23 : decode cX13_number 23 = .ok (.getfield 234, 3) := by decide +kernel
theorem dX13_number_26 : decode cX13_number 26 = .ok (.iload_n 1, 1) := by decide +kernel
theorem dX13_number_27 : decode cX13_number 27 = .ok (.iload_n 2, 1) := by decide +kernel
theorem dX13_number_28 : decode cX13_number 28 = .ok (.invokestatic 224, 3) := by decide +kernel
theorem dX13_number_31 : decode cX13_number 31 = .ok (.ifCond .ne 7, 3) := by decide +kernel
theorem dX13_number_34 : decode cX13_number 34 = .ok (.iconst 1, 1) := by decide +kernel
theorem dX13_number_35 : decode cX13_number 35 = .ok (.goto 4, 3) := by decide +kernel
theorem dX13_number_38 : decode cX13_number 38 = .ok (.iconst 0, 1) := by decide +kernel
theorem dX13_number_39 : decode cX13_number 39 = .ok (.iconst 2, 1) := by decide +kernel
theorem dX13_number_40 : decode cX13_number 40 = .ok (.invokevirtual 266, 3) := by decide +kernel
theorem dX13_number_43 : decode cX13_number 43 = .ok (.ifCond .eq 5, 3) := by decide +kernel
theorem dX13_number_46 : decode cX13_number 46 = .ok (.iload_n 1, 1) := by decide +kernel
theorem dX13_number_47 : decode cX13_number 47 = .ok (.ireturn, 1) := by decide +kernel
theorem dX13_number_48 : decode cX13_number 48 = .ok (.aload_n 0, 1) := by decide +kernel
theorem dX13_number_49 : decode cX13_number 49 = .ok (.getfield 234, 3) := by decide +kernel
theorem dX13_number_52 : decode cX13_number 52 = .ok (.istore_n 3, 1) := by decide +kernel
theorem dX13_number_53 : decode cX13_number 53 = .ok (.aload_n 0, 1) := by decide +kernel
theorem dX13_number_54 : decode cX13_number 54 = .ok (.invokevirtual 270, 3) := by decide +kernel
theorem dX13_number_57 : decode cX13_number 57 = .ok (.iload_n 3, 1) := by decide +kernel
theorem dX13_number_58 : decode cX13_number 58 = .ok (.ireturn, 1) := by decide +kernel
theorem dX13_wordItem_0 : decode cX13_wordItem 0 = .ok (.aload_n 0, 1) := by decide +kernel
theorem dX13_wordItem_1 : decode cX13_wordItem 1 = .ok (.aload_n 0, 1) := by decide +kernel
theorem dX13_wordItem_2 : decode cX13_wordItem 2 = .ok (.getfield 237, 3) := by decide +kernel
theorem dX13_wordItem_5 : decode cX13_wordItem 5 = .ok (.iconst 1, 1) := by decide +kernel
theorem dX13_wordItem_6 : decode cX13_wordItem 6 = .ok (.if_icmp .eq 7, 3) := by decide +kernel
theorem dX13_wordItem_9 : decode cX13_wordItem 9 = .ok (.iconst 1, 1) := by decide +kernel
theorem dX13_wordItem_10 : decode cX13_wordItem 10 = .ok (.goto 4, 3) := by decide +kernel
theorem dX13_wordItem_13 : decode cX13_wordItem 13 = .ok (.iconst 0, 1) := by decide +kernel
theorem dX13_wordItem_14 : decode cX13_wordItem 14 = .ok (.iconst 1, 1) := by decide +kernel
theorem dX13_wordItem_15 : decode cX13_wordItem 15 = .ok (.invokevirtual 266, 3) := by decide +kernel
theorem dX13_wordItem_18 : decode cX13_wordItem 18 = .ok (.ifCond .ne 47, 3) := by decide +kernel
theorem dX13_wordItem_21 : decode cX13_wordItem 21 = .ok (.aload_n 0, 1) := by decide +kernel
theorem dX13_wordItem_22 : decode cX13_wordItem 22 = .ok (.aload_n 0, 1) := by decide +kernel
theorem dX13_wordItem_23 : decode cX13_wordItem 23 = .ok (.iload_n 1, 1) := by decide +kernel
theorem dX13_wordItem_24 : decode cX13_wordItem 24 = .ok (.invokevirtual 103, 3) := by decide +kernel
theorem dX13_wordItem_27 : decode cX13_wordItem 27 = .ok (.aload_n 0, 1) := by decide +kernel
theorem dX13_wordItem_28 : decode cX13_wordItem 28 = .ok (.invokevirtual 253, 3) := by decide +kernel
theorem dX13_wordItem_31 : decode cX13_wordItem 31 = .ok (.iadd, 1) := by decide +kernel
theorem dX13_wordItem_32 : decode cX13_wordItem 32 = .ok (.sipush 400, 3) := by decide +kernel
theorem dX13_wordItem_35 : decode cX13_wordItem 35 = .ok (.if_icmp .gt 18, 3) := by decide +kernel
theorem dX13_wordItem_38 : decode cX13_wordItem 38 = .ok (.aload_n 0, 1) := by decide +kernel
theorem dX13_wordItem_39 : decode cX13_wordItem 39 = .ok (.getfield 273, 3) := by decide +kernel
theorem dX13_wordItem_42 : decode cX13_wordItem 42 = .ok (.aload_n 0, 1) := by decide +kernel
theorem dX13_wordItem_43 : decode cX13_wordItem 43 = .ok (.invokevirtual 253, 3) := by decide +kernel
theorem dX13_wordItem_46 : decode cX13_wordItem 46 = .ok (.iadd, 1) := by decide +kernel
theorem dX13_wordItem_47 : decode cX13_wordItem 47 = .ok (.sipush 400, 3) := by decide +kernel
theorem dX13_wordItem_50 : decode cX13_wordItem 50 = .ok (.if_icmp .le 7, 3) := by decide +kernel
theorem dX13_wordItem_53 : decode cX13_wordItem 53 = .ok (.iconst 1, 1) := by decide +kernel
theorem dX13_wordItem_54 : decode cX13_wordItem 54 = .ok (.goto 4, 3) := by decide +kernel
theorem dX13_wordItem_57 : decode cX13_wordItem 57 = .ok (.iconst 0, 1) := by decide +kernel
theorem dX13_wordItem_58 : decode cX13_wordItem 58 = .ok (.iconst 5, 1) := by decide +kernel
theorem dX13_wordItem_59 : decode cX13_wordItem 59 = .ok (.invokevirtual 266, 3) := by decide +kernel
theorem dX13_wordItem_62 : decode cX13_wordItem 62 = .ok (.ifCond .eq 4, 3) := by decide +kernel
theorem dX13_wordItem_65 : decode cX13_wordItem 65 = .ok (.return_, 1) := by decide +kernel
theorem dX13_wordItem_66 : decode cX13_wordItem 66 = .ok (.iconst 0, 1) := by decide +kernel
theorem dX13_wordItem_67 : decode cX13_wordItem 67 = .ok (.istore_n 2, 1) := by decide +kernel
theorem dX13_wordItem_68 : decode cX13_wordItem 68 = .ok (.iload_n 2, 1) := by decide +kernel
theorem dX13_wordItem_69 : decode cX13_wordItem 69 = .ok (.aload_n 0, 1) := by decide +kernel
theorem dX13_wordItem_70 : decode cX13_wordItem 70 = .ok (.invokevirtual 253, 3) := by decide +kernel
theorem dX13_wordItem_73 : decode cX13_wordItem 73 = .ok (.if_icmp .ge 28, 3) := by decide +kernel
theorem dX13_wordItem_76 : decode cX13_wordItem 76 = .ok (.aload_n 0, 1) := by decide +kernel
theorem dX13_wordItem_77 : decode cX13_wordItem 77 = .ok (.iload_n 1, 1) := by decide +kernel
theorem dX13_wordItem_78 : decode cX13_wordItem 78 = .ok (.aload_n 0, 1) := by decide +kernel
theorem dX13_wordItem_79 : decode cX13_wordItem 79 = .ok (.getfield 58, 3) := by decide +kernel
theorem dX13_wordItem_82 : decode cX13_wordItem 82 = .ok (.aload_n 0, 1) := by decide +kernel
theorem dX13_wordItem_83 : decode cX13_wordItem 83 = .ok (.getfield 231, 3) := by decide +kernel
theorem dX13_wordItem_86 : decode cX13_wordItem 86 = .ok (.iload_n 2, 1) := by decide +kernel
theorem dX13_wordItem_87 : decode cX13_wordItem 87 = .ok (.iadd, 1) := by decide +kernel
theorem dX13_wordItem_88 : decode cX13_wordItem 88 = .ok (.iaload, 1) := by decide +kernel
theorem dX13_wordItem_89 : decode cX13_wordItem 89 = .ok (.bipush 97, 2) := by decide +kernel
theorem dX13_wordItem_91 : decode cX13_wordItem 91 = .ok (.isub, 1) := by decide +kernel
theorem dX13_wordItem_92 : decode cX13_wordItem 92 = .ok (.invokevirtual 93, 3) := by decide +kernel
theorem dX13_wordItem_95 : decode cX13_wordItem 95 = .ok (.iinc 2 1, 3) := by decide +kernel
theorem dX13_wordItem_98 : decode cX13_wordItem 98 = .ok (.goto (-30), 3) := by decide +kernel
theorem dX13_wordItem_101 : decode cX13_wordItem 101 = .ok (.aload_n 0, 1) := by decide +kernel
theorem dX13_wordItem_102 : decode cX13_wordItem 102 = .ok (.dup, 1) := by decide +kernel
theorem dX13_wordItem_103 : decode cX13_wordItem 103 = .ok (.getfield 273, 3) := by decide +kernel
theorem dX13_wordItem_106 : decode cX13_wordItem 106 = .ok (.aload_n 0, 1) := by decide +kernel
theorem dX13_wordItem_107 : decode cX13_wordItem 107 = .ok (.invokevirtual 253, 3) := by decide +kernel
theorem dX13_wordItem_110 : decode cX13_wordItem 110 = .ok (.iadd, 1) := by decide +kernel
theorem dX13_wordItem_111 : decode cX13_wordItem 111 = .ok (.putfield 273, 3) := by decide +kernel
theorem dX13_wordItem_114 : decode cX13_wordItem 114 = .ok (.aload_n 0, 1) := by decide +kernel
theorem dX13_wordItem_115 : decode cX13_wordItem 115 = .ok (.invokevirtual 270, 3) := by decide +kernel
theorem dX13_wordItem_118 : decode cX13_wordItem 118 = .ok (.return_, 1) := by decide +kernel
theorem dX13_ruleItem_0 : decode cX13_ruleItem 0 = .ok (.aload_n 0, 1) := by decide +kernel
theorem dX13_ruleItem_1 : decode cX13_ruleItem 1 = .ok (.getfield 231, 3) := by decide +kernel
theorem dX13_ruleItem_4 : decode cX13_ruleItem 4 = .ok (.istore_n 3, 1) := by decide +kernel
theorem dX13_ruleItem_5 : decode cX13_ruleItem 5 = .ok (.aload_n 0, 1) := by decide +kernel
theorem dX13_ruleItem_6 : decode cX13_ruleItem 6 = .ok (.invokevirtual 270, 3) := by decide +kernel
theorem dX13_ruleItem_9 : decode cX13_ruleItem 9 = .ok (.aload_n 0, 1) := by decide +kernel
theorem dX13_ruleItem_10 : decode cX13_ruleItem 10 = .ok (.aload_n 0, 1) := by decide +kernel
theorem dX13_ruleItem_11 : decode cX13_ruleItem 11 = .ok (.getfield 237, 3) := by decide +kernel
theorem dX13_ruleItem_14 : decode cX13_ruleItem 14 = .ok (.iconst 2, 1) := by decide +kernel
theorem dX13_ruleItem_15 : decode cX13_ruleItem 15 = .ok (.if_icmp .eq 7, 3) := by decide +kernel
theorem dX13_ruleItem_18 : decode cX13_ruleItem 18 = .ok (.iconst 1, 1) := by decide +kernel
theorem dX13_ruleItem_19 : decode cX13_ruleItem 19 = .ok (.goto 4, 3) := by decide +kernel
theorem dX13_ruleItem_22 : decode cX13_ruleItem 22 = .ok (.iconst 0, 1) := by decide +kernel
theorem dX13_ruleItem_23 : decode cX13_ruleItem 23 = .ok (.iconst 1, 1) := by decide +kernel
theorem dX13_ruleItem_24 : decode cX13_ruleItem 24 = .ok (.invokevirtual 266, 3) := by decide +kernel
theorem dX13_ruleItem_27 : decode cX13_ruleItem 27 = .ok (.ifCond .ne 46, 3) := by decide +kernel
theorem dX13_ruleItem_30 : decode cX13_ruleItem 30 = .ok (.aload_n 0, 1) := by decide +kernel
theorem dX13_ruleItem_31 : decode cX13_ruleItem 31 = .ok (.aload_n 0, 1) := by decide +kernel
theorem dX13_ruleItem_32 : decode cX13_ruleItem 32 = .ok (.getfield 234, 3) := by decide +kernel
theorem dX13_ruleItem_35 : decode cX13_ruleItem 35 = .ok (.bipush 40, 2) := by decide +kernel
theorem dX13_ruleItem_37 : decode cX13_ruleItem 37 = .ok (.if_icmp .lt 7, 3) := by decide +kernel
theorem dX13_ruleItem_40 : decode cX13_ruleItem 40 = .ok (.iconst 1, 1) := by decide +kernel
theorem dX13_ruleItem_41 : decode cX13_ruleItem 41 = .ok (.goto 4, 3) := by decide +kernel
theorem dX13_ruleItem_44 : decode cX13_ruleItem 44 = .ok (.iconst 0, 1) := by decide +kernel
theorem dX13_ruleItem_45 : decode cX13_ruleItem 45 = .ok (.iconst 2, 1) := by decide +kernel
theorem dX13_ruleItem_46 : decode cX13_ruleItem 46 = .ok (.invokevirtual 266, 3) := by decide +kernel
theorem dX13_ruleItem_49 : decode cX13_ruleItem 49 = .ok (.ifCond .ne 24, 3) := by decide +kernel
theorem dX13_ruleItem_52 : decode cX13_ruleItem 52 = .ok (.aload_n 0, 1) := by decide +kernel
theorem dX13_ruleItem_53 : decode cX13_ruleItem 53 = .ok (.aload_n 0, 1) := by decide +kernel
theorem dX13_ruleItem_54 : decode cX13_ruleItem 54 = .ok (.getfield 234, 3) := by decide +kernel
theorem dX13_ruleItem_57 : decode cX13_ruleItem 57 = .ok (.iload_n 2, 1) := by decide +kernel
theorem dX13_ruleItem_58 : decode cX13_ruleItem 58 = .ok (.if_icmp .lt 7, 3) := by decide +kernel
theorem dX13_ruleItem_61 : decode cX13_ruleItem 61 = .ok (.iconst 1, 1) := by decide +kernel
theorem dX13_ruleItem_62 : decode cX13_ruleItem 62 = .ok (.goto 4, 3) := by decide +kernel
theorem dX13_ruleItem_65 : decode cX13_ruleItem 65 = .ok (.iconst 0, 1) := by decide +kernel
theorem dX13_ruleItem_66 : decode cX13_ruleItem 66 = .ok (.iconst 4, 1) := by decide +kernel
theorem dX13_ruleItem_67 : decode cX13_ruleItem 67 = .ok (.invokevirtual 266, 3) := by decide +kernel
theorem dX13_ruleItem_70 : decode cX13_ruleItem 70 = .ok (.ifCond .eq 4, 3) := by decide +kernel
theorem dX13_ruleItem_73 : decode cX13_ruleItem 73 = .ok (.return_, 1) := by decide +kernel
theorem dX13_ruleItem_74 : decode cX13_ruleItem 74 = .ok (.aload_n 0, 1) := by decide +kernel
theorem dX13_ruleItem_75 : decode cX13_ruleItem 75 = .ok (.getfield 234, 3) := by decide +kernel
theorem dX13_ruleItem_78 : decode cX13_ruleItem 78 = .ok (.istore 4, 2) := by decide +kernel
theorem dX13_ruleItem_80 : decode cX13_ruleItem 80 = .ok (.aload_n 0, 1) := by decide +kernel
theorem dX13_ruleItem_81 : decode cX13_ruleItem 81 = .ok (.iload_n 1, 1) := by decide +kernel
theorem dX13_ruleItem_82 : decode cX13_ruleItem 82 = .ok (.invokevirtual 103, 3) := by decide +kernel
theorem dX13_ruleItem_85 : decode cX13_ruleItem 85 = .ok (.sipush 400, 3) := by decide +kernel
theorem dX13_ruleItem_88 : decode cX13_ruleItem 88 = .ok (.if_icmp .eq 24, 3) := by decide +kernel
theorem dX13_ruleItem_91 : decode cX13_ruleItem 91 = .ok (.aload_n 0, 1) := by decide +kernel
theorem dX13_ruleItem_92 : decode cX13_ruleItem 92 = .ok (.getfield 273, 3) := by decide +kernel
theorem dX13_ruleItem_95 : decode cX13_ruleItem 95 = .ok (.aload_n 0, 1) := by decide +kernel
theorem dX13_ruleItem_96 : decode cX13_ruleItem 96 = .ok (.getfield 31, 3) := by decide +kernel
theorem dX13_ruleItem_99 : decode cX13_ruleItem 99 = .ok (.bipush 26, 2) := by decide +kernel
theorem dX13_ruleItem_101 : decode cX13_ruleItem 101 = .ok (.iload 4, 2) := by decide +kernel
theorem dX13_ruleItem_103 : decode cX13_ruleItem 103 = .ok (.iadd, 1) := by decide +kernel
theorem dX13_ruleItem_104 : decode cX13_ruleItem 104 = .ok (.iaload, 1) := by decide +kernel
theorem dX13_ruleItem_105 : decode cX13_ruleItem 105 = .ok (.iadd, 1) := by decide +kernel
theorem dX13_ruleItem_106 : decode cX13_ruleItem 106 = .ok (.sipush 400, 3) := by decide +kernel
theorem dX13_ruleItem_109 : decode cX13_ruleItem 109 = .ok (.if_icmp .le 14, 3) := by decide +kernel
theorem dX13_ruleItem_112 : decode cX13_ruleItem 112 = .ok (.aload_n 0, 1) := by decide +kernel
theorem dX13_ruleItem_113 : decode cX13_ruleItem 113 = .ok (.iconst 5, 1) := by decide +kernel
theorem dX13_ruleItem_114 : decode cX13_ruleItem 114 = .ok (.putfield 247, 3) := by decide +kernel
theorem dX13_ruleItem_117 : decode cX13_ruleItem 117 = .ok (.aload_n 0, 1) := by decide +kernel
theorem dX13_ruleItem_118 : decode cX13_ruleItem 118 = .ok (.iload_n 3, 1) := by decide +kernel
theorem dX13_ruleItem_119 : decode cX13_ruleItem 119 = .ok (.putfield 250, 3) := by decide +kernel
theorem dX13_ruleItem_122 : decode cX13_ruleItem 122 = .ok (.return_, 1) := by decide +kernel
theorem dX13_ruleItem_123 : decode cX13_ruleItem 123 = .ok (.aload_n 0, 1) := by decide +kernel
theorem dX13_ruleItem_124 : decode cX13_ruleItem 124 = .ok (.iload_n 1, 1) := by decide +kernel
theorem dX13_ruleItem_125 : decode cX13_ruleItem 125 = .ok (.bipush 26, 2) := by decide +kernel
theorem dX13_ruleItem_127 : decode cX13_ruleItem 127 = .ok (.iload 4, 2) := by decide +kernel
theorem dX13_ruleItem_129 : decode cX13_ruleItem 129 = .ok (.iadd, 1) := by decide +kernel
theorem dX13_ruleItem_130 : decode cX13_ruleItem 130 = .ok (.invokevirtual 93, 3) := by decide +kernel
theorem dX13_ruleItem_133 : decode cX13_ruleItem 133 = .ok (.aload_n 0, 1) := by decide +kernel
theorem dX13_ruleItem_134 : decode cX13_ruleItem 134 = .ok (.dup, 1) := by decide +kernel
theorem dX13_ruleItem_135 : decode cX13_ruleItem 135 = .ok (.getfield 273, 3) := by decide +kernel
theorem dX13_ruleItem_138 : decode cX13_ruleItem 138 = .ok (.aload_n 0, 1) := by decide +kernel
theorem dX13_ruleItem_139 : decode cX13_ruleItem 139 = .ok (.getfield 31, 3) := by decide +kernel
theorem dX13_ruleItem_142 : decode cX13_ruleItem 142 = .ok (.bipush 26, 2) := by decide +kernel
theorem dX13_ruleItem_144 : decode cX13_ruleItem 144 = .ok (.iload 4, 2) := by decide +kernel
theorem dX13_ruleItem_146 : decode cX13_ruleItem 146 = .ok (.iadd, 1) := by decide +kernel
theorem dX13_ruleItem_147 : decode cX13_ruleItem 147 = .ok (.iaload, 1) := by decide +kernel
theorem dX13_ruleItem_148 : decode cX13_ruleItem 148 = .ok (.iadd, 1) := by decide +kernel
theorem dX13_ruleItem_149 : decode cX13_ruleItem 149 = .ok (.putfield 273, 3) := by decide +kernel
theorem dX13_ruleItem_152 : decode cX13_ruleItem 152 = .ok (.aload_n 0, 1) := by decide +kernel
theorem dX13_ruleItem_153 : decode cX13_ruleItem 153 = .ok (.invokevirtual 270, 3) := by decide +kernel
theorem dX13_ruleItem_156 : decode cX13_ruleItem 156 = .ok (.aload_n 0, 1) := by decide +kernel
theorem dX13_ruleItem_157 : decode cX13_ruleItem 157 = .ok (.bipush 41, 2) := by decide +kernel
theorem dX13_ruleItem_159 : decode cX13_ruleItem 159 = .ok (.invokevirtual 276, 3) := by decide +kernel
theorem dX13_ruleItem_162 : decode cX13_ruleItem 162 = .ok (.return_, 1) := by decide +kernel
theorem dX13_items_0 : decode cX13_items 0 = .ok (.aload_n 0, 1) := by decide +kernel
theorem dX13_items_1 : decode cX13_items 1 = .ok (.iconst 0, 1) := by decide +kernel
theorem dX13_items_2 : decode cX13_items 2 = .ok (.putfield 273, 3) := by decide +kernel
theorem dX13_items_5 : decode cX13_items 5 = .ok (.aload_n 0, 1) := by decide +kernel
theorem dX13_items_6 : decode cX13_items 6 = .ok (.invokevirtual 137, 3) := by decide +kernel
theorem dX13_items_9 : decode cX13_items 9 = .ok (.iconst 1, 1) := by decide +kernel
theorem dX13_items_10 : decode cX13_items 10 = .ok (.istore_n 3, 1) := by decide +kernel
theorem dX13_items_11 : decode cX13_items 11 = .ok (.iload_n 3, 1) := by decide +kernel
theorem dX13_items_12 : decode cX13_items 12 = .ok (.ifCond .eq 59, 3) := by decide +kernel
theorem dX13_items_15 : decode cX13_items 15 = .ok (.aload_n 0, 1) := by decide +kernel
theorem dX13_items_16 : decode cX13_items 16 = .ok (.getfield 247, 3) := by decide +kernel
theorem dX13_items_19 : decode cX13_items 19 = .ok (.ifCond .ne 52, 3) := by decide +kernel
theorem dX13_items_22 : decode cX13_items 22 = .ok (.aload_n 0, 1) := by decide +kernel
theorem dX13_items_23 : decode cX13_items 23 = .ok (.bipush 40, 2) := by decide +kernel
theorem dX13_items_25 : decode cX13_items 25 = .ok (.invokevirtual 263, 3) := by decide +kernel
theorem dX13_items_28 : decode cX13_items 28 = .ok (.ifCond .eq 12, 3) := by decide +kernel
theorem dX13_items_31 : decode cX13_items 31 = .ok (.aload_n 0, 1) := by decide +kernel
theorem dX13_items_32 : decode cX13_items 32 = .ok (.iload_n 1, 1) := by decide +kernel
theorem dX13_items_33 : decode cX13_items 33 = .ok (.iload_n 2, 1) := by decide +kernel
theorem dX13_items_34 : decode cX13_items 34 = .ok (.invokevirtual 279, 3) := by decide +kernel
theorem dX13_items_37 : decode cX13_items 37 = .ok (.goto 8, 3) := by decide +kernel
theorem dX13_items_40 : decode cX13_items 40 = .ok (.aload_n 0, 1) := by decide +kernel
theorem dX13_items_41 : decode cX13_items 41 = .ok (.iload_n 1, 1) := by decide +kernel
theorem dX13_items_42 : decode cX13_items 42 = .ok (.invokevirtual 282, 3) := by decide +kernel
theorem dX13_items_45 : decode cX13_items 45 = .ok (.aload_n 0, 1) := by decide +kernel
theorem dX13_items_46 : decode cX13_items 46 = .ok (.getfield 237, 3) := by decide +kernel
theorem dX13_items_49 : decode cX13_items 49 = .ok (.iconst 1, 1) := by decide +kernel
theorem dX13_items_50 : decode cX13_items 50 = .ok (.if_icmp .eq 12, 3) := by decide +kernel
theorem dX13_items_53 : decode cX13_items 53 = .ok (.aload_n 0, 1) := by decide +kernel
theorem dX13_items_54 : decode cX13_items 54 = .ok (.bipush 40, 2) := by decide +kernel
theorem dX13_items_56 : decode cX13_items 56 = .ok (.invokevirtual 263, 3) := by decide +kernel
theorem dX13_items_59 : decode cX13_items 59 = .ok (.ifCond .eq 7, 3) := by decide +kernel
theorem dX13_items_62 : decode cX13_items 62 = .ok (.iconst 1, 1) := by decide +kernel
theorem dX13_items_63 : decode cX13_items 63 = .ok (.goto 4, 3) := by decide +kernel
theorem dX13_items_66 : decode cX13_items 66 = .ok (.iconst 0, 1) := by decide +kernel
theorem dX13_items_67 : decode cX13_items 67 = .ok (.istore_n 3, 1) := by decide +kernel
theorem dX13_items_68 : decode cX13_items 68 = .ok (.goto (-57), 3) := by decide +kernel
theorem dX13_items_71 : decode cX13_items 71 = .ok (.return_, 1) := by decide +kernel
theorem dX13_isOnce_0 : decode cX13_isOnce 0 = .ok (.aload_n 0, 1) := by decide +kernel
theorem dX13_isOnce_1 : decode cX13_isOnce 1 = .ok (.aload_n 0, 1) := by decide +kernel
theorem dX13_isOnce_2 : decode cX13_isOnce 2 = .ok (.getfield 285, 3) := by decide +kernel
theorem dX13_isOnce_5 : decode cX13_isOnce 5 = .ok (.iload_n 1, 1) := by decide +kernel
theorem dX13_isOnce_6 : decode cX13_isOnce 6 = .ok (.ishr, 1) := by decide +kernel
theorem dX13_isOnce_7 : decode cX13_isOnce 7 = .ok (.iconst 1, 1) := by decide +kernel
theorem dX13_isOnce_8 : decode cX13_isOnce 8 = .ok (.iand, 1) := by decide +kernel
theorem dX13_isOnce_9 : decode cX13_isOnce 9 = .ok (.iconst 1, 1) := by decide +kernel
theorem dX13_isOnce_10 : decode cX13_isOnce 10 = .ok (.if_icmp .ne 7, 3) := by decide +kernel
theorem dX13_isOnce_13 : decode cX13_isOnce 13 = .ok (.iconst 1, 1) := by decide +kernel
theorem dX13_isOnce_14 : decode cX13_isOnce 14 = .ok (.goto 4, 3) := by decide +kernel
theorem dX13_isOnce_17 : decode cX13_isOnce 17 = .ok (.iconst 0, 1) := by decide +kernel
theorem dX13_isOnce_18 : decode cX13_isOnce 18 = .ok (.iconst 3, 1) := by decide +kernel
theorem dX13_isOnce_19 : decode cX13_isOnce 19 = .ok (.invokevirtual 266, 3) := by decide +kernel
theorem dX13_isOnce_22 : decode cX13_isOnce 22 = .ok (.ifCond .eq 5, 3) := by decide +kernel
theorem dX13_isOnce_25 : decode cX13_isOnce 25 = .ok (.iconst 0, 1) := by decide +kernel
theorem dX13_isOnce_26 : decode cX13_isOnce 26 = .ok (.ireturn, 1) := by decide +kernel
theorem dX13_isOnce_27 : decode cX13_isOnce 27 = .ok (.aload_n 0, 1) := by decide +kernel
theorem dX13_isOnce_28 : decode cX13_isOnce 28 = .ok (.dup, 1) := by decide +kernel
theorem dX13_isOnce_29 : decode cX13_isOnce 29 = .ok (.getfield 285, 3) := by decide +kernel
theorem dX13_isOnce_32 : decode cX13_isOnce 32 = .ok (.iconst 1, 1) := by decide +kernel
theorem dX13_isOnce_33 : decode cX13_isOnce 33 = .ok (.iload_n 1, 1) := by decide +kernel
theorem dX13_isOnce_34 : decode cX13_isOnce 34 = .ok (.ishl, 1) := by decide +kernel
theorem dX13_isOnce_35 : decode cX13_isOnce 35 = .ok (.ior, 1) := by decide +kernel
theorem dX13_isOnce_36 : decode cX13_isOnce 36 = .ok (.putfield 285, 3) := by decide +kernel
theorem dX13_isOnce_39 : decode cX13_isOnce 39 = .ok (.aload_n 0, 1) := by decide +kernel
theorem dX13_isOnce_40 : decode cX13_isOnce 40 = .ok (.invokevirtual 270, 3) := by decide +kernel
theorem dX13_isOnce_43 : decode cX13_isOnce 43 = .ok (.iconst 1, 1) := by decide +kernel
theorem dX13_isOnce_44 : decode cX13_isOnce 44 = .ok (.ireturn, 1) := by decide +kernel
theorem dX13_leastOf_0 : decode cX13_leastOf 0 = .ok (.iload_n 0, 1) := by decide +kernel
theorem dX13_leastOf_1 : decode cX13_leastOf 1 = .ok (.ifCond .ne 7, 3) := by decide +kernel
theorem dX13_leastOf_4 : decode cX13_leastOf 4 = .ok (.iconst 2, 1) := by decide +kernel
theorem dX13_leastOf_5 : decode cX13_leastOf 5 = .ok (.goto 4, 3) := by decide +kernel
theorem dX13_leastOf_8 : decode cX13_leastOf 8 = .ok (.iconst 0, 1) := by decide +kernel
theorem dX13_leastOf_9 : decode cX13_leastOf 9 = .ok (.ireturn, 1) := by decide +kernel
theorem dX13_mostOf_0 : decode cX13_mostOf 0 = .ok (.iload_n 0, 1) := by decide +kernel
theorem dX13_mostOf_1 : decode cX13_mostOf 1 = .ok (.ifCond .ne 8, 3) := by decide +kernel
theorem dX13_mostOf_4 : decode cX13_mostOf 4 = .ok (.bipush 9, 2) := by decide +kernel
theorem dX13_mostOf_6 : decode cX13_mostOf 6 = .ok (.goto 13, 3) := by decide +kernel
theorem dX13_mostOf_9 : decode cX13_mostOf 9 = .ok (.iload_n 0, 1) := by decide +kernel
theorem dX13_mostOf_10 : decode cX13_mostOf 10 = .ok (.iconst 1, 1) := by decide +kernel
theorem dX13_mostOf_11 : decode cX13_mostOf 11 = .ok (.if_icmp .ne 7, 3) := by decide +kernel
theorem dX13_mostOf_14 : decode cX13_mostOf 14 = .ok (.iconst 2, 1) := by decide +kernel
theorem dX13_mostOf_15 : decode cX13_mostOf 15 = .ok (.goto 4, 3) := by decide +kernel
theorem dX13_mostOf_18 : decode cX13_mostOf 18 = .ok (.iconst 1, 1) := by decide +kernel
theorem dX13_mostOf_19 : decode cX13_mostOf 19 = .ok (.ireturn, 1) := by decide +kernel
theorem dX13_statement_0 : decode cX13_statement 0 = .ok (.aload_n 0, 1) := by decide +kernel
theorem dX13_statement_1 : decode cX13_statement 1 = .ok (.ldc_w 288, 3) := by decide +kernel
theorem dX13_statement_4 : decode cX13_statement 4 = .ok (.invokevirtual 290, 3) := by decide +kernel
theorem dX13_statement_7 : decode cX13_statement 7 = .ok (.ifCond .eq 7, 3) := by decide +kernel
theorem dX13_statement_10 : decode cX13_statement 10 = .ok (.iconst 0, 1) := by decide +kernel
theorem dX13_statement_11 : decode cX13_statement 11 = .ok (.goto 32, 3) := by decide +kernel
theorem dX13_statement_14 : decode cX13_statement 14 = .ok (.aload_n 0, 1) := by decide +kernel
theorem dX13_statement_15 : decode cX13_statement 15 = .ok (.ldc_w 294, 3) := by decide +kernel
theorem dX13_statement_18 : decode cX13_statement 18 = .ok (.invokevirtual 290, 3) := by decide +kernel
theorem dX13_statement_21 : decode cX13_statement 21 = .ok (.ifCond .eq 7, 3) := by decide +kernel
theorem dX13_statement_24 : decode cX13_statement 24 = .ok (.iconst 1, 1) := by decide +kernel
theorem dX13_statement_25 : decode cX13_statement 25 = .ok (.goto 18, 3) := by decide +kernel
theorem dX13_statement_28 : decode cX13_statement 28 = .ok (.aload_n 0, 1) := by decide +kernel
theorem dX13_statement_29 : decode cX13_statement 29 = .ok (.ldc_w 296, 3) := by decide +kernel
theorem dX13_statement_32 : decode cX13_statement 32 = .ok (.invokevirtual 290, 3) := by decide +kernel
theorem dX13_statement_35 : decode cX13_statement 35 = .ok (.ifCond .eq 7, 3) := by decide +kernel
theorem dX13_statement_38 : decode cX13_statement 38 = .ok (.iconst 2, 1) := by decide +kernel
theorem dX13_statement_39 : decode cX13_statement 39 = .ok (.goto 4, 3) := by decide +kernel
theorem dX13_statement_42 : decode cX13_statement 42 = .ok (.iconst (-1), 1) := by decide +kernel
theorem dX13_statement_43 : decode cX13_statement 43 = .ok (.istore_n 1, 1) := by decide +kernel
theorem dX13_statement_44 : decode cX13_statement 44 = .ok (.aload_n 0, 1) := by decide +kernel
theorem dX13_statement_45 : decode cX13_statement 45 = .ok (.iload_n 1, 1) := by decide +kernel
theorem dX13_statement_46 : decode cX13_statement 46 = .ok (.iconst (-1), 1) := by decide +kernel
theorem dX13_statement_47 : decode cX13_statement 47 = .ok (.if_icmp .ne 7, 3) := by decide +kernel
theorem dX13_statement_50 : decode cX13_statement 50 = .ok (.iconst 1, 1) := by decide +kernel
theorem dX13_statement_51 : decode cX13_statement 51 = .ok (.goto 4, 3) := by decide +kernel
theorem dX13_statement_54 : decode cX13_statement 54 = .ok (.iconst 0, 1) := by decide +kernel
theorem dX13_statement_55 : decode cX13_statement 55 = .ok (.iconst 1, 1) := by decide +kernel
theorem dX13_statement_56 : decode cX13_statement 56 = .ok (.invokevirtual 266, 3) := by decide +kernel
theorem dX13_statement_59 : decode cX13_statement 59 = .ok (.ifCond .ne 11, 3) := by decide +kernel
theorem dX13_statement_62 : decode cX13_statement 62 = .ok (.aload_n 0, 1) := by decide +kernel
theorem dX13_statement_63 : decode cX13_statement 63 = .ok (.iload_n 1, 1) := by decide +kernel
theorem dX13_statement_64 : decode cX13_statement 64 = .ok (.invokevirtual 298, 3) := by decide +kernel
theorem dX13_statement_67 : decode cX13_statement 67 = .ok (.ifCond .ne 4, 3) := by decide +kernel
theorem dX13_statement_70 : decode cX13_statement 70 = .ok (.return_, 1) := by decide +kernel
theorem dX13_statement_71 : decode cX13_statement 71 = .ok (.aload_n 0, 1) := by decide +kernel
theorem dX13_statement_72 : decode cX13_statement 72 = .ok (.getfield 9, 3) := by decide +kernel
theorem dX13_statement_75 : decode cX13_statement 75 = .ok (.iload_n 1, 1) := by decide +kernel
theorem dX13_statement_76 : decode cX13_statement 76 = .ok (.aload_n 0, 1) := by decide +kernel
theorem dX13_statement_77 : decode cX13_statement 77 = .ok (.iload_n 1, 1) := by decide +kernel
theorem dX13_statement_78 : decode cX13_statement 78 = .ok (.invokestatic 301, 3) := by decide +kernel
theorem dX13_statement_81 : decode cX13_statement 81 = .ok (.iload_n 1, 1) := by decide +kernel
theorem dX13_statement_82 : decode cX13_statement 82 = .ok (.invokestatic 304, 3) := by decide +kernel
theorem dX13_statement_85 : decode cX13_statement 85 = .ok (.invokevirtual 307, 3) := by decide +kernel
theorem dX13_statement_88 : decode cX13_statement 88 = .ok (.iastore, 1) := by decide +kernel
theorem dX13_statement_89 : decode cX13_statement 89 = .ok (.return_, 1) := by decide +kernel
theorem dX13_ruleLine_0 : decode cX13_ruleLine 0 = .ok (.aload_n 0, 1) := by decide +kernel
theorem dX13_ruleLine_1 : decode cX13_ruleLine 1 = .ok (.aload_n 0, 1) := by decide +kernel
theorem dX13_ruleLine_2 : decode cX13_ruleLine 2 = .ok (.getfield 310, 3) := by decide +kernel
theorem dX13_ruleLine_5 : decode cX13_ruleLine 5 = .ok (.bipush 40, 2) := by decide +kernel
theorem dX13_ruleLine_7 : decode cX13_ruleLine 7 = .ok (.if_icmp .ne 7, 3) := by decide +kernel
theorem dX13_ruleLine_10 : decode cX13_ruleLine 10 = .ok (.iconst 1, 1) := by decide +kernel
theorem dX13_ruleLine_11 : decode cX13_ruleLine 11 = .ok (.goto 4, 3) := by decide +kernel
theorem dX13_ruleLine_14 : decode cX13_ruleLine 14 = .ok (.iconst 0, 1) := by decide +kernel
theorem dX13_ruleLine_15 : decode cX13_ruleLine 15 = .ok (.iconst 5, 1) := by decide +kernel
theorem dX13_ruleLine_16 : decode cX13_ruleLine 16 = .ok (.invokevirtual 266, 3) := by decide +kernel
theorem dX13_ruleLine_19 : decode cX13_ruleLine 19 = .ok (.ifCond .eq 4, 3) := by decide +kernel
theorem dX13_ruleLine_22 : decode cX13_ruleLine 22 = .ok (.return_, 1) := by decide +kernel
theorem dX13_ruleLine_23 : decode cX13_ruleLine 23 = .ok (.aload_n 0, 1) := by decide +kernel
theorem dX13_ruleLine_24 : decode cX13_ruleLine 24 = .ok (.invokevirtual 270, 3) := by decide +kernel
theorem dX13_ruleLine_27 : decode cX13_ruleLine 27 = .ok (.aload_n 0, 1) := by decide +kernel
theorem dX13_ruleLine_28 : decode cX13_ruleLine 28 = .ok (.aload_n 0, 1) := by decide +kernel
theorem dX13_ruleLine_29 : decode cX13_ruleLine 29 = .ok (.getfield 310, 3) := by decide +kernel
theorem dX13_ruleLine_32 : decode cX13_ruleLine 32 = .ok (.iconst 1, 1) := by decide +kernel
theorem dX13_ruleLine_33 : decode cX13_ruleLine 33 = .ok (.iadd, 1) := by decide +kernel
theorem dX13_ruleLine_34 : decode cX13_ruleLine 34 = .ok (.aload_n 0, 1) := by decide +kernel
theorem dX13_ruleLine_35 : decode cX13_ruleLine 35 = .ok (.getfield 310, 3) := by decide +kernel
theorem dX13_ruleLine_38 : decode cX13_ruleLine 38 = .ok (.invokevirtual 313, 3) := by decide +kernel
theorem dX13_ruleLine_41 : decode cX13_ruleLine 41 = .ok (.aload_n 0, 1) := by decide +kernel
theorem dX13_ruleLine_42 : decode cX13_ruleLine 42 = .ok (.aload_n 0, 1) := by decide +kernel
theorem dX13_ruleLine_43 : decode cX13_ruleLine 43 = .ok (.bipush 59, 2) := by decide +kernel
theorem dX13_ruleLine_45 : decode cX13_ruleLine 45 = .ok (.invokevirtual 263, 3) := by decide +kernel
theorem dX13_ruleLine_48 : decode cX13_ruleLine 48 = .ok (.ifCond .ne 7, 3) := by decide +kernel
theorem dX13_ruleLine_51 : decode cX13_ruleLine 51 = .ok (.iconst 1, 1) := by decide +kernel
theorem dX13_ruleLine_52 : decode cX13_ruleLine 52 = .ok (.goto 4, 3) := by decide +kernel
theorem dX13_ruleLine_55 : decode cX13_ruleLine 55 = .ok (.iconst 0, 1) := by decide +kernel
theorem dX13_ruleLine_56 : decode cX13_ruleLine 56 = .ok (.iconst 1, 1) := by decide +kernel
theorem dX13_ruleLine_57 : decode cX13_ruleLine 57 = .ok (.invokevirtual 266, 3) := by decide +kernel
theorem dX13_ruleLine_60 : decode cX13_ruleLine 60 = .ok (.ifCond .ne 30, 3) := by decide +kernel
theorem dX13_ruleLine_63 : decode cX13_ruleLine 63 = .ok (.aload_n 0, 1) := by decide +kernel
theorem dX13_ruleLine_64 : decode cX13_ruleLine 64 = .ok (.aload_n 0, 1) := by decide +kernel
theorem dX13_ruleLine_65 : decode cX13_ruleLine 65 = .ok (.aload_n 0, 1) := by decide +kernel
theorem dX13_ruleLine_66 : decode cX13_ruleLine 66 = .ok (.getfield 310, 3) := by decide +kernel
theorem dX13_ruleLine_69 : decode cX13_ruleLine 69 = .ok (.iconst 1, 1) := by decide +kernel
theorem dX13_ruleLine_70 : decode cX13_ruleLine 70 = .ok (.iadd, 1) := by decide +kernel
theorem dX13_ruleLine_71 : decode cX13_ruleLine 71 = .ok (.invokevirtual 103, 3) := by decide +kernel
theorem dX13_ruleLine_74 : decode cX13_ruleLine 74 = .ok (.iconst 1, 1) := by decide +kernel
theorem dX13_ruleLine_75 : decode cX13_ruleLine 75 = .ok (.if_icmp .ne 7, 3) := by decide +kernel
theorem dX13_ruleLine_78 : decode cX13_ruleLine 78 = .ok (.iconst 1, 1) := by decide +kernel
theorem dX13_ruleLine_79 : decode cX13_ruleLine 79 = .ok (.goto 4, 3) := by decide +kernel
theorem dX13_ruleLine_82 : decode cX13_ruleLine 82 = .ok (.iconst 0, 1) := by decide +kernel
theorem dX13_ruleLine_83 : decode cX13_ruleLine 83 = .ok (.iconst 3, 1) := by decide +kernel
theorem dX13_ruleLine_84 : decode cX13_ruleLine 84 = .ok (.invokevirtual 266, 3) := by decide +kernel
theorem dX13_ruleLine_87 : decode cX13_ruleLine 87 = .ok (.ifCond .eq 4, 3) := by decide +kernel
theorem dX13_ruleLine_90 : decode cX13_ruleLine 90 = .ok (.return_, 1) := by decide +kernel
theorem dX13_ruleLine_91 : decode cX13_ruleLine 91 = .ok (.aload_n 0, 1) := by decide +kernel
theorem dX13_ruleLine_92 : decode cX13_ruleLine 92 = .ok (.dup, 1) := by decide +kernel
theorem dX13_ruleLine_93 : decode cX13_ruleLine 93 = .ok (.getfield 310, 3) := by decide +kernel
theorem dX13_ruleLine_96 : decode cX13_ruleLine 96 = .ok (.iconst 1, 1) := by decide +kernel
theorem dX13_ruleLine_97 : decode cX13_ruleLine 97 = .ok (.iadd, 1) := by decide +kernel
theorem dX13_ruleLine_98 : decode cX13_ruleLine 98 = .ok (.putfield 310, 3) := by decide +kernel
theorem dX13_ruleLine_101 : decode cX13_ruleLine 101 = .ok (.aload_n 0, 1) := by decide +kernel
theorem dX13_ruleLine_102 : decode cX13_ruleLine 102 = .ok (.invokevirtual 270, 3) := by decide +kernel
theorem dX13_ruleLine_105 : decode cX13_ruleLine 105 = .ok (.return_, 1) := by decide +kernel
theorem dX13_setup_0 : decode cX13_setup 0 = .ok (.aload_n 0, 1) := by decide +kernel
theorem dX13_setup_1 : decode cX13_setup 1 = .ok (.iconst 0, 1) := by decide +kernel
theorem dX13_setup_2 : decode cX13_setup 2 = .ok (.putfield 228, 3) := by decide +kernel
theorem dX13_setup_5 : decode cX13_setup 5 = .ok (.aload_n 0, 1) := by decide +kernel
theorem dX13_setup_6 : decode cX13_setup 6 = .ok (.iconst 0, 1) := by decide +kernel
theorem dX13_setup_7 : decode cX13_setup 7 = .ok (.putfield 247, 3) := by decide +kernel
theorem dX13_setup_10 : decode cX13_setup 10 = .ok (.aload_n 0, 1) := by decide +kernel
theorem dX13_setup_11 : decode cX13_setup 11 = .ok (.iconst 0, 1) := by decide +kernel
theorem dX13_setup_12 : decode cX13_setup 12 = .ok (.putfield 285, 3) := by decide +kernel
theorem dX13_setup_15 : decode cX13_setup 15 = .ok (.aload_n 0, 1) := by decide +kernel
theorem dX13_setup_16 : decode cX13_setup 16 = .ok (.iconst 0, 1) := by decide +kernel
theorem dX13_setup_17 : decode cX13_setup 17 = .ok (.putfield 310, 3) := by decide +kernel
theorem dX13_setup_20 : decode cX13_setup 20 = .ok (.aload_n 0, 1) := by decide +kernel
theorem dX13_setup_21 : decode cX13_setup 21 = .ok (.invokevirtual 90, 3) := by decide +kernel
theorem dX13_setup_24 : decode cX13_setup 24 = .ok (.aload_n 0, 1) := by decide +kernel
theorem dX13_setup_25 : decode cX13_setup 25 = .ok (.invokevirtual 270, 3) := by decide +kernel
theorem dX13_setup_28 : decode cX13_setup 28 = .ok (.aload_n 0, 1) := by decide +kernel
theorem dX13_setup_29 : decode cX13_setup 29 = .ok (.ldc_w 316, 3) := by decide +kernel
theorem dX13_setup_32 : decode cX13_setup 32 = .ok (.invokevirtual 290, 3) := by decide +kernel
theorem dX13_setup_35 : decode cX13_setup 35 = .ok (.ifCond .eq 10, 3) := by decide +kernel
theorem dX13_setup_38 : decode cX13_setup 38 = .ok (.aload_n 0, 1) := by decide +kernel
theorem dX13_setup_39 : decode cX13_setup 39 = .ok (.invokevirtual 318, 3) := by decide +kernel
theorem dX13_setup_42 : decode cX13_setup 42 = .ok (.goto (-14), 3) := by decide +kernel
theorem dX13_setup_45 : decode cX13_setup 45 = .ok (.aload_n 0, 1) := by decide +kernel
theorem dX13_setup_46 : decode cX13_setup 46 = .ok (.getfield 247, 3) := by decide +kernel
theorem dX13_setup_49 : decode cX13_setup 49 = .ok (.ifCond .ne 26, 3) := by decide +kernel
theorem dX13_setup_52 : decode cX13_setup 52 = .ok (.aload_n 0, 1) := by decide +kernel
theorem dX13_setup_53 : decode cX13_setup 53 = .ok (.aload_n 0, 1) := by decide +kernel
theorem dX13_setup_54 : decode cX13_setup 54 = .ok (.ldc_w 321, 3) := by decide +kernel
theorem dX13_setup_57 : decode cX13_setup 57 = .ok (.invokevirtual 290, 3) := by decide +kernel
theorem dX13_setup_60 : decode cX13_setup 60 = .ok (.ifCond .ne 7, 3) := by decide +kernel
theorem dX13_setup_63 : decode cX13_setup 63 = .ok (.iconst 1, 1) := by decide +kernel
theorem dX13_setup_64 : decode cX13_setup 64 = .ok (.goto 4, 3) := by decide +kernel
theorem dX13_setup_67 : decode cX13_setup 67 = .ok (.iconst 0, 1) := by decide +kernel
theorem dX13_setup_68 : decode cX13_setup 68 = .ok (.iconst 1, 1) := by decide +kernel
theorem dX13_setup_69 : decode cX13_setup 69 = .ok (.invokevirtual 266, 3) := by decide +kernel
theorem dX13_setup_72 : decode cX13_setup 72 = .ok (.ifCond .eq 4, 3) := by decide +kernel
theorem dX13_setup_75 : decode cX13_setup 75 = .ok (.return_, 1) := by decide +kernel
theorem dX13_setup_76 : decode cX13_setup 76 = .ok (.aload_n 0, 1) := by decide +kernel
theorem dX13_setup_77 : decode cX13_setup 77 = .ok (.invokevirtual 270, 3) := by decide +kernel
theorem dX13_setup_80 : decode cX13_setup 80 = .ok (.aload_n 0, 1) := by decide +kernel
theorem dX13_setup_81 : decode cX13_setup 81 = .ok (.iconst 0, 1) := by decide +kernel
theorem dX13_setup_82 : decode cX13_setup 82 = .ok (.aload_n 0, 1) := by decide +kernel
theorem dX13_setup_83 : decode cX13_setup 83 = .ok (.getfield 310, 3) := by decide +kernel
theorem dX13_setup_86 : decode cX13_setup 86 = .ok (.invokevirtual 313, 3) := by decide +kernel
theorem dX13_setup_89 : decode cX13_setup 89 = .ok (.aload_n 0, 1) := by decide +kernel
theorem dX13_setup_90 : decode cX13_setup 90 = .ok (.bipush 59, 2) := by decide +kernel
theorem dX13_setup_92 : decode cX13_setup 92 = .ok (.invokevirtual 263, 3) := by decide +kernel
theorem dX13_setup_95 : decode cX13_setup 95 = .ok (.ifCond .eq 14, 3) := by decide +kernel
theorem dX13_setup_98 : decode cX13_setup 98 = .ok (.aload_n 0, 1) := by decide +kernel
theorem dX13_setup_99 : decode cX13_setup 99 = .ok (.invokevirtual 270, 3) := by decide +kernel
theorem dX13_setup_102 : decode cX13_setup 102 = .ok (.aload_n 0, 1) := by decide +kernel
theorem dX13_setup_103 : decode cX13_setup 103 = .ok (.invokevirtual 323, 3) := by decide +kernel
theorem dX13_setup_106 : decode cX13_setup 106 = .ok (.goto (-17), 3) := by decide +kernel
theorem dX13_setup_109 : decode cX13_setup 109 = .ok (.aload_n 0, 1) := by decide +kernel
theorem dX13_setup_110 : decode cX13_setup 110 = .ok (.aload_n 0, 1) := by decide +kernel
theorem dX13_setup_111 : decode cX13_setup 111 = .ok (.aload_n 0, 1) := by decide +kernel
theorem dX13_setup_112 : decode cX13_setup 112 = .ok (.getfield 237, 3) := by decide +kernel
theorem dX13_setup_115 : decode cX13_setup 115 = .ok (.ifCond .eq 7, 3) := by decide +kernel
theorem dX13_setup_118 : decode cX13_setup 118 = .ok (.iconst 1, 1) := by decide +kernel
theorem dX13_setup_119 : decode cX13_setup 119 = .ok (.goto 4, 3) := by decide +kernel
theorem dX13_setup_122 : decode cX13_setup 122 = .ok (.iconst 0, 1) := by decide +kernel
theorem dX13_setup_123 : decode cX13_setup 123 = .ok (.iconst 1, 1) := by decide +kernel
theorem dX13_setup_124 : decode cX13_setup 124 = .ok (.invokevirtual 266, 3) := by decide +kernel
theorem dX13_setup_127 : decode cX13_setup 127 = .ok (.putfield 326, 3) := by decide +kernel
theorem dX13_setup_130 : decode cX13_setup 130 = .ok (.aload_n 0, 1) := by decide +kernel
theorem dX13_setup_131 : decode cX13_setup 131 = .ok (.getfield 247, 3) := by decide +kernel
theorem dX13_setup_134 : decode cX13_setup 134 = .ok (.ifCond .ne 7, 3) := by decide +kernel
theorem dX13_setup_137 : decode cX13_setup 137 = .ok (.aload_n 0, 1) := by decide +kernel
theorem dX13_setup_138 : decode cX13_setup 138 = .ok (.invokevirtual 97, 3) := by decide +kernel
theorem dX13_setup_141 : decode cX13_setup 141 = .ok (.return_, 1) := by decide +kernel
theorem dX13_ended_0 : decode cX13_ended 0 = .ok (.aload_n 0, 1) := by decide +kernel
theorem dX13_ended_1 : decode cX13_ended 1 = .ok (.iconst 0, 1) := by decide +kernel
theorem dX13_ended_2 : decode cX13_ended 2 = .ok (.putfield 212, 3) := by decide +kernel
theorem dX13_ended_5 : decode cX13_ended 5 = .ok (.aload_n 0, 1) := by decide +kernel
theorem dX13_ended_6 : decode cX13_ended 6 = .ok (.aload_n 0, 1) := by decide +kernel
theorem dX13_ended_7 : decode cX13_ended 7 = .ok (.getfield 247, 3) := by decide +kernel
theorem dX13_ended_10 : decode cX13_ended 10 = .ok (.ifCond .ne 7, 3) := by decide +kernel
theorem dX13_ended_13 : decode cX13_ended 13 = .ok (.iconst (-1), 1) := by decide +kernel
theorem dX13_ended_14 : decode cX13_ended 14 = .ok (.goto 7, 3) := by decide +kernel
theorem dX13_ended_17 : decode cX13_ended 17 = .ok (.aload_n 0, 1) := by decide +kernel
theorem dX13_ended_18 : decode cX13_ended 18 = .ok (.getfield 250, 3) := by decide +kernel
theorem dX13_ended_21 : decode cX13_ended 21 = .ok (.putfield 61, 3) := by decide +kernel
theorem dX13_ended_24 : decode cX13_ended 24 = .ok (.aload_n 0, 1) := by decide +kernel
theorem dX13_ended_25 : decode cX13_ended 25 = .ok (.getfield 247, 3) := by decide +kernel
theorem dX13_ended_28 : decode cX13_ended 28 = .ok (.ifCond .ne 7, 3) := by decide +kernel
theorem dX13_ended_31 : decode cX13_ended 31 = .ok (.iconst 0, 1) := by decide +kernel
theorem dX13_ended_32 : decode cX13_ended 32 = .ok (.goto 10, 3) := by decide +kernel
theorem dX13_ended_35 : decode cX13_ended 35 = .ok (.bipush (-10), 2) := by decide +kernel
theorem dX13_ended_37 : decode cX13_ended 37 = .ok (.aload_n 0, 1) := by decide +kernel
theorem dX13_ended_38 : decode cX13_ended 38 = .ok (.getfield 247, 3) := by decide +kernel
theorem dX13_ended_41 : decode cX13_ended 41 = .ok (.isub, 1) := by decide +kernel
theorem dX13_ended_42 : decode cX13_ended 42 = .ok (.ireturn, 1) := by decide +kernel
theorem dX13_load_0 : decode cX13_load 0 = .ok (.aload_n 0, 1) := by decide +kernel
theorem dX13_load_1 : decode cX13_load 1 = .ok (.iconst 0, 1) := by decide +kernel
theorem dX13_load_2 : decode cX13_load 2 = .ok (.putfield 100, 3) := by decide +kernel
theorem dX13_load_5 : decode cX13_load 5 = .ok (.aload_n 0, 1) := by decide +kernel
theorem dX13_load_6 : decode cX13_load 6 = .ok (.invokevirtual 330, 3) := by decide +kernel
theorem dX13_load_9 : decode cX13_load 9 = .ok (.aload_n 0, 1) := by decide +kernel
theorem dX13_load_10 : decode cX13_load 10 = .ok (.invokevirtual 333, 3) := by decide +kernel
theorem dX13_load_13 : decode cX13_load 13 = .ok (.aload_n 0, 1) := by decide +kernel
theorem dX13_load_14 : decode cX13_load 14 = .ok (.invokevirtual 336, 3) := by decide +kernel
theorem dX13_load_17 : decode cX13_load 17 = .ok (.istore_n 1, 1) := by decide +kernel
theorem dX13_load_18 : decode cX13_load 18 = .ok (.iload_n 1, 1) := by decide +kernel
theorem dX13_load_19 : decode cX13_load 19 = .ok (.ifCond .ge 9, 3) := by decide +kernel
theorem dX13_load_22 : decode cX13_load 22 = .ok (.aload_n 0, 1) := by decide +kernel
theorem dX13_load_23 : decode cX13_load 23 = .ok (.iload_n 1, 1) := by decide +kernel
theorem dX13_load_24 : decode cX13_load 24 = .ok (.invokevirtual 339, 3) := by decide +kernel
theorem dX13_load_27 : decode cX13_load 27 = .ok (.ireturn, 1) := by decide +kernel
theorem dX13_load_28 : decode cX13_load 28 = .ok (.aload_n 0, 1) := by decide +kernel
theorem dX13_load_29 : decode cX13_load 29 = .ok (.iconst 0, 1) := by decide +kernel
theorem dX13_load_30 : decode cX13_load 30 = .ok (.putfield 342, 3) := by decide +kernel
theorem dX13_load_33 : decode cX13_load 33 = .ok (.aload_n 0, 1) := by decide +kernel
theorem dX13_load_34 : decode cX13_load 34 = .ok (.getfield 27, 3) := by decide +kernel
theorem dX13_load_37 : decode cX13_load 37 = .ok (.iconst 0, 1) := by decide +kernel
theorem dX13_load_38 : decode cX13_load 38 = .ok (.iconst 0, 1) := by decide +kernel
theorem dX13_load_39 : decode cX13_load 39 = .ok (.bastore, 1) := by decide +kernel
theorem dX13_load_40 : decode cX13_load 40 = .ok (.aload_n 0, 1) := by decide +kernel
theorem dX13_load_41 : decode cX13_load 41 = .ok (.getfield 27, 3) := by decide +kernel
theorem dX13_load_44 : decode cX13_load 44 = .ok (.iconst 1, 1) := by decide +kernel
theorem dX13_load_45 : decode cX13_load 45 = .ok (.iconst 0, 1) := by decide +kernel
theorem dX13_load_46 : decode cX13_load 46 = .ok (.bastore, 1) := by decide +kernel
theorem dX13_load_47 : decode cX13_load 47 = .ok (.aload_n 0, 1) := by decide +kernel
theorem dX13_load_48 : decode cX13_load 48 = .ok (.getfield 9, 3) := by decide +kernel
theorem dX13_load_51 : decode cX13_load 51 = .ok (.iconst 3, 1) := by decide +kernel
theorem dX13_load_52 : decode cX13_load 52 = .ok (.iaload, 1) := by decide +kernel
theorem dX13_load_53 : decode cX13_load 53 = .ok (.ireturn, 1) := by decide +kernel
theorem dX13_errorPosition_0 : decode cX13_errorPosition 0 = .ok (.aload_n 0, 1) := by decide +kernel
theorem dX13_errorPosition_1 : decode cX13_errorPosition 1 = .ok (.iconst 0, 1) := by decide +kernel
theorem dX13_errorPosition_2 : decode cX13_errorPosition 2 = .ok (.putfield 100, 3) := by decide +kernel
theorem dX13_errorPosition_5 : decode cX13_errorPosition 5 = .ok (.aload_n 0, 1) := by decide +kernel
theorem dX13_errorPosition_6 : decode cX13_errorPosition 6 = .ok (.getfield 61, 3) := by decide +kernel
theorem dX13_errorPosition_9 : decode cX13_errorPosition 9 = .ok (.ireturn, 1) := by decide +kernel
theorem dX13_orderHere_0 : decode cX13_orderHere 0 = .ok (.aload_n 0, 1) := by decide +kernel
theorem dX13_orderHere_1 : decode cX13_orderHere 1 = .ok (.ldc_w 345, 3) := by decide +kernel
theorem dX13_orderHere_4 : decode cX13_orderHere 4 = .ok (.invokevirtual 290, 3) := by decide +kernel
theorem dX13_orderHere_7 : decode cX13_orderHere 7 = .ok (.ifCond .eq 6, 3) := by decide +kernel
theorem dX13_orderHere_10 : decode cX13_orderHere 10 = .ok (.bipush 10, 2) := by decide +kernel
theorem dX13_orderHere_12 : decode cX13_orderHere 12 = .ok (.ireturn, 1) := by decide +kernel
theorem dX13_orderHere_13 : decode cX13_orderHere 13 = .ok (.aload_n 0, 1) := by decide +kernel
theorem dX13_orderHere_14 : decode cX13_orderHere 14 = .ok (.ldc_w 347, 3) := by decide +kernel
theorem dX13_orderHere_17 : decode cX13_orderHere 17 = .ok (.invokevirtual 290, 3) := by decide +kernel
theorem dX13_orderHere_20 : decode cX13_orderHere 20 = .ok (.ifCond .eq 6, 3) := by decide +kernel
theorem dX13_orderHere_23 : decode cX13_orderHere 23 = .ok (.bipush 11, 2) := by decide +kernel
theorem dX13_orderHere_25 : decode cX13_orderHere 25 = .ok (.ireturn, 1) := by decide +kernel
theorem dX13_orderHere_26 : decode cX13_orderHere 26 = .ok (.aload_n 0, 1) := by decide +kernel
theorem dX13_orderHere_27 : decode cX13_orderHere 27 = .ok (.ldc_w 349, 3) := by decide +kernel
theorem dX13_orderHere_30 : decode cX13_orderHere 30 = .ok (.invokevirtual 290, 3) := by decide +kernel
theorem dX13_orderHere_33 : decode cX13_orderHere 33 = .ok (.ifCond .eq 6, 3) := by decide +kernel
theorem dX13_orderHere_36 : decode cX13_orderHere 36 = .ok (.bipush 12, 2) := by decide +kernel
theorem dX13_orderHere_38 : decode cX13_orderHere 38 = .ok (.ireturn, 1) := by decide +kernel
theorem dX13_orderHere_39 : decode cX13_orderHere 39 = .ok (.aload_n 0, 1) := by decide +kernel
theorem dX13_orderHere_40 : decode cX13_orderHere 40 = .ok (.ldc_w 351, 3) := by decide +kernel
theorem dX13_orderHere_43 : decode cX13_orderHere 43 = .ok (.invokevirtual 290, 3) := by decide +kernel
theorem dX13_orderHere_46 : decode cX13_orderHere 46 = .ok (.ifCond .eq 6, 3) := by decide +kernel
theorem dX13_orderHere_49 : decode cX13_orderHere 49 = .ok (.bipush 13, 2) := by decide +kernel
theorem dX13_orderHere_51 : decode cX13_orderHere 51 = .ok (.ireturn, 1) := by decide +kernel
theorem dX13_orderHere_52 : decode cX13_orderHere 52 = .ok (.aload_n 0, 1) := by decide +kernel
theorem dX13_orderHere_53 : decode cX13_orderHere 53 = .ok (.ldc_w 353, 3) := by decide +kernel
theorem dX13_orderHere_56 : decode cX13_orderHere 56 = .ok (.invokevirtual 290, 3) := by decide +kernel
theorem dX13_orderHere_59 : decode cX13_orderHere 59 = .ok (.ifCond .eq 6, 3) := by decide +kernel
theorem dX13_orderHere_62 : decode cX13_orderHere 62 = .ok (.bipush 14, 2) := by decide +kernel
theorem dX13_orderHere_64 : decode cX13_orderHere 64 = .ok (.ireturn, 1) := by decide +kernel
theorem dX13_orderHere_65 : decode cX13_orderHere 65 = .ok (.aload_n 0, 1) := by decide +kernel
theorem dX13_orderHere_66 : decode cX13_orderHere 66 = .ok (.ldc_w 355, 3) := by decide +kernel
theorem dX13_orderHere_69 : decode cX13_orderHere 69 = .ok (.invokevirtual 290, 3) := by decide +kernel
theorem dX13_orderHere_72 : decode cX13_orderHere 72 = .ok (.ifCond .eq 6, 3) := by decide +kernel
theorem dX13_orderHere_75 : decode cX13_orderHere 75 = .ok (.bipush 15, 2) := by decide +kernel
theorem dX13_orderHere_77 : decode cX13_orderHere 77 = .ok (.ireturn, 1) := by decide +kernel
theorem dX13_orderHere_78 : decode cX13_orderHere 78 = .ok (.aload_n 0, 1) := by decide +kernel
theorem dX13_orderHere_79 : decode cX13_orderHere 79 = .ok (.ldc_w 288, 3) := by decide +kernel
theorem dX13_orderHere_82 : decode cX13_orderHere 82 = .ok (.invokevirtual 290, 3) := by decide +kernel
theorem dX13_orderHere_85 : decode cX13_orderHere 85 = .ok (.ifCond .eq 5, 3) := by decide +kernel
theorem dX13_orderHere_88 : decode cX13_orderHere 88 = .ok (.iconst 0, 1) := by decide +kernel
theorem dX13_orderHere_89 : decode cX13_orderHere 89 = .ok (.ireturn, 1) := by decide +kernel
theorem dX13_orderHere_90 : decode cX13_orderHere 90 = .ok (.aload_n 0, 1) := by decide +kernel
theorem dX13_orderHere_91 : decode cX13_orderHere 91 = .ok (.ldc_w 294, 3) := by decide +kernel
theorem dX13_orderHere_94 : decode cX13_orderHere 94 = .ok (.invokevirtual 290, 3) := by decide +kernel
theorem dX13_orderHere_97 : decode cX13_orderHere 97 = .ok (.ifCond .eq 5, 3) := by decide +kernel
theorem dX13_orderHere_100 : decode cX13_orderHere 100 = .ok (.iconst 1, 1) := by decide +kernel
theorem dX13_orderHere_101 : decode cX13_orderHere 101 = .ok (.ireturn, 1) := by decide +kernel
theorem dX13_orderHere_102 : decode cX13_orderHere 102 = .ok (.aload_n 0, 1) := by decide +kernel
theorem dX13_orderHere_103 : decode cX13_orderHere 103 = .ok (.ldc_w 357, 3) := by decide +kernel
theorem dX13_orderHere_106 : decode cX13_orderHere 106 = .ok (.invokevirtual 290, 3) := by decide +kernel
theorem dX13_orderHere_109 : decode cX13_orderHere 109 = .ok (.ifCond .eq 5, 3) := by decide +kernel
theorem dX13_orderHere_112 : decode cX13_orderHere 112 = .ok (.iconst 2, 1) := by decide +kernel
theorem dX13_orderHere_113 : decode cX13_orderHere 113 = .ok (.ireturn, 1) := by decide +kernel
theorem dX13_orderHere_114 : decode cX13_orderHere 114 = .ok (.aload_n 0, 1) := by decide +kernel
theorem dX13_orderHere_115 : decode cX13_orderHere 115 = .ok (.ldc_w 359, 3) := by decide +kernel
theorem dX13_orderHere_118 : decode cX13_orderHere 118 = .ok (.invokevirtual 290, 3) := by decide +kernel
theorem dX13_orderHere_121 : decode cX13_orderHere 121 = .ok (.ifCond .eq 8, 3) := by decide +kernel
theorem dX13_orderHere_124 : decode cX13_orderHere 124 = .ok (.bipush 16, 2) := by decide +kernel
theorem dX13_orderHere_126 : decode cX13_orderHere 126 = .ok (.goto 4, 3) := by decide +kernel
theorem dX13_orderHere_129 : decode cX13_orderHere 129 = .ok (.iconst (-1), 1) := by decide +kernel
theorem dX13_orderHere_130 : decode cX13_orderHere 130 = .ok (.ireturn, 1) := by decide +kernel
theorem dX13_wordHere_0 : decode cX13_wordHere 0 = .ok (.aload_n 0, 1) := by decide +kernel
theorem dX13_wordHere_1 : decode cX13_wordHere 1 = .ok (.aload_n 0, 1) := by decide +kernel
theorem dX13_wordHere_2 : decode cX13_wordHere 2 = .ok (.getfield 237, 3) := by decide +kernel
theorem dX13_wordHere_5 : decode cX13_wordHere 5 = .ok (.iconst 1, 1) := by decide +kernel
theorem dX13_wordHere_6 : decode cX13_wordHere 6 = .ok (.if_icmp .eq 7, 3) := by decide +kernel
theorem dX13_wordHere_9 : decode cX13_wordHere 9 = .ok (.iconst 1, 1) := by decide +kernel
theorem dX13_wordHere_10 : decode cX13_wordHere 10 = .ok (.goto 4, 3) := by decide +kernel
theorem dX13_wordHere_13 : decode cX13_wordHere 13 = .ok (.iconst 0, 1) := by decide +kernel
theorem dX13_wordHere_14 : decode cX13_wordHere 14 = .ok (.iconst 1, 1) := by decide +kernel
theorem dX13_wordHere_15 : decode cX13_wordHere 15 = .ok (.invokevirtual 266, 3) := by decide +kernel
theorem dX13_wordHere_18 : decode cX13_wordHere 18 = .ok (.ifCond .ne 28, 3) := by decide +kernel
theorem dX13_wordHere_21 : decode cX13_wordHere 21 = .ok (.aload_n 0, 1) := by decide +kernel
theorem dX13_wordHere_22 : decode cX13_wordHere 22 = .ok (.iload_n 1, 1) := by decide +kernel
theorem dX13_wordHere_23 : decode cX13_wordHere 23 = .ok (.ifCond .eq 15, 3) := by decide +kernel
theorem dX13_wordHere_26 : decode cX13_wordHere 26 = .ok (.aload_n 0, 1) := by decide +kernel
theorem dX13_wordHere_27 : decode cX13_wordHere 27 = .ok (.invokevirtual 253, 3) := by decide +kernel
theorem dX13_wordHere_30 : decode cX13_wordHere 30 = .ok (.iconst 2, 1) := by decide +kernel
theorem dX13_wordHere_31 : decode cX13_wordHere 31 = .ok (.if_icmp .eq 7, 3) := by decide +kernel
theorem dX13_wordHere_34 : decode cX13_wordHere 34 = .ok (.iconst 1, 1) := by decide +kernel
theorem dX13_wordHere_35 : decode cX13_wordHere 35 = .ok (.goto 4, 3) := by decide +kernel
theorem dX13_wordHere_38 : decode cX13_wordHere 38 = .ok (.iconst 0, 1) := by decide +kernel
theorem dX13_wordHere_39 : decode cX13_wordHere 39 = .ok (.iconst 4, 1) := by decide +kernel
theorem dX13_wordHere_40 : decode cX13_wordHere 40 = .ok (.invokevirtual 266, 3) := by decide +kernel
theorem dX13_wordHere_43 : decode cX13_wordHere 43 = .ok (.ifCond .eq 5, 3) := by decide +kernel
theorem dX13_wordHere_46 : decode cX13_wordHere 46 = .ok (.iconst 0, 1) := by decide +kernel
theorem dX13_wordHere_47 : decode cX13_wordHere 47 = .ok (.ireturn, 1) := by decide +kernel
theorem dX13_wordHere_48 : decode cX13_wordHere 48 = .ok (.aload_n 0, 1) := by decide +kernel
theorem dX13_wordHere_49 : decode cX13_wordHere 49 = .ok (.getfield 231, 3) := by decide +kernel
theorem dX13_wordHere_52 : decode cX13_wordHere 52 = .ok (.istore_n 2, 1) := by decide +kernel
theorem dX13_wordHere_53 : decode cX13_wordHere 53 = .ok (.aload_n 0, 1) := by decide +kernel
theorem dX13_wordHere_54 : decode cX13_wordHere 54 = .ok (.getfield 71, 3) := by decide +kernel
theorem dX13_wordHere_57 : decode cX13_wordHere 57 = .ok (.aload_n 0, 1) := by decide +kernel
theorem dX13_wordHere_58 : decode cX13_wordHere 58 = .ok (.getfield 361, 3) := by decide +kernel
theorem dX13_wordHere_61 : decode cX13_wordHere 61 = .ok (.aload_n 0, 1) := by decide +kernel
theorem dX13_wordHere_62 : decode cX13_wordHere 62 = .ok (.invokevirtual 253, 3) := by decide +kernel
theorem dX13_wordHere_65 : decode cX13_wordHere 65 = .ok (.iastore, 1) := by decide +kernel
theorem dX13_wordHere_66 : decode cX13_wordHere 66 = .ok (.aload_n 0, 1) := by decide +kernel
theorem dX13_wordHere_67 : decode cX13_wordHere 67 = .ok (.invokevirtual 270, 3) := by decide +kernel
theorem dX13_wordHere_70 : decode cX13_wordHere 70 = .ok (.iload_n 2, 1) := by decide +kernel
theorem dX13_wordHere_71 : decode cX13_wordHere 71 = .ok (.ireturn, 1) := by decide +kernel
theorem dX13_firstHere_0 : decode cX13_firstHere 0 = .ok (.iload_n 1, 1) := by decide +kernel
theorem dX13_firstHere_1 : decode cX13_firstHere 1 = .ok (.tableswitch 90 10 16 #[43, 51, 53, 65, 59, 73, 82], 43) := by decide +kernel
theorem dX13_firstHere_44 : decode cX13_firstHere 44 = .ok (.aload_n 0, 1) := by decide +kernel
theorem dX13_firstHere_45 : decode cX13_firstHere 45 = .ok (.iconst 1, 1) := by decide +kernel
theorem dX13_firstHere_46 : decode cX13_firstHere 46 = .ok (.bipush 50, 2) := by decide +kernel
theorem dX13_firstHere_48 : decode cX13_firstHere 48 = .ok (.invokevirtual 307, 3) := by decide +kernel
theorem dX13_firstHere_51 : decode cX13_firstHere 51 = .ok (.ireturn, 1) := by decide +kernel
theorem dX13_firstHere_52 : decode cX13_firstHere 52 = .ok (.iconst 0, 1) := by decide +kernel
theorem dX13_firstHere_53 : decode cX13_firstHere 53 = .ok (.ireturn, 1) := by decide +kernel
theorem dX13_firstHere_54 : decode cX13_firstHere 54 = .ok (.aload_n 0, 1) := by decide +kernel
theorem dX13_firstHere_55 : decode cX13_firstHere 55 = .ok (.iconst 1, 1) := by decide +kernel
theorem dX13_firstHere_56 : decode cX13_firstHere 56 = .ok (.invokevirtual 364, 3) := by decide +kernel
theorem dX13_firstHere_59 : decode cX13_firstHere 59 = .ok (.ireturn, 1) := by decide +kernel
theorem dX13_firstHere_60 : decode cX13_firstHere 60 = .ok (.aload_n 0, 1) := by decide +kernel
theorem dX13_firstHere_61 : decode cX13_firstHere 61 = .ok (.iconst 0, 1) := by decide +kernel
theorem dX13_firstHere_62 : decode cX13_firstHere 62 = .ok (.invokevirtual 364, 3) := by decide +kernel
theorem dX13_firstHere_65 : decode cX13_firstHere 65 = .ok (.ireturn, 1) := by decide +kernel
theorem dX13_firstHere_66 : decode cX13_firstHere 66 = .ok (.aload_n 0, 1) := by decide +kernel
theorem dX13_firstHere_67 : decode cX13_firstHere 67 = .ok (.iconst 0, 1) := by decide +kernel
theorem dX13_firstHere_68 : decode cX13_firstHere 68 = .ok (.bipush 39, 2) := by decide +kernel
theorem dX13_firstHere_70 : decode cX13_firstHere 70 = .ok (.invokevirtual 307, 3) := by decide +kernel
theorem dX13_firstHere_73 : decode cX13_firstHere 73 = .ok (.ireturn, 1) := by decide +kernel
theorem dX13_firstHere_74 : decode cX13_firstHere 74 = .ok (.aload_n 0, 1) := by decide +kernel
theorem dX13_firstHere_75 : decode cX13_firstHere 75 = .ok (.iconst 1, 1) := by decide +kernel
theorem dX13_firstHere_76 : decode cX13_firstHere 76 = .ok (.sipush 400, 3) := by decide +kernel
theorem dX13_firstHere_79 : decode cX13_firstHere 79 = .ok (.invokevirtual 307, 3) := by decide +kernel
theorem dX13_firstHere_82 : decode cX13_firstHere 82 = .ok (.ireturn, 1) := by decide +kernel
theorem dX13_firstHere_83 : decode cX13_firstHere 83 = .ok (.aload_n 0, 1) := by decide +kernel
theorem dX13_firstHere_84 : decode cX13_firstHere 84 = .ok (.iconst 0, 1) := by decide +kernel
theorem dX13_firstHere_85 : decode cX13_firstHere 85 = .ok (.bipush 20, 2) := by decide +kernel
theorem dX13_firstHere_87 : decode cX13_firstHere 87 = .ok (.invokevirtual 307, 3) := by decide +kernel
theorem dX13_firstHere_90 : decode cX13_firstHere 90 = .ok (.ireturn, 1) := by decide +kernel
theorem dX13_firstHere_91 : decode cX13_firstHere 91 = .ok (.aload_n 0, 1) := by decide +kernel
theorem dX13_firstHere_92 : decode cX13_firstHere 92 = .ok (.iload_n 1, 1) := by decide +kernel
theorem dX13_firstHere_93 : decode cX13_firstHere 93 = .ok (.invokestatic 301, 3) := by decide +kernel
theorem dX13_firstHere_96 : decode cX13_firstHere 96 = .ok (.iload_n 1, 1) := by decide +kernel
theorem dX13_firstHere_97 : decode cX13_firstHere 97 = .ok (.invokestatic 304, 3) := by decide +kernel
theorem dX13_firstHere_100 : decode cX13_firstHere 100 = .ok (.invokevirtual 307, 3) := by decide +kernel
theorem dX13_firstHere_103 : decode cX13_firstHere 103 = .ok (.ireturn, 1) := by decide +kernel
theorem dX13_readsOrder_0 : decode cX13_readsOrder 0 = .ok (.aload_n 0, 1) := by decide +kernel
theorem dX13_readsOrder_1 : decode cX13_readsOrder 1 = .ok (.invokevirtual 367, 3) := by decide +kernel
theorem dX13_readsOrder_4 : decode cX13_readsOrder 4 = .ok (.istore_n 1, 1) := by decide +kernel
theorem dX13_readsOrder_5 : decode cX13_readsOrder 5 = .ok (.aload_n 0, 1) := by decide +kernel
theorem dX13_readsOrder_6 : decode cX13_readsOrder 6 = .ok (.iload_n 1, 1) := by decide +kernel
theorem dX13_readsOrder_7 : decode cX13_readsOrder 7 = .ok (.iconst (-1), 1) := by decide +kernel
theorem dX13_readsOrder_8 : decode cX13_readsOrder 8 = .ok (.if_icmp .ne 7, 3) := by decide +kernel
theorem dX13_readsOrder_11 : decode cX13_readsOrder 11 = .ok (.iconst 1, 1) := by decide +kernel
theorem dX13_readsOrder_12 : decode cX13_readsOrder 12 = .ok (.goto 4, 3) := by decide +kernel
theorem dX13_readsOrder_15 : decode cX13_readsOrder 15 = .ok (.iconst 0, 1) := by decide +kernel
theorem dX13_readsOrder_16 : decode cX13_readsOrder 16 = .ok (.iconst 1, 1) := by decide +kernel
theorem dX13_readsOrder_17 : decode cX13_readsOrder 17 = .ok (.invokevirtual 266, 3) := by decide +kernel
theorem dX13_readsOrder_20 : decode cX13_readsOrder 20 = .ok (.ifCond .ne 25, 3) := by decide +kernel
theorem dX13_readsOrder_23 : decode cX13_readsOrder 23 = .ok (.aload_n 0, 1) := by decide +kernel
theorem dX13_readsOrder_24 : decode cX13_readsOrder 24 = .ok (.aload_n 0, 1) := by decide +kernel
theorem dX13_readsOrder_25 : decode cX13_readsOrder 25 = .ok (.getfield 370, 3) := by decide +kernel
theorem dX13_readsOrder_28 : decode cX13_readsOrder 28 = .ok (.bipush 30, 2) := by decide +kernel
theorem dX13_readsOrder_30 : decode cX13_readsOrder 30 = .ok (.if_icmp .ne 7, 3) := by decide +kernel
theorem dX13_readsOrder_33 : decode cX13_readsOrder 33 = .ok (.iconst 1, 1) := by decide +kernel
theorem dX13_readsOrder_34 : decode cX13_readsOrder 34 = .ok (.goto 4, 3) := by decide +kernel
theorem dX13_readsOrder_37 : decode cX13_readsOrder 37 = .ok (.iconst 0, 1) := by decide +kernel
theorem dX13_readsOrder_38 : decode cX13_readsOrder 38 = .ok (.iconst 5, 1) := by decide +kernel
theorem dX13_readsOrder_39 : decode cX13_readsOrder 39 = .ok (.invokevirtual 266, 3) := by decide +kernel
theorem dX13_readsOrder_42 : decode cX13_readsOrder 42 = .ok (.ifCond .eq 4, 3) := by decide +kernel
theorem dX13_readsOrder_45 : decode cX13_readsOrder 45 = .ok (.return_, 1) := by decide +kernel
theorem dX13_readsOrder_46 : decode cX13_readsOrder 46 = .ok (.aload_n 0, 1) := by decide +kernel
theorem dX13_readsOrder_47 : decode cX13_readsOrder 47 = .ok (.dup, 1) := by decide +kernel
theorem dX13_readsOrder_48 : decode cX13_readsOrder 48 = .ok (.getfield 370, 3) := by decide +kernel
theorem dX13_readsOrder_51 : decode cX13_readsOrder 51 = .ok (.iconst 1, 1) := by decide +kernel
theorem dX13_readsOrder_52 : decode cX13_readsOrder 52 = .ok (.iadd, 1) := by decide +kernel
theorem dX13_readsOrder_53 : decode cX13_readsOrder 53 = .ok (.putfield 370, 3) := by decide +kernel
theorem dX13_readsOrder_56 : decode cX13_readsOrder 56 = .ok (.aload_n 0, 1) := by decide +kernel
theorem dX13_readsOrder_57 : decode cX13_readsOrder 57 = .ok (.invokevirtual 270, 3) := by decide +kernel
theorem dX13_readsOrder_60 : decode cX13_readsOrder 60 = .ok (.aload_n 0, 1) := by decide +kernel
theorem dX13_readsOrder_61 : decode cX13_readsOrder 61 = .ok (.getfield 65, 3) := by decide +kernel
theorem dX13_readsOrder_64 : decode cX13_readsOrder 64 = .ok (.aload_n 0, 1) := by decide +kernel
theorem dX13_readsOrder_65 : decode cX13_readsOrder 65 = .ok (.getfield 361, 3) := by decide +kernel
theorem dX13_readsOrder_68 : decode cX13_readsOrder 68 = .ok (.iload_n 1, 1) := by decide +kernel
theorem dX13_readsOrder_69 : decode cX13_readsOrder 69 = .ok (.iastore, 1) := by decide +kernel
theorem dX13_readsOrder_70 : decode cX13_readsOrder 70 = .ok (.aload_n 0, 1) := by decide +kernel
theorem dX13_readsOrder_71 : decode cX13_readsOrder 71 = .ok (.getfield 68, 3) := by decide +kernel
theorem dX13_readsOrder_74 : decode cX13_readsOrder 74 = .ok (.aload_n 0, 1) := by decide +kernel
theorem dX13_readsOrder_75 : decode cX13_readsOrder 75 = .ok (.getfield 361, 3) := by decide +kernel
theorem dX13_readsOrder_78 : decode cX13_readsOrder 78 = .ok (.aload_n 0, 1) := by decide +kernel
theorem dX13_readsOrder_79 : decode cX13_readsOrder 79 = .ok (.iload_n 1, 1) := by decide +kernel
theorem dX13_readsOrder_80 : decode cX13_readsOrder 80 = .ok (.invokevirtual 373, 3) := by decide +kernel
theorem dX13_readsOrder_83 : decode cX13_readsOrder 83 = .ok (.iastore, 1) := by decide +kernel
theorem dX13_readsOrder_84 : decode cX13_readsOrder 84 = .ok (.iload_n 1, 1) := by decide +kernel
theorem dX13_readsOrder_85 : decode cX13_readsOrder 85 = .ok (.bipush 16, 2) := by decide +kernel
theorem dX13_readsOrder_87 : decode cX13_readsOrder 87 = .ok (.if_icmp .eq 20, 3) := by decide +kernel
theorem dX13_readsOrder_90 : decode cX13_readsOrder 90 = .ok (.aload_n 0, 1) := by decide +kernel
theorem dX13_readsOrder_91 : decode cX13_readsOrder 91 = .ok (.dup, 1) := by decide +kernel
theorem dX13_readsOrder_92 : decode cX13_readsOrder 92 = .ok (.getfield 361, 3) := by decide +kernel
theorem dX13_readsOrder_95 : decode cX13_readsOrder 95 = .ok (.iconst 1, 1) := by decide +kernel
theorem dX13_readsOrder_96 : decode cX13_readsOrder 96 = .ok (.iadd, 1) := by decide +kernel
theorem dX13_readsOrder_97 : decode cX13_readsOrder 97 = .ok (.putfield 361, 3) := by decide +kernel
theorem dX13_readsOrder_100 : decode cX13_readsOrder 100 = .ok (.aload_n 0, 1) := by decide +kernel
theorem dX13_readsOrder_101 : decode cX13_readsOrder 101 = .ok (.bipush 59, 2) := by decide +kernel
theorem dX13_readsOrder_103 : decode cX13_readsOrder 103 = .ok (.invokevirtual 276, 3) := by decide +kernel
theorem dX13_readsOrder_106 : decode cX13_readsOrder 106 = .ok (.return_, 1) := by decide +kernel
theorem dX13_readsOrder_107 : decode cX13_readsOrder 107 = .ok (.aload_n 0, 1) := by decide +kernel
theorem dX13_readsOrder_108 : decode cX13_readsOrder 108 = .ok (.aload_n 0, 1) := by decide +kernel
theorem dX13_readsOrder_109 : decode cX13_readsOrder 109 = .ok (.bipush 40, 2) := by decide +kernel
theorem dX13_readsOrder_111 : decode cX13_readsOrder 111 = .ok (.invokevirtual 263, 3) := by decide +kernel
theorem dX13_readsOrder_114 : decode cX13_readsOrder 114 = .ok (.ifCond .eq 15, 3) := by decide +kernel
theorem dX13_readsOrder_117 : decode cX13_readsOrder 117 = .ok (.aload_n 0, 1) := by decide +kernel
theorem dX13_readsOrder_118 : decode cX13_readsOrder 118 = .ok (.getfield 376, 3) := by decide +kernel
theorem dX13_readsOrder_121 : decode cX13_readsOrder 121 = .ok (.iconst 2, 1) := by decide +kernel
theorem dX13_readsOrder_122 : decode cX13_readsOrder 122 = .ok (.if_icmp .ne 7, 3) := by decide +kernel
theorem dX13_readsOrder_125 : decode cX13_readsOrder 125 = .ok (.iconst 1, 1) := by decide +kernel
theorem dX13_readsOrder_126 : decode cX13_readsOrder 126 = .ok (.goto 4, 3) := by decide +kernel
theorem dX13_readsOrder_129 : decode cX13_readsOrder 129 = .ok (.iconst 0, 1) := by decide +kernel
theorem dX13_readsOrder_130 : decode cX13_readsOrder 130 = .ok (.iconst 5, 1) := by decide +kernel
theorem dX13_readsOrder_131 : decode cX13_readsOrder 131 = .ok (.invokevirtual 266, 3) := by decide +kernel
theorem dX13_readsOrder_134 : decode cX13_readsOrder 134 = .ok (.ifCond .eq 4, 3) := by decide +kernel
theorem dX13_readsOrder_137 : decode cX13_readsOrder 137 = .ok (.return_, 1) := by decide +kernel
theorem dX13_readsOrder_138 : decode cX13_readsOrder 138 = .ok (.aload_n 0, 1) := by decide +kernel
theorem dX13_readsOrder_139 : decode cX13_readsOrder 139 = .ok (.bipush 40, 2) := by decide +kernel
theorem dX13_readsOrder_141 : decode cX13_readsOrder 141 = .ok (.invokevirtual 276, 3) := by decide +kernel
theorem dX13_readsOrder_144 : decode cX13_readsOrder 144 = .ok (.aload_n 0, 1) := by decide +kernel
theorem dX13_readsOrder_145 : decode cX13_readsOrder 145 = .ok (.getfield 77, 3) := by decide +kernel
theorem dX13_readsOrder_148 : decode cX13_readsOrder 148 = .ok (.aload_n 0, 1) := by decide +kernel
theorem dX13_readsOrder_149 : decode cX13_readsOrder 149 = .ok (.getfield 376, 3) := by decide +kernel
theorem dX13_readsOrder_152 : decode cX13_readsOrder 152 = .ok (.iconst 1, 1) := by decide +kernel
theorem dX13_readsOrder_153 : decode cX13_readsOrder 153 = .ok (.invokestatic 379, 3) := by decide +kernel
theorem dX13_readsOrder_156 : decode cX13_readsOrder 156 = .ok (.aload_n 0, 1) := by decide +kernel
theorem dX13_readsOrder_157 : decode cX13_readsOrder 157 = .ok (.getfield 361, 3) := by decide +kernel
theorem dX13_readsOrder_160 : decode cX13_readsOrder 160 = .ok (.iastore, 1) := by decide +kernel
theorem dX13_readsOrder_161 : decode cX13_readsOrder 161 = .ok (.aload_n 0, 1) := by decide +kernel
theorem dX13_readsOrder_162 : decode cX13_readsOrder 162 = .ok (.dup, 1) := by decide +kernel
theorem dX13_readsOrder_163 : decode cX13_readsOrder 163 = .ok (.getfield 376, 3) := by decide +kernel
theorem dX13_readsOrder_166 : decode cX13_readsOrder 166 = .ok (.iconst 1, 1) := by decide +kernel
theorem dX13_readsOrder_167 : decode cX13_readsOrder 167 = .ok (.iadd, 1) := by decide +kernel
theorem dX13_readsOrder_168 : decode cX13_readsOrder 168 = .ok (.putfield 376, 3) := by decide +kernel
theorem dX13_readsOrder_171 : decode cX13_readsOrder 171 = .ok (.aload_n 0, 1) := by decide +kernel
theorem dX13_readsOrder_172 : decode cX13_readsOrder 172 = .ok (.dup, 1) := by decide +kernel
theorem dX13_readsOrder_173 : decode cX13_readsOrder 173 = .ok (.getfield 361, 3) := by decide +kernel
theorem dX13_readsOrder_176 : decode cX13_readsOrder 176 = .ok (.iconst 1, 1) := by decide +kernel
theorem dX13_readsOrder_177 : decode cX13_readsOrder 177 = .ok (.iadd, 1) := by decide +kernel
theorem dX13_readsOrder_178 : decode cX13_readsOrder 178 = .ok (.putfield 361, 3) := by decide +kernel
theorem dX13_readsOrder_181 : decode cX13_readsOrder 181 = .ok (.return_, 1) := by decide +kernel
theorem dX13_closes_0 : decode cX13_closes 0 = .ok (.aload_n 0, 1) := by decide +kernel
theorem dX13_closes_1 : decode cX13_closes 1 = .ok (.getfield 376, 3) := by decide +kernel
theorem dX13_closes_4 : decode cX13_closes 4 = .ok (.ifCond .le 74, 3) := by decide +kernel
theorem dX13_closes_7 : decode cX13_closes 7 = .ok (.aload_n 0, 1) := by decide +kernel
theorem dX13_closes_8 : decode cX13_closes 8 = .ok (.bipush 41, 2) := by decide +kernel
theorem dX13_closes_10 : decode cX13_closes 10 = .ok (.invokevirtual 263, 3) := by decide +kernel
theorem dX13_closes_13 : decode cX13_closes 13 = .ok (.ifCond .eq 65, 3) := by decide +kernel
theorem dX13_closes_16 : decode cX13_closes 16 = .ok (.aload_n 0, 1) := by decide +kernel
theorem dX13_closes_17 : decode cX13_closes 17 = .ok (.dup, 1) := by decide +kernel
theorem dX13_closes_18 : decode cX13_closes 18 = .ok (.getfield 376, 3) := by decide +kernel
theorem dX13_closes_21 : decode cX13_closes 21 = .ok (.iconst 1, 1) := by decide +kernel
theorem dX13_closes_22 : decode cX13_closes 22 = .ok (.isub, 1) := by decide +kernel
theorem dX13_closes_23 : decode cX13_closes 23 = .ok (.putfield 376, 3) := by decide +kernel
theorem dX13_closes_26 : decode cX13_closes 26 = .ok (.aload_n 0, 1) := by decide +kernel
theorem dX13_closes_27 : decode cX13_closes 27 = .ok (.getfield 74, 3) := by decide +kernel
theorem dX13_closes_30 : decode cX13_closes 30 = .ok (.aload_n 0, 1) := by decide +kernel
theorem dX13_closes_31 : decode cX13_closes 31 = .ok (.getfield 77, 3) := by decide +kernel
theorem dX13_closes_34 : decode cX13_closes 34 = .ok (.aload_n 0, 1) := by decide +kernel
theorem dX13_closes_35 : decode cX13_closes 35 = .ok (.getfield 376, 3) := by decide +kernel
theorem dX13_closes_38 : decode cX13_closes 38 = .ok (.iaload, 1) := by decide +kernel
theorem dX13_closes_39 : decode cX13_closes 39 = .ok (.aload_n 0, 1) := by decide +kernel
theorem dX13_closes_40 : decode cX13_closes 40 = .ok (.getfield 361, 3) := by decide +kernel
theorem dX13_closes_43 : decode cX13_closes 43 = .ok (.iastore, 1) := by decide +kernel
theorem dX13_closes_44 : decode cX13_closes 44 = .ok (.aload_n 0, 1) := by decide +kernel
theorem dX13_closes_45 : decode cX13_closes 45 = .ok (.getfield 65, 3) := by decide +kernel
theorem dX13_closes_48 : decode cX13_closes 48 = .ok (.aload_n 0, 1) := by decide +kernel
theorem dX13_closes_49 : decode cX13_closes 49 = .ok (.getfield 361, 3) := by decide +kernel
theorem dX13_closes_52 : decode cX13_closes 52 = .ok (.bipush 17, 2) := by decide +kernel
theorem dX13_closes_54 : decode cX13_closes 54 = .ok (.iastore, 1) := by decide +kernel
theorem dX13_closes_55 : decode cX13_closes 55 = .ok (.aload_n 0, 1) := by decide +kernel
theorem dX13_closes_56 : decode cX13_closes 56 = .ok (.dup, 1) := by decide +kernel
theorem dX13_closes_57 : decode cX13_closes 57 = .ok (.getfield 361, 3) := by decide +kernel
theorem dX13_closes_60 : decode cX13_closes 60 = .ok (.iconst 1, 1) := by decide +kernel
theorem dX13_closes_61 : decode cX13_closes 61 = .ok (.iadd, 1) := by decide +kernel
theorem dX13_closes_62 : decode cX13_closes 62 = .ok (.putfield 361, 3) := by decide +kernel
theorem dX13_closes_65 : decode cX13_closes 65 = .ok (.aload_n 0, 1) := by decide +kernel
theorem dX13_closes_66 : decode cX13_closes 66 = .ok (.invokevirtual 270, 3) := by decide +kernel
theorem dX13_closes_69 : decode cX13_closes 69 = .ok (.aload_n 0, 1) := by decide +kernel
theorem dX13_closes_70 : decode cX13_closes 70 = .ok (.bipush 59, 2) := by decide +kernel
theorem dX13_closes_72 : decode cX13_closes 72 = .ok (.invokevirtual 276, 3) := by decide +kernel
theorem dX13_closes_75 : decode cX13_closes 75 = .ok (.goto (-75), 3) := by decide +kernel
theorem dX13_closes_78 : decode cX13_closes 78 = .ok (.return_, 1) := by decide +kernel
theorem dX13_script_0 : decode cX13_script 0 = .ok (.aload_n 0, 1) := by decide +kernel
theorem dX13_script_1 : decode cX13_script 1 = .ok (.iconst 0, 1) := by decide +kernel
theorem dX13_script_2 : decode cX13_script 2 = .ok (.putfield 228, 3) := by decide +kernel
theorem dX13_script_5 : decode cX13_script 5 = .ok (.aload_n 0, 1) := by decide +kernel
theorem dX13_script_6 : decode cX13_script 6 = .ok (.iconst 0, 1) := by decide +kernel
theorem dX13_script_7 : decode cX13_script 7 = .ok (.putfield 247, 3) := by decide +kernel
theorem dX13_script_10 : decode cX13_script 10 = .ok (.aload_n 0, 1) := by decide +kernel
theorem dX13_script_11 : decode cX13_script 11 = .ok (.iconst 0, 1) := by decide +kernel
theorem dX13_script_12 : decode cX13_script 12 = .ok (.putfield 361, 3) := by decide +kernel
theorem dX13_script_15 : decode cX13_script 15 = .ok (.aload_n 0, 1) := by decide +kernel
theorem dX13_script_16 : decode cX13_script 16 = .ok (.iconst 0, 1) := by decide +kernel
theorem dX13_script_17 : decode cX13_script 17 = .ok (.putfield 370, 3) := by decide +kernel
theorem dX13_script_20 : decode cX13_script 20 = .ok (.aload_n 0, 1) := by decide +kernel
theorem dX13_script_21 : decode cX13_script 21 = .ok (.iconst 0, 1) := by decide +kernel
theorem dX13_script_22 : decode cX13_script 22 = .ok (.putfield 376, 3) := by decide +kernel
theorem dX13_script_25 : decode cX13_script 25 = .ok (.aload_n 0, 1) := by decide +kernel
theorem dX13_script_26 : decode cX13_script 26 = .ok (.invokevirtual 270, 3) := by decide +kernel
theorem dX13_script_29 : decode cX13_script 29 = .ok (.aload_n 0, 1) := by decide +kernel
theorem dX13_script_30 : decode cX13_script 30 = .ok (.getfield 247, 3) := by decide +kernel
theorem dX13_script_33 : decode cX13_script 33 = .ok (.ifCond .ne 21, 3) := by decide +kernel
theorem dX13_script_36 : decode cX13_script 36 = .ok (.aload_n 0, 1) := by decide +kernel
theorem dX13_script_37 : decode cX13_script 37 = .ok (.getfield 237, 3) := by decide +kernel
theorem dX13_script_40 : decode cX13_script 40 = .ok (.ifCond .eq 14, 3) := by decide +kernel
theorem dX13_script_43 : decode cX13_script 43 = .ok (.aload_n 0, 1) := by decide +kernel
theorem dX13_script_44 : decode cX13_script 44 = .ok (.invokevirtual 382, 3) := by decide +kernel
theorem dX13_script_47 : decode cX13_script 47 = .ok (.aload_n 0, 1) := by decide +kernel
theorem dX13_script_48 : decode cX13_script 48 = .ok (.invokevirtual 385, 3) := by decide +kernel
theorem dX13_script_51 : decode cX13_script 51 = .ok (.goto (-22), 3) := by decide +kernel
theorem dX13_script_54 : decode cX13_script 54 = .ok (.aload_n 0, 1) := by decide +kernel
theorem dX13_script_55 : decode cX13_script 55 = .ok (.aload_n 0, 1) := by decide +kernel
theorem dX13_script_56 : decode cX13_script 56 = .ok (.aload_n 0, 1) := by decide +kernel
theorem dX13_script_57 : decode cX13_script 57 = .ok (.getfield 376, 3) := by decide +kernel
theorem dX13_script_60 : decode cX13_script 60 = .ok (.ifCond .le 7, 3) := by decide +kernel
theorem dX13_script_63 : decode cX13_script 63 = .ok (.iconst 1, 1) := by decide +kernel
theorem dX13_script_64 : decode cX13_script 64 = .ok (.goto 4, 3) := by decide +kernel
theorem dX13_script_67 : decode cX13_script 67 = .ok (.iconst 0, 1) := by decide +kernel
theorem dX13_script_68 : decode cX13_script 68 = .ok (.iconst 1, 1) := by decide +kernel
theorem dX13_script_69 : decode cX13_script 69 = .ok (.invokevirtual 266, 3) := by decide +kernel
theorem dX13_script_72 : decode cX13_script 72 = .ok (.putfield 326, 3) := by decide +kernel
theorem dX13_script_75 : decode cX13_script 75 = .ok (.return_, 1) := by decide +kernel
theorem dX13_appendsWord_0 : decode cX13_appendsWord 0 = .ok (.iconst 0, 1) := by decide +kernel
theorem dX13_appendsWord_1 : decode cX13_appendsWord 1 = .ok (.istore_n 3, 1) := by decide +kernel
theorem dX13_appendsWord_2 : decode cX13_appendsWord 2 = .ok (.iconst 0, 1) := by decide +kernel
theorem dX13_appendsWord_3 : decode cX13_appendsWord 3 = .ok (.istore 4, 2) := by decide +kernel
theorem dX13_appendsWord_5 : decode cX13_appendsWord 5 = .ok (.iload 4, 2) := by decide +kernel
theorem dX13_appendsWord_7 : decode cX13_appendsWord 7 = .ok (.iload_n 2, 1) := by decide +kernel
theorem dX13_appendsWord_8 : decode cX13_appendsWord 8 = .ok (.if_icmp .ge 30, 3) := by decide +kernel
theorem dX13_appendsWord_11 : decode cX13_appendsWord 11 = .ok (.iload_n 3, 1) := by decide +kernel
theorem dX13_appendsWord_12 : decode cX13_appendsWord 12 = .ok (.ifCond .lt 26, 3) := by decide +kernel
theorem dX13_appendsWord_15 : decode cX13_appendsWord 15 = .ok (.aload_n 0, 1) := by decide +kernel
theorem dX13_appendsWord_16 : decode cX13_appendsWord 16 = .ok (.aload_n 0, 1) := by decide +kernel
theorem dX13_appendsWord_17 : decode cX13_appendsWord 17 = .ok (.getfield 58, 3) := by decide +kernel
theorem dX13_appendsWord_20 : decode cX13_appendsWord 20 = .ok (.iload_n 1, 1) := by decide +kernel
theorem dX13_appendsWord_21 : decode cX13_appendsWord 21 = .ok (.iload 4, 2) := by decide +kernel
theorem dX13_appendsWord_23 : decode cX13_appendsWord 23 = .ok (.iadd, 1) := by decide +kernel
theorem dX13_appendsWord_24 : decode cX13_appendsWord 24 = .ok (.iaload, 1) := by decide +kernel
theorem dX13_appendsWord_25 : decode cX13_appendsWord 25 = .ok (.bipush 97, 2) := by decide +kernel
theorem dX13_appendsWord_27 : decode cX13_appendsWord 27 = .ok (.isub, 1) := by decide +kernel
theorem dX13_appendsWord_28 : decode cX13_appendsWord 28 = .ok (.invokevirtual 388, 3) := by decide +kernel
theorem dX13_appendsWord_31 : decode cX13_appendsWord 31 = .ok (.istore_n 3, 1) := by decide +kernel
theorem dX13_appendsWord_32 : decode cX13_appendsWord 32 = .ok (.iinc 4 1, 3) := by decide +kernel
theorem dX13_appendsWord_35 : decode cX13_appendsWord 35 = .ok (.goto (-30), 3) := by decide +kernel
theorem dX13_appendsWord_38 : decode cX13_appendsWord 38 = .ok (.iload_n 3, 1) := by decide +kernel
theorem dX13_appendsWord_39 : decode cX13_appendsWord 39 = .ok (.ireturn, 1) := by decide +kernel
theorem dX13_does_0 : decode cX13_does 0 = .ok (.aload_n 0, 1) := by decide +kernel
theorem dX13_does_1 : decode cX13_does 1 = .ok (.getfield 68, 3) := by decide +kernel
theorem dX13_does_4 : decode cX13_does 4 = .ok (.iload_n 1, 1) := by decide +kernel
theorem dX13_does_5 : decode cX13_does 5 = .ok (.iaload, 1) := by decide +kernel
theorem dX13_does_6 : decode cX13_does 6 = .ok (.istore_n 2, 1) := by decide +kernel
theorem dX13_does_7 : decode cX13_does 7 = .ok (.aload_n 0, 1) := by decide +kernel
theorem dX13_does_8 : decode cX13_does 8 = .ok (.getfield 65, 3) := by decide +kernel
theorem dX13_does_11 : decode cX13_does 11 = .ok (.iload_n 1, 1) := by decide +kernel
theorem dX13_does_12 : decode cX13_does 12 = .ok (.iaload, 1) := by decide +kernel
theorem dX13_does_13 : decode cX13_does 13 = .ok (.tableswitch 99 10 15 #[39, 45, 50, 75, 81, 93], 39) := by decide +kernel
theorem dX13_does_52 : decode cX13_does 52 = .ok (.aload_n 0, 1) := by decide +kernel
theorem dX13_does_53 : decode cX13_does 53 = .ok (.iload_n 2, 1) := by decide +kernel
theorem dX13_does_54 : decode cX13_does 54 = .ok (.invokevirtual 391, 3) := by decide +kernel
theorem dX13_does_57 : decode cX13_does 57 = .ok (.ireturn, 1) := by decide +kernel
theorem dX13_does_58 : decode cX13_does 58 = .ok (.aload_n 0, 1) := by decide +kernel
theorem dX13_does_59 : decode cX13_does 59 = .ok (.invokevirtual 201, 3) := by decide +kernel
theorem dX13_does_62 : decode cX13_does 62 = .ok (.ireturn, 1) := by decide +kernel
theorem dX13_does_63 : decode cX13_does 63 = .ok (.aload_n 0, 1) := by decide +kernel
theorem dX13_does_64 : decode cX13_does 64 = .ok (.aload_n 0, 1) := by decide +kernel
theorem dX13_does_65 : decode cX13_does 65 = .ok (.getfield 58, 3) := by decide +kernel
theorem dX13_does_68 : decode cX13_does 68 = .ok (.iload_n 2, 1) := by decide +kernel
theorem dX13_does_69 : decode cX13_does 69 = .ok (.iaload, 1) := by decide +kernel
theorem dX13_does_70 : decode cX13_does 70 = .ok (.bipush 97, 2) := by decide +kernel
theorem dX13_does_72 : decode cX13_does 72 = .ok (.isub, 1) := by decide +kernel
theorem dX13_does_73 : decode cX13_does 73 = .ok (.aload_n 0, 1) := by decide +kernel
theorem dX13_does_74 : decode cX13_does 74 = .ok (.getfield 58, 3) := by decide +kernel
theorem dX13_does_77 : decode cX13_does 77 = .ok (.iload_n 2, 1) := by decide +kernel
theorem dX13_does_78 : decode cX13_does 78 = .ok (.iconst 1, 1) := by decide +kernel
theorem dX13_does_79 : decode cX13_does 79 = .ok (.iadd, 1) := by decide +kernel
theorem dX13_does_80 : decode cX13_does 80 = .ok (.iaload, 1) := by decide +kernel
theorem dX13_does_81 : decode cX13_does 81 = .ok (.bipush 97, 2) := by decide +kernel
theorem dX13_does_83 : decode cX13_does 83 = .ok (.isub, 1) := by decide +kernel
theorem dX13_does_84 : decode cX13_does 84 = .ok (.invokevirtual 394, 3) := by decide +kernel
theorem dX13_does_87 : decode cX13_does 87 = .ok (.ireturn, 1) := by decide +kernel
theorem dX13_does_88 : decode cX13_does 88 = .ok (.aload_n 0, 1) := by decide +kernel
theorem dX13_does_89 : decode cX13_does 89 = .ok (.iload_n 2, 1) := by decide +kernel
theorem dX13_does_90 : decode cX13_does 90 = .ok (.invokevirtual 397, 3) := by decide +kernel
theorem dX13_does_93 : decode cX13_does 93 = .ok (.ireturn, 1) := by decide +kernel
theorem dX13_does_94 : decode cX13_does 94 = .ok (.aload_n 0, 1) := by decide +kernel
theorem dX13_does_95 : decode cX13_does 95 = .ok (.iload_n 2, 1) := by decide +kernel
theorem dX13_does_96 : decode cX13_does 96 = .ok (.aload_n 0, 1) := by decide +kernel
theorem dX13_does_97 : decode cX13_does 97 = .ok (.getfield 71, 3) := by decide +kernel
theorem dX13_does_100 : decode cX13_does 100 = .ok (.iload_n 1, 1) := by decide +kernel
theorem dX13_does_101 : decode cX13_does 101 = .ok (.iaload, 1) := by decide +kernel
theorem dX13_does_102 : decode cX13_does 102 = .ok (.invokevirtual 400, 3) := by decide +kernel
theorem dX13_does_105 : decode cX13_does 105 = .ok (.ireturn, 1) := by decide +kernel
theorem dX13_does_106 : decode cX13_does 106 = .ok (.aload_n 0, 1) := by decide +kernel
theorem dX13_does_107 : decode cX13_does 107 = .ok (.iload_n 2, 1) := by decide +kernel
theorem dX13_does_108 : decode cX13_does 108 = .ok (.invokevirtual 403, 3) := by decide +kernel
theorem dX13_does_111 : decode cX13_does 111 = .ok (.ireturn, 1) := by decide +kernel
theorem dX13_does_112 : decode cX13_does 112 = .ok (.aload_n 0, 1) := by decide +kernel
theorem dX13_does_113 : decode cX13_does 113 = .ok (.aload_n 0, 1) := by decide +kernel
theorem dX13_does_114 : decode cX13_does 114 = .ok (.getfield 65, 3) := by decide +kernel
theorem dX13_does_117 : decode cX13_does 117 = .ok (.iload_n 1, 1) := by decide +kernel
theorem dX13_does_118 : decode cX13_does 118 = .ok (.iaload, 1) := by decide +kernel
theorem dX13_does_119 : decode cX13_does 119 = .ok (.iload_n 2, 1) := by decide +kernel
theorem dX13_does_120 : decode cX13_does 120 = .ok (.invokevirtual 406, 3) := by decide +kernel
theorem dX13_does_123 : decode cX13_does 123 = .ok (.ireturn, 1) := by decide +kernel
theorem dX13_plays_0 : decode cX13_plays 0 = .ok (.iconst 0, 1) := by decide +kernel
theorem dX13_plays_1 : decode cX13_plays 1 = .ok (.istore_n 1, 1) := by decide +kernel
theorem dX13_plays_2 : decode cX13_plays 2 = .ok (.iconst 0, 1) := by decide +kernel
theorem dX13_plays_3 : decode cX13_plays 3 = .ok (.istore_n 2, 1) := by decide +kernel
theorem dX13_plays_4 : decode cX13_plays 4 = .ok (.iconst 0, 1) := by decide +kernel
theorem dX13_plays_5 : decode cX13_plays 5 = .ok (.istore_n 3, 1) := by decide +kernel
theorem dX13_plays_6 : decode cX13_plays 6 = .ok (.iload_n 3, 1) := by decide +kernel
theorem dX13_plays_7 : decode cX13_plays 7 = .ok (.aload_n 0, 1) := by decide +kernel
theorem dX13_plays_8 : decode cX13_plays 8 = .ok (.getfield 361, 3) := by decide +kernel
theorem dX13_plays_11 : decode cX13_plays 11 = .ok (.if_icmp .ge 146, 3) := by decide +kernel
theorem dX13_plays_14 : decode cX13_plays 14 = .ok (.iload_n 1, 1) := by decide +kernel
theorem dX13_plays_15 : decode cX13_plays 15 = .ok (.bipush 40, 2) := by decide +kernel
theorem dX13_plays_17 : decode cX13_plays 17 = .ok (.if_icmp .ge 140, 3) := by decide +kernel
theorem dX13_plays_20 : decode cX13_plays 20 = .ok (.aload_n 0, 1) := by decide +kernel
theorem dX13_plays_21 : decode cX13_plays 21 = .ok (.getfield 65, 3) := by decide +kernel
theorem dX13_plays_24 : decode cX13_plays 24 = .ok (.iload_n 3, 1) := by decide +kernel
theorem dX13_plays_25 : decode cX13_plays 25 = .ok (.iaload, 1) := by decide +kernel
theorem dX13_plays_26 : decode cX13_plays 26 = .ok (.bipush 16, 2) := by decide +kernel
theorem dX13_plays_28 : decode cX13_plays 28 = .ok (.if_icmp .ne 22, 3) := by decide +kernel
theorem dX13_plays_31 : decode cX13_plays 31 = .ok (.aload_n 0, 1) := by decide +kernel
theorem dX13_plays_32 : decode cX13_plays 32 = .ok (.getfield 68, 3) := by decide +kernel
theorem dX13_plays_35 : decode cX13_plays 35 = .ok (.iload_n 3, 1) := by decide +kernel
theorem dX13_plays_36 : decode cX13_plays 36 = .ok (.iaload, 1) := by decide +kernel
theorem dX13_plays_37 : decode cX13_plays 37 = .ok (.ifCond .ne 13, 3) := by decide +kernel
theorem dX13_plays_40 : decode cX13_plays 40 = .ok (.aload_n 0, 1) := by decide +kernel
theorem dX13_plays_41 : decode cX13_plays 41 = .ok (.getfield 74, 3) := by decide +kernel
theorem dX13_plays_44 : decode cX13_plays 44 = .ok (.iload_n 3, 1) := by decide +kernel
theorem dX13_plays_45 : decode cX13_plays 45 = .ok (.iaload, 1) := by decide +kernel
theorem dX13_plays_46 : decode cX13_plays 46 = .ok (.istore_n 3, 1) := by decide +kernel
theorem dX13_plays_47 : decode cX13_plays 47 = .ok (.goto 104, 3) := by decide +kernel
theorem dX13_plays_50 : decode cX13_plays 50 = .ok (.aload_n 0, 1) := by decide +kernel
theorem dX13_plays_51 : decode cX13_plays 51 = .ok (.getfield 65, 3) := by decide +kernel
theorem dX13_plays_54 : decode cX13_plays 54 = .ok (.iload_n 3, 1) := by decide +kernel
theorem dX13_plays_55 : decode cX13_plays 55 = .ok (.iaload, 1) := by decide +kernel
theorem dX13_plays_56 : decode cX13_plays 56 = .ok (.bipush 16, 2) := by decide +kernel
theorem dX13_plays_58 : decode cX13_plays 58 = .ok (.if_icmp .ne 28, 3) := by decide +kernel
theorem dX13_plays_61 : decode cX13_plays 61 = .ok (.aload_n 0, 1) := by decide +kernel
theorem dX13_plays_62 : decode cX13_plays 62 = .ok (.getfield 77, 3) := by decide +kernel
theorem dX13_plays_65 : decode cX13_plays 65 = .ok (.iload_n 2, 1) := by decide +kernel
theorem dX13_plays_66 : decode cX13_plays 66 = .ok (.iload_n 3, 1) := by decide +kernel
theorem dX13_plays_67 : decode cX13_plays 67 = .ok (.iastore, 1) := by decide +kernel
theorem dX13_plays_68 : decode cX13_plays 68 = .ok (.aload_n 0, 1) := by decide +kernel
theorem dX13_plays_69 : decode cX13_plays 69 = .ok (.getfield 80, 3) := by decide +kernel
theorem dX13_plays_72 : decode cX13_plays 72 = .ok (.iload_n 2, 1) := by decide +kernel
theorem dX13_plays_73 : decode cX13_plays 73 = .ok (.aload_n 0, 1) := by decide +kernel
theorem dX13_plays_74 : decode cX13_plays 74 = .ok (.getfield 68, 3) := by decide +kernel
theorem dX13_plays_77 : decode cX13_plays 77 = .ok (.iload_n 3, 1) := by decide +kernel
theorem dX13_plays_78 : decode cX13_plays 78 = .ok (.iaload, 1) := by decide +kernel
theorem dX13_plays_79 : decode cX13_plays 79 = .ok (.iastore, 1) := by decide +kernel
theorem dX13_plays_80 : decode cX13_plays 80 = .ok (.iinc 2 1, 3) := by decide +kernel
theorem dX13_plays_83 : decode cX13_plays 83 = .ok (.goto 68, 3) := by decide +kernel
theorem dX13_plays_86 : decode cX13_plays 86 = .ok (.aload_n 0, 1) := by decide +kernel
theorem dX13_plays_87 : decode cX13_plays 87 = .ok (.getfield 65, 3) := by decide +kernel
theorem dX13_plays_90 : decode cX13_plays 90 = .ok (.iload_n 3, 1) := by decide +kernel
theorem dX13_plays_91 : decode cX13_plays 91 = .ok (.iaload, 1) := by decide +kernel
theorem dX13_plays_92 : decode cX13_plays 92 = .ok (.bipush 17, 2) := by decide +kernel
theorem dX13_plays_94 : decode cX13_plays 94 = .ok (.if_icmp .ne 44, 3) := by decide +kernel
theorem dX13_plays_97 : decode cX13_plays 97 = .ok (.aload_n 0, 1) := by decide +kernel
theorem dX13_plays_98 : decode cX13_plays 98 = .ok (.getfield 80, 3) := by decide +kernel
theorem dX13_plays_101 : decode cX13_plays 101 = .ok (.iload_n 2, 1) := by decide +kernel
theorem dX13_plays_102 : decode cX13_plays 102 = .ok (.iconst 1, 1) := by decide +kernel
theorem dX13_plays_103 : decode cX13_plays 103 = .ok (.isub, 1) := by decide +kernel
theorem dX13_plays_104 : decode cX13_plays 104 = .ok (.dup2, 1) := by decide +kernel
theorem dX13_plays_105 : decode cX13_plays 105 = .ok (.iaload, 1) := by decide +kernel
theorem dX13_plays_106 : decode cX13_plays 106 = .ok (.iconst 1, 1) := by decide +kernel
theorem dX13_plays_107 : decode cX13_plays 107 = .ok (.isub, 1) := by decide +kernel
theorem dX13_plays_108 : decode cX13_plays 108 = .ok (.iastore, 1) := by decide +kernel
theorem dX13_plays_109 : decode cX13_plays 109 = .ok (.aload_n 0, 1) := by decide +kernel
theorem dX13_plays_110 : decode cX13_plays 110 = .ok (.getfield 80, 3) := by decide +kernel
theorem dX13_plays_113 : decode cX13_plays 113 = .ok (.iload_n 2, 1) := by decide +kernel
theorem dX13_plays_114 : decode cX13_plays 114 = .ok (.iconst 1, 1) := by decide +kernel
theorem dX13_plays_115 : decode cX13_plays 115 = .ok (.isub, 1) := by decide +kernel
theorem dX13_plays_116 : decode cX13_plays 116 = .ok (.iaload, 1) := by decide +kernel
theorem dX13_plays_117 : decode cX13_plays 117 = .ok (.ifCond .le 15, 3) := by decide +kernel
theorem dX13_plays_120 : decode cX13_plays 120 = .ok (.aload_n 0, 1) := by decide +kernel
theorem dX13_plays_121 : decode cX13_plays 121 = .ok (.getfield 77, 3) := by decide +kernel
theorem dX13_plays_124 : decode cX13_plays 124 = .ok (.iload_n 2, 1) := by decide +kernel
theorem dX13_plays_125 : decode cX13_plays 125 = .ok (.iconst 1, 1) := by decide +kernel
theorem dX13_plays_126 : decode cX13_plays 126 = .ok (.isub, 1) := by decide +kernel
theorem dX13_plays_127 : decode cX13_plays 127 = .ok (.iaload, 1) := by decide +kernel
theorem dX13_plays_128 : decode cX13_plays 128 = .ok (.istore_n 3, 1) := by decide +kernel
theorem dX13_plays_129 : decode cX13_plays 129 = .ok (.goto 22, 3) := by decide +kernel
theorem dX13_plays_132 : decode cX13_plays 132 = .ok (.iinc 2 (-1), 3) := by decide +kernel
theorem dX13_plays_135 : decode cX13_plays 135 = .ok (.goto 16, 3) := by decide +kernel
theorem dX13_plays_138 : decode cX13_plays 138 = .ok (.aload_n 0, 1) := by decide +kernel
theorem dX13_plays_139 : decode cX13_plays 139 = .ok (.iload_n 3, 1) := by decide +kernel
theorem dX13_plays_140 : decode cX13_plays 140 = .ok (.invokevirtual 409, 3) := by decide +kernel
theorem dX13_plays_143 : decode cX13_plays 143 = .ok (.ifCond .ge 5, 3) := by decide +kernel
theorem dX13_plays_146 : decode cX13_plays 146 = .ok (.iload_n 1, 1) := by decide +kernel
theorem dX13_plays_147 : decode cX13_plays 147 = .ok (.ireturn, 1) := by decide +kernel
theorem dX13_plays_148 : decode cX13_plays 148 = .ok (.iinc 1 1, 3) := by decide +kernel
theorem dX13_plays_151 : decode cX13_plays 151 = .ok (.iinc 3 1, 3) := by decide +kernel
theorem dX13_plays_154 : decode cX13_plays 154 = .ok (.goto (-148), 3) := by decide +kernel
theorem dX13_plays_157 : decode cX13_plays 157 = .ok (.iload_n 1, 1) := by decide +kernel
theorem dX13_plays_158 : decode cX13_plays 158 = .ok (.ireturn, 1) := by decide +kernel
theorem dX13_play_0 : decode cX13_play 0 = .ok (.aload_n 0, 1) := by decide +kernel
theorem dX13_play_1 : decode cX13_play 1 = .ok (.iconst 0, 1) := by decide +kernel
theorem dX13_play_2 : decode cX13_play 2 = .ok (.putfield 100, 3) := by decide +kernel
theorem dX13_play_5 : decode cX13_play 5 = .ok (.aload_n 0, 1) := by decide +kernel
theorem dX13_play_6 : decode cX13_play 6 = .ok (.invokevirtual 412, 3) := by decide +kernel
theorem dX13_play_9 : decode cX13_play 9 = .ok (.aload_n 0, 1) := by decide +kernel
theorem dX13_play_10 : decode cX13_play 10 = .ok (.invokevirtual 336, 3) := by decide +kernel
theorem dX13_play_13 : decode cX13_play 13 = .ok (.istore_n 1, 1) := by decide +kernel
theorem dX13_play_14 : decode cX13_play 14 = .ok (.iload_n 1, 1) := by decide +kernel
theorem dX13_play_15 : decode cX13_play 15 = .ok (.ifCond .ge 5, 3) := by decide +kernel
theorem dX13_play_18 : decode cX13_play 18 = .ok (.iload_n 1, 1) := by decide +kernel
theorem dX13_play_19 : decode cX13_play 19 = .ok (.ireturn, 1) := by decide +kernel
theorem dX13_play_20 : decode cX13_play 20 = .ok (.aload_n 0, 1) := by decide +kernel
theorem dX13_play_21 : decode cX13_play 21 = .ok (.aload_n 0, 1) := by decide +kernel
theorem dX13_play_22 : decode cX13_play 22 = .ok (.getfield 9, 3) := by decide +kernel
theorem dX13_play_25 : decode cX13_play 25 = .ok (.invokevirtual 415, 3) := by decide +kernel
theorem dX13_play_28 : decode cX13_play 28 = .ok (.aload_n 0, 1) := by decide +kernel
theorem dX13_play_29 : decode cX13_play 29 = .ok (.invokevirtual 419, 3) := by decide +kernel
theorem dX13_play_32 : decode cX13_play 32 = .ok (.ireturn, 1) := by decide +kernel
theorem dX13_longestBody_0 : decode cX13_longestBody 0 = .ok (.iconst 0, 1) := by decide +kernel
theorem dX13_longestBody_1 : decode cX13_longestBody 1 = .ok (.istore_n 1, 1) := by decide +kernel
theorem dX13_longestBody_2 : decode cX13_longestBody 2 = .ok (.iconst 1, 1) := by decide +kernel
theorem dX13_longestBody_3 : decode cX13_longestBody 3 = .ok (.istore_n 2, 1) := by decide +kernel
theorem dX13_longestBody_4 : decode cX13_longestBody 4 = .ok (.iload_n 2, 1) := by decide +kernel
theorem dX13_longestBody_5 : decode cX13_longestBody 5 = .ok (.bipush 41, 2) := by decide +kernel
theorem dX13_longestBody_7 : decode cX13_longestBody 7 = .ok (.if_icmp .ge 19, 3) := by decide +kernel
theorem dX13_longestBody_10 : decode cX13_longestBody 10 = .ok (.iload_n 1, 1) := by decide +kernel
theorem dX13_longestBody_11 : decode cX13_longestBody 11 = .ok (.aload_n 0, 1) := by decide +kernel
theorem dX13_longestBody_12 : decode cX13_longestBody 12 = .ok (.iload_n 2, 1) := by decide +kernel
theorem dX13_longestBody_13 : decode cX13_longestBody 13 = .ok (.invokevirtual 103, 3) := by decide +kernel
theorem dX13_longestBody_16 : decode cX13_longestBody 16 = .ok (.invokestatic 129, 3) := by decide +kernel
theorem dX13_longestBody_19 : decode cX13_longestBody 19 = .ok (.istore_n 1, 1) := by decide +kernel
theorem dX13_longestBody_20 : decode cX13_longestBody 20 = .ok (.iinc 2 1, 3) := by decide +kernel
theorem dX13_longestBody_23 : decode cX13_longestBody 23 = .ok (.goto (-19), 3) := by decide +kernel
theorem dX13_longestBody_26 : decode cX13_longestBody 26 = .ok (.iload_n 1, 1) := by decide +kernel
theorem dX13_longestBody_27 : decode cX13_longestBody 27 = .ok (.ireturn, 1) := by decide +kernel
theorem dX13_deepNow_0 : decode cX13_deepNow 0 = .ok (.aload_n 0, 1) := by decide +kernel
theorem dX13_deepNow_1 : decode cX13_deepNow 1 = .ok (.invokevirtual 422, 3) := by decide +kernel
theorem dX13_deepNow_4 : decode cX13_deepNow 4 = .ok (.istore_n 1, 1) := by decide +kernel
theorem dX13_deepNow_5 : decode cX13_deepNow 5 = .ok (.iload_n 1, 1) := by decide +kernel
theorem dX13_deepNow_6 : decode cX13_deepNow 6 = .ok (.ifCond .le 10, 3) := by decide +kernel
theorem dX13_deepNow_9 : decode cX13_deepNow 9 = .ok (.aload_n 0, 1) := by decide +kernel
theorem dX13_deepNow_10 : decode cX13_deepNow 10 = .ok (.getfield 126, 3) := by decide +kernel
theorem dX13_deepNow_13 : decode cX13_deepNow 13 = .ok (.goto 4, 3) := by decide +kernel
theorem dX13_deepNow_16 : decode cX13_deepNow 16 = .ok (.iconst 0, 1) := by decide +kernel
theorem dX13_deepNow_17 : decode cX13_deepNow 17 = .ok (.ireturn, 1) := by decide +kernel
theorem dX13_lettersOf_0 : decode cX13_lettersOf 0 = .ok (.iconst 0, 1) := by decide +kernel
theorem dX13_lettersOf_1 : decode cX13_lettersOf 1 = .ok (.istore_n 2, 1) := by decide +kernel
theorem dX13_lettersOf_2 : decode cX13_lettersOf 2 = .ok (.aload_n 0, 1) := by decide +kernel
theorem dX13_lettersOf_3 : decode cX13_lettersOf 3 = .ok (.invokevirtual 140, 3) := by decide +kernel
theorem dX13_lettersOf_6 : decode cX13_lettersOf 6 = .ok (.istore_n 3, 1) := by decide +kernel
theorem dX13_lettersOf_7 : decode cX13_lettersOf 7 = .ok (.iconst 0, 1) := by decide +kernel
theorem dX13_lettersOf_8 : decode cX13_lettersOf 8 = .ok (.istore 4, 2) := by decide +kernel
theorem dX13_lettersOf_10 : decode cX13_lettersOf 10 = .ok (.iload 4, 2) := by decide +kernel
theorem dX13_lettersOf_12 : decode cX13_lettersOf 12 = .ok (.iload_n 3, 1) := by decide +kernel
theorem dX13_lettersOf_13 : decode cX13_lettersOf 13 = .ok (.if_icmp .ge 31, 3) := by decide +kernel
theorem dX13_lettersOf_16 : decode cX13_lettersOf 16 = .ok (.iload_n 2, 1) := by decide +kernel
theorem dX13_lettersOf_17 : decode cX13_lettersOf 17 = .ok (.aload_n 0, 1) := by decide +kernel
theorem dX13_lettersOf_18 : decode cX13_lettersOf 18 = .ok (.getfield 37, 3) := by decide +kernel
theorem dX13_lettersOf_21 : decode cX13_lettersOf 21 = .ok (.iload 4, 2) := by decide +kernel
theorem dX13_lettersOf_23 : decode cX13_lettersOf 23 = .ok (.iaload, 1) := by decide +kernel
theorem dX13_lettersOf_24 : decode cX13_lettersOf 24 = .ok (.iload_n 1, 1) := by decide +kernel
theorem dX13_lettersOf_25 : decode cX13_lettersOf 25 = .ok (.if_icmp .ne 7, 3) := by decide +kernel
theorem dX13_lettersOf_28 : decode cX13_lettersOf 28 = .ok (.iconst 1, 1) := by decide +kernel
theorem dX13_lettersOf_29 : decode cX13_lettersOf 29 = .ok (.goto 4, 3) := by decide +kernel
theorem dX13_lettersOf_32 : decode cX13_lettersOf 32 = .ok (.iconst 0, 1) := by decide +kernel
theorem dX13_lettersOf_33 : decode cX13_lettersOf 33 = .ok (.invokestatic 115, 3) := by decide +kernel
theorem dX13_lettersOf_36 : decode cX13_lettersOf 36 = .ok (.iadd, 1) := by decide +kernel
theorem dX13_lettersOf_37 : decode cX13_lettersOf 37 = .ok (.istore_n 2, 1) := by decide +kernel
theorem dX13_lettersOf_38 : decode cX13_lettersOf 38 = .ok (.iinc 4 1, 3) := by decide +kernel
theorem dX13_lettersOf_41 : decode cX13_lettersOf 41 = .ok (.goto (-31), 3) := by decide +kernel
theorem dX13_lettersOf_44 : decode cX13_lettersOf 44 = .ok (.iload_n 2, 1) := by decide +kernel
theorem dX13_lettersOf_45 : decode cX13_lettersOf 45 = .ok (.ireturn, 1) := by decide +kernel
theorem dX13_unlike_0 : decode cX13_unlike 0 = .ok (.iconst 0, 1) := by decide +kernel
theorem dX13_unlike_1 : decode cX13_unlike 1 = .ok (.istore_n 1, 1) := by decide +kernel
theorem dX13_unlike_2 : decode cX13_unlike 2 = .ok (.aload_n 0, 1) := by decide +kernel
theorem dX13_unlike_3 : decode cX13_unlike 3 = .ok (.invokevirtual 140, 3) := by decide +kernel
theorem dX13_unlike_6 : decode cX13_unlike 6 = .ok (.istore_n 2, 1) := by decide +kernel
theorem dX13_unlike_7 : decode cX13_unlike 7 = .ok (.iconst 0, 1) := by decide +kernel
theorem dX13_unlike_8 : decode cX13_unlike 8 = .ok (.istore_n 3, 1) := by decide +kernel
theorem dX13_unlike_9 : decode cX13_unlike 9 = .ok (.iload_n 3, 1) := by decide +kernel
theorem dX13_unlike_10 : decode cX13_unlike 10 = .ok (.iload_n 2, 1) := by decide +kernel
theorem dX13_unlike_11 : decode cX13_unlike 11 = .ok (.if_icmp .ge 20, 3) := by decide +kernel
theorem dX13_unlike_14 : decode cX13_unlike 14 = .ok (.iload_n 1, 1) := by decide +kernel
theorem dX13_unlike_15 : decode cX13_unlike 15 = .ok (.iconst 1, 1) := by decide +kernel
theorem dX13_unlike_16 : decode cX13_unlike 16 = .ok (.aload_n 0, 1) := by decide +kernel
theorem dX13_unlike_17 : decode cX13_unlike 17 = .ok (.getfield 37, 3) := by decide +kernel
theorem dX13_unlike_20 : decode cX13_unlike 20 = .ok (.iload_n 3, 1) := by decide +kernel
theorem dX13_unlike_21 : decode cX13_unlike 21 = .ok (.iaload, 1) := by decide +kernel
theorem dX13_unlike_22 : decode cX13_unlike 22 = .ok (.ishl, 1) := by decide +kernel
theorem dX13_unlike_23 : decode cX13_unlike 23 = .ok (.ior, 1) := by decide +kernel
theorem dX13_unlike_24 : decode cX13_unlike 24 = .ok (.istore_n 1, 1) := by decide +kernel
theorem dX13_unlike_25 : decode cX13_unlike 25 = .ok (.iinc 3 1, 3) := by decide +kernel
theorem dX13_unlike_28 : decode cX13_unlike 28 = .ok (.goto (-19), 3) := by decide +kernel
theorem dX13_unlike_31 : decode cX13_unlike 31 = .ok (.iconst 0, 1) := by decide +kernel
theorem dX13_unlike_32 : decode cX13_unlike 32 = .ok (.istore_n 3, 1) := by decide +kernel
theorem dX13_unlike_33 : decode cX13_unlike 33 = .ok (.iload_n 1, 1) := by decide +kernel
theorem dX13_unlike_34 : decode cX13_unlike 34 = .ok (.istore 4, 2) := by decide +kernel
theorem dX13_unlike_36 : decode cX13_unlike 36 = .ok (.iload 4, 2) := by decide +kernel
theorem dX13_unlike_38 : decode cX13_unlike 38 = .ok (.ifCond .eq 18, 3) := by decide +kernel
theorem dX13_unlike_41 : decode cX13_unlike 41 = .ok (.iinc 3 1, 3) := by decide +kernel
theorem dX13_unlike_44 : decode cX13_unlike 44 = .ok (.iload 4, 2) := by decide +kernel
theorem dX13_unlike_46 : decode cX13_unlike 46 = .ok (.iload 4, 2) := by decide +kernel
theorem dX13_unlike_48 : decode cX13_unlike 48 = .ok (.iconst 1, 1) := by decide +kernel
theorem dX13_unlike_49 : decode cX13_unlike 49 = .ok (.isub, 1) := by decide +kernel
theorem dX13_unlike_50 : decode cX13_unlike 50 = .ok (.iand, 1) := by decide +kernel
theorem dX13_unlike_51 : decode cX13_unlike 51 = .ok (.istore 4, 2) := by decide +kernel
theorem dX13_unlike_53 : decode cX13_unlike 53 = .ok (.goto (-17), 3) := by decide +kernel
theorem dX13_unlike_56 : decode cX13_unlike 56 = .ok (.iload_n 3, 1) := by decide +kernel
theorem dX13_unlike_57 : decode cX13_unlike 57 = .ok (.ireturn, 1) := by decide +kernel
theorem dX13_worthNow_0 : decode cX13_worthNow 0 = .ok (.aload_n 0, 1) := by decide +kernel
theorem dX13_worthNow_1 : decode cX13_worthNow 1 = .ok (.invokevirtual 160, 3) := by decide +kernel
theorem dX13_worthNow_4 : decode cX13_worthNow 4 = .ok (.aload_n 0, 1) := by decide +kernel
theorem dX13_worthNow_5 : decode cX13_worthNow 5 = .ok (.iconst 0, 1) := by decide +kernel
theorem dX13_worthNow_6 : decode cX13_worthNow 6 = .ok (.invokevirtual 425, 3) := by decide +kernel
theorem dX13_worthNow_9 : decode cX13_worthNow 9 = .ok (.ireturn, 1) := by decide +kernel
theorem dX13_size_0 : decode cX13_size 0 = .ok (.aload_n 0, 1) := by decide +kernel
theorem dX13_size_1 : decode cX13_size 1 = .ok (.iconst 0, 1) := by decide +kernel
theorem dX13_size_2 : decode cX13_size 2 = .ok (.putfield 100, 3) := by decide +kernel
theorem dX13_size_5 : decode cX13_size 5 = .ok (.aload_n 0, 1) := by decide +kernel
theorem dX13_size_6 : decode cX13_size 6 = .ok (.iload_n 1, 1) := by decide +kernel
theorem dX13_size_7 : decode cX13_size 7 = .ok (.iconst 0, 1) := by decide +kernel
theorem dX13_size_8 : decode cX13_size 8 = .ok (.bipush 11, 2) := by decide +kernel
theorem dX13_size_10 : decode cX13_size 10 = .ok (.invokestatic 224, 3) := by decide +kernel
theorem dX13_size_13 : decode cX13_size 13 = .ok (.ifCond .ne 7, 3) := by decide +kernel
theorem dX13_size_16 : decode cX13_size 16 = .ok (.iconst 1, 1) := by decide +kernel
theorem dX13_size_17 : decode cX13_size 17 = .ok (.goto 4, 3) := by decide +kernel
theorem dX13_size_20 : decode cX13_size 20 = .ok (.iconst 0, 1) := by decide +kernel
theorem dX13_size_21 : decode cX13_size 21 = .ok (.iconst 1, 1) := by decide +kernel
theorem dX13_size_22 : decode cX13_size 22 = .ok (.invokevirtual 428, 3) := by decide +kernel
theorem dX13_size_25 : decode cX13_size 25 = .ok (.ifCond .eq 5, 3) := by decide +kernel
theorem dX13_size_28 : decode cX13_size 28 = .ok (.iconst 0, 1) := by decide +kernel
theorem dX13_size_29 : decode cX13_size 29 = .ok (.ireturn, 1) := by decide +kernel
theorem dX13_size_30 : decode cX13_size 30 = .ok (.iload_n 1, 1) := by decide +kernel
theorem dX13_size_31 : decode cX13_size 31 = .ok (.tableswitch 107 0 11 #[61, 66, 72, 77, 107, 107, 107, 82, 87, 92, 97, 102], 61) := by decide +kernel
theorem dX13_size_92 : decode cX13_size 92 = .ok (.aload_n 0, 1) := by decide +kernel
theorem dX13_size_93 : decode cX13_size 93 = .ok (.invokevirtual 422, 3) := by decide +kernel
theorem dX13_size_96 : decode cX13_size 96 = .ok (.ireturn, 1) := by decide +kernel
theorem dX13_size_97 : decode cX13_size 97 = .ok (.aload_n 0, 1) := by decide +kernel
theorem dX13_size_98 : decode cX13_size 98 = .ok (.iconst 0, 1) := by decide +kernel
theorem dX13_size_99 : decode cX13_size 99 = .ok (.invokevirtual 103, 3) := by decide +kernel
theorem dX13_size_102 : decode cX13_size 102 = .ok (.ireturn, 1) := by decide +kernel
theorem dX13_size_103 : decode cX13_size 103 = .ok (.aload_n 0, 1) := by decide +kernel
theorem dX13_size_104 : decode cX13_size 104 = .ok (.invokevirtual 144, 3) := by decide +kernel
theorem dX13_size_107 : decode cX13_size 107 = .ok (.ireturn, 1) := by decide +kernel
theorem dX13_size_108 : decode cX13_size 108 = .ok (.aload_n 0, 1) := by decide +kernel
theorem dX13_size_109 : decode cX13_size 109 = .ok (.invokevirtual 431, 3) := by decide +kernel
theorem dX13_size_112 : decode cX13_size 112 = .ok (.ireturn, 1) := by decide +kernel
theorem dX13_size_113 : decode cX13_size 113 = .ok (.aload_n 0, 1) := by decide +kernel
theorem dX13_size_114 : decode cX13_size 114 = .ok (.invokevirtual 434, 3) := by decide +kernel
theorem dX13_size_117 : decode cX13_size 117 = .ok (.ireturn, 1) := by decide +kernel
theorem dX13_size_118 : decode cX13_size 118 = .ok (.aload_n 0, 1) := by decide +kernel
theorem dX13_size_119 : decode cX13_size 119 = .ok (.invokevirtual 437, 3) := by decide +kernel
theorem dX13_size_122 : decode cX13_size 122 = .ok (.ireturn, 1) := by decide +kernel
theorem dX13_size_123 : decode cX13_size 123 = .ok (.aload_n 0, 1) := by decide +kernel
theorem dX13_size_124 : decode cX13_size 124 = .ok (.invokevirtual 440, 3) := by decide +kernel
theorem dX13_size_127 : decode cX13_size 127 = .ok (.ireturn, 1) := by decide +kernel
theorem dX13_size_128 : decode cX13_size 128 = .ok (.aload_n 0, 1) := by decide +kernel
theorem dX13_size_129 : decode cX13_size 129 = .ok (.invokevirtual 443, 3) := by decide +kernel
theorem dX13_size_132 : decode cX13_size 132 = .ok (.ireturn, 1) := by decide +kernel
theorem dX13_size_133 : decode cX13_size 133 = .ok (.aload_n 0, 1) := by decide +kernel
theorem dX13_size_134 : decode cX13_size 134 = .ok (.getfield 342, 3) := by decide +kernel
theorem dX13_size_137 : decode cX13_size 137 = .ok (.ireturn, 1) := by decide +kernel
theorem dX13_size_138 : decode cX13_size 138 = .ok (.aload_n 0, 1) := by decide +kernel
theorem dX13_size_139 : decode cX13_size 139 = .ok (.getfield 9, 3) := by decide +kernel
theorem dX13_size_142 : decode cX13_size 142 = .ok (.iload_n 1, 1) := by decide +kernel
theorem dX13_size_143 : decode cX13_size 143 = .ok (.iconst 4, 1) := by decide +kernel
theorem dX13_size_144 : decode cX13_size 144 = .ok (.isub, 1) := by decide +kernel
theorem dX13_size_145 : decode cX13_size 145 = .ok (.iaload, 1) := by decide +kernel
theorem dX13_size_146 : decode cX13_size 146 = .ok (.ireturn, 1) := by decide +kernel
theorem dX13_noRule_0 : decode cX13_noRule 0 = .ok (.aload_n 0, 1) := by decide +kernel
theorem dX13_noRule_1 : decode cX13_noRule 1 = .ok (.iload_n 1, 1) := by decide +kernel
theorem dX13_noRule_2 : decode cX13_noRule 2 = .ok (.iconst 0, 1) := by decide +kernel
theorem dX13_noRule_3 : decode cX13_noRule 3 = .ok (.bipush 39, 2) := by decide +kernel
theorem dX13_noRule_5 : decode cX13_noRule 5 = .ok (.invokestatic 224, 3) := by decide +kernel
theorem dX13_noRule_8 : decode cX13_noRule 8 = .ok (.ifCond .ne 7, 3) := by decide +kernel
theorem dX13_noRule_11 : decode cX13_noRule 11 = .ok (.iconst 1, 1) := by decide +kernel
theorem dX13_noRule_12 : decode cX13_noRule 12 = .ok (.goto 4, 3) := by decide +kernel
theorem dX13_noRule_15 : decode cX13_noRule 15 = .ok (.iconst 0, 1) := by decide +kernel
theorem dX13_noRule_16 : decode cX13_noRule 16 = .ok (.iconst 1, 1) := by decide +kernel
theorem dX13_noRule_17 : decode cX13_noRule 17 = .ok (.invokevirtual 428, 3) := by decide +kernel
theorem dX13_noRule_20 : decode cX13_noRule 20 = .ok (.ireturn, 1) := by decide +kernel
theorem dX13_noSuchRule_0 : decode cX13_noSuchRule 0 = .ok (.aload_n 0, 1) := by decide +kernel
theorem dX13_noSuchRule_1 : decode cX13_noSuchRule 1 = .ok (.iload_n 1, 1) := by decide +kernel
theorem dX13_noSuchRule_2 : decode cX13_noSuchRule 2 = .ok (.iconst 0, 1) := by decide +kernel
theorem dX13_noSuchRule_3 : decode cX13_noSuchRule 3 = .ok (.bipush 39, 2) := by decide +kernel
theorem dX13_noSuchRule_5 : decode cX13_noSuchRule 5 = .ok (.invokestatic 224, 3) := by decide +kernel
theorem dX13_noSuchRule_8 : decode cX13_noSuchRule 8 = .ok (.ifCond .eq 11, 3) := by decide +kernel
theorem dX13_noSuchRule_11 : decode cX13_noSuchRule 11 = .ok (.aload_n 0, 1) := by decide +kernel
theorem dX13_noSuchRule_12 : decode cX13_noSuchRule 12 = .ok (.iload_n 1, 1) := by decide +kernel
theorem dX13_noSuchRule_13 : decode cX13_noSuchRule 13 = .ok (.invokevirtual 111, 3) := by decide +kernel
theorem dX13_noSuchRule_16 : decode cX13_noSuchRule 16 = .ok (.ifCond .ne 7, 3) := by decide +kernel
theorem dX13_noSuchRule_19 : decode cX13_noSuchRule 19 = .ok (.iconst 1, 1) := by decide +kernel
theorem dX13_noSuchRule_20 : decode cX13_noSuchRule 20 = .ok (.goto 4, 3) := by decide +kernel
theorem dX13_noSuchRule_23 : decode cX13_noSuchRule 23 = .ok (.iconst 0, 1) := by decide +kernel
theorem dX13_noSuchRule_24 : decode cX13_noSuchRule 24 = .ok (.iconst 1, 1) := by decide +kernel
theorem dX13_noSuchRule_25 : decode cX13_noSuchRule 25 = .ok (.invokevirtual 428, 3) := by decide +kernel
theorem dX13_noSuchRule_28 : decode cX13_noSuchRule 28 = .ok (.ireturn, 1) := by decide +kernel
theorem dX13_isRule_0 : decode cX13_isRule 0 = .ok (.aload_n 0, 1) := by decide +kernel
theorem dX13_isRule_1 : decode cX13_isRule 1 = .ok (.iconst 0, 1) := by decide +kernel
theorem dX13_isRule_2 : decode cX13_isRule 2 = .ok (.putfield 100, 3) := by decide +kernel
theorem dX13_isRule_5 : decode cX13_isRule 5 = .ok (.aload_n 0, 1) := by decide +kernel
theorem dX13_isRule_6 : decode cX13_isRule 6 = .ok (.iload_n 1, 1) := by decide +kernel
theorem dX13_isRule_7 : decode cX13_isRule 7 = .ok (.invokevirtual 446, 3) := by decide +kernel
theorem dX13_isRule_10 : decode cX13_isRule 10 = .ok (.ifCond .ne 15, 3) := by decide +kernel
theorem dX13_isRule_13 : decode cX13_isRule 13 = .ok (.aload_n 0, 1) := by decide +kernel
theorem dX13_isRule_14 : decode cX13_isRule 14 = .ok (.iload_n 1, 1) := by decide +kernel
theorem dX13_isRule_15 : decode cX13_isRule 15 = .ok (.invokevirtual 111, 3) := by decide +kernel
theorem dX13_isRule_18 : decode cX13_isRule 18 = .ok (.ifCond .eq 7, 3) := by decide +kernel
theorem dX13_isRule_21 : decode cX13_isRule 21 = .ok (.iconst 1, 1) := by decide +kernel
theorem dX13_isRule_22 : decode cX13_isRule 22 = .ok (.goto 4, 3) := by decide +kernel
theorem dX13_isRule_25 : decode cX13_isRule 25 = .ok (.iconst 0, 1) := by decide +kernel
theorem dX13_isRule_26 : decode cX13_isRule 26 = .ok (.ireturn, 1) := by decide +kernel
theorem dX13_comesBy_0 : decode cX13_comesBy 0 = .ok (.iconst 0, 1) := by decide +kernel
theorem dX13_comesBy_1 : decode cX13_comesBy 1 = .ok (.istore_n 3, 1) := by decide +kernel
theorem dX13_comesBy_2 : decode cX13_comesBy 2 = .ok (.iload_n 3, 1) := by decide +kernel
theorem dX13_comesBy_3 : decode cX13_comesBy 3 = .ok (.aload_n 0, 1) := by decide +kernel
theorem dX13_comesBy_4 : decode cX13_comesBy 4 = .ok (.iload_n 1, 1) := by decide +kernel
theorem dX13_comesBy_5 : decode cX13_comesBy 5 = .ok (.invokevirtual 103, 3) := by decide +kernel
theorem dX13_comesBy_8 : decode cX13_comesBy 8 = .ok (.if_icmp .ge 24, 3) := by decide +kernel
theorem dX13_comesBy_11 : decode cX13_comesBy 11 = .ok (.aload_n 0, 1) := by decide +kernel
theorem dX13_comesBy_12 : decode cX13_comesBy 12 = .ok (.getfield 83, 3) := by decide +kernel
theorem dX13_comesBy_15 : decode cX13_comesBy 15 = .ok (.aload_n 0, 1) := by decide +kernel
theorem dX13_comesBy_16 : decode cX13_comesBy 16 = .ok (.iload_n 1, 1) := by decide +kernel
theorem dX13_comesBy_17 : decode cX13_comesBy 17 = .ok (.iload_n 3, 1) := by decide +kernel
theorem dX13_comesBy_18 : decode cX13_comesBy 18 = .ok (.invokevirtual 119, 3) := by decide +kernel
theorem dX13_comesBy_21 : decode cX13_comesBy 21 = .ok (.dup2, 1) := by decide +kernel
theorem dX13_comesBy_22 : decode cX13_comesBy 22 = .ok (.iaload, 1) := by decide +kernel
theorem dX13_comesBy_23 : decode cX13_comesBy 23 = .ok (.iload_n 2, 1) := by decide +kernel
theorem dX13_comesBy_24 : decode cX13_comesBy 24 = .ok (.iadd, 1) := by decide +kernel
theorem dX13_comesBy_25 : decode cX13_comesBy 25 = .ok (.iastore, 1) := by decide +kernel
theorem dX13_comesBy_26 : decode cX13_comesBy 26 = .ok (.iinc 3 1, 3) := by decide +kernel
theorem dX13_comesBy_29 : decode cX13_comesBy 29 = .ok (.goto (-27), 3) := by decide +kernel
theorem dX13_comesBy_32 : decode cX13_comesBy 32 = .ok (.return_, 1) := by decide +kernel
theorem dX13_comesOf_0 : decode cX13_comesOf 0 = .ok (.aload_n 0, 1) := by decide +kernel
theorem dX13_comesOf_1 : decode cX13_comesOf 1 = .ok (.invokevirtual 137, 3) := by decide +kernel
theorem dX13_comesOf_4 : decode cX13_comesOf 4 = .ok (.iconst 0, 1) := by decide +kernel
theorem dX13_comesOf_5 : decode cX13_comesOf 5 = .ok (.istore_n 2, 1) := by decide +kernel
theorem dX13_comesOf_6 : decode cX13_comesOf 6 = .ok (.iload_n 2, 1) := by decide +kernel
theorem dX13_comesOf_7 : decode cX13_comesOf 7 = .ok (.bipush 66, 2) := by decide +kernel
theorem dX13_comesOf_9 : decode cX13_comesOf 9 = .ok (.if_icmp .ge 16, 3) := by decide +kernel
theorem dX13_comesOf_12 : decode cX13_comesOf 12 = .ok (.aload_n 0, 1) := by decide +kernel
theorem dX13_comesOf_13 : decode cX13_comesOf 13 = .ok (.getfield 83, 3) := by decide +kernel
theorem dX13_comesOf_16 : decode cX13_comesOf 16 = .ok (.iload_n 2, 1) := by decide +kernel
theorem dX13_comesOf_17 : decode cX13_comesOf 17 = .ok (.iconst 0, 1) := by decide +kernel
theorem dX13_comesOf_18 : decode cX13_comesOf 18 = .ok (.iastore, 1) := by decide +kernel
theorem dX13_comesOf_19 : decode cX13_comesOf 19 = .ok (.iinc 2 1, 3) := by decide +kernel
theorem dX13_comesOf_22 : decode cX13_comesOf 22 = .ok (.goto (-16), 3) := by decide +kernel
theorem dX13_comesOf_25 : decode cX13_comesOf 25 = .ok (.aload_n 0, 1) := by decide +kernel
theorem dX13_comesOf_26 : decode cX13_comesOf 26 = .ok (.iconst 0, 1) := by decide +kernel
theorem dX13_comesOf_27 : decode cX13_comesOf 27 = .ok (.iconst 1, 1) := by decide +kernel
theorem dX13_comesOf_28 : decode cX13_comesOf 28 = .ok (.invokevirtual 449, 3) := by decide +kernel
theorem dX13_comesOf_31 : decode cX13_comesOf 31 = .ok (.bipush 40, 2) := by decide +kernel
theorem dX13_comesOf_33 : decode cX13_comesOf 33 = .ok (.istore_n 2, 1) := by decide +kernel
theorem dX13_comesOf_34 : decode cX13_comesOf 34 = .ok (.iload_n 2, 1) := by decide +kernel
theorem dX13_comesOf_35 : decode cX13_comesOf 35 = .ok (.ifCond .le 60, 3) := by decide +kernel
theorem dX13_comesOf_38 : decode cX13_comesOf 38 = .ok (.iconst 0, 1) := by decide +kernel
theorem dX13_comesOf_39 : decode cX13_comesOf 39 = .ok (.istore_n 3, 1) := by decide +kernel
theorem dX13_comesOf_40 : decode cX13_comesOf 40 = .ok (.iload_n 3, 1) := by decide +kernel
theorem dX13_comesOf_41 : decode cX13_comesOf 41 = .ok (.bipush 40, 2) := by decide +kernel
theorem dX13_comesOf_43 : decode cX13_comesOf 43 = .ok (.if_icmp .ge 46, 3) := by decide +kernel
theorem dX13_comesOf_46 : decode cX13_comesOf 46 = .ok (.aload_n 0, 1) := by decide +kernel
theorem dX13_comesOf_47 : decode cX13_comesOf 47 = .ok (.iload_n 3, 1) := by decide +kernel
theorem dX13_comesOf_48 : decode cX13_comesOf 48 = .ok (.invokevirtual 111, 3) := by decide +kernel
theorem dX13_comesOf_51 : decode cX13_comesOf 51 = .ok (.ifCond .eq 32, 3) := by decide +kernel
theorem dX13_comesOf_54 : decode cX13_comesOf 54 = .ok (.aload_n 0, 1) := by decide +kernel
theorem dX13_comesOf_55 : decode cX13_comesOf 55 = .ok (.getfield 34, 3) := by decide +kernel
theorem dX13_comesOf_58 : decode cX13_comesOf 58 = .ok (.bipush 26, 2) := by decide +kernel
theorem dX13_comesOf_60 : decode cX13_comesOf 60 = .ok (.iload_n 3, 1) := by decide +kernel
theorem dX13_comesOf_61 : decode cX13_comesOf 61 = .ok (.iadd, 1) := by decide +kernel
theorem dX13_comesOf_62 : decode cX13_comesOf 62 = .ok (.iaload, 1) := by decide +kernel
theorem dX13_comesOf_63 : decode cX13_comesOf 63 = .ok (.iload_n 2, 1) := by decide +kernel
theorem dX13_comesOf_64 : decode cX13_comesOf 64 = .ok (.if_icmp .ne 19, 3) := by decide +kernel
theorem dX13_comesOf_67 : decode cX13_comesOf 67 = .ok (.aload_n 0, 1) := by decide +kernel
theorem dX13_comesOf_68 : decode cX13_comesOf 68 = .ok (.iload_n 3, 1) := by decide +kernel
theorem dX13_comesOf_69 : decode cX13_comesOf 69 = .ok (.iconst 1, 1) := by decide +kernel
theorem dX13_comesOf_70 : decode cX13_comesOf 70 = .ok (.iadd, 1) := by decide +kernel
theorem dX13_comesOf_71 : decode cX13_comesOf 71 = .ok (.aload_n 0, 1) := by decide +kernel
theorem dX13_comesOf_72 : decode cX13_comesOf 72 = .ok (.getfield 83, 3) := by decide +kernel
theorem dX13_comesOf_75 : decode cX13_comesOf 75 = .ok (.bipush 26, 2) := by decide +kernel
theorem dX13_comesOf_77 : decode cX13_comesOf 77 = .ok (.iload_n 3, 1) := by decide +kernel
theorem dX13_comesOf_78 : decode cX13_comesOf 78 = .ok (.iadd, 1) := by decide +kernel
theorem dX13_comesOf_79 : decode cX13_comesOf 79 = .ok (.iaload, 1) := by decide +kernel
theorem dX13_comesOf_80 : decode cX13_comesOf 80 = .ok (.invokevirtual 449, 3) := by decide +kernel
theorem dX13_comesOf_83 : decode cX13_comesOf 83 = .ok (.iinc 3 1, 3) := by decide +kernel
theorem dX13_comesOf_86 : decode cX13_comesOf 86 = .ok (.goto (-46), 3) := by decide +kernel
theorem dX13_comesOf_89 : decode cX13_comesOf 89 = .ok (.iinc 2 (-1), 3) := by decide +kernel
theorem dX13_comesOf_92 : decode cX13_comesOf 92 = .ok (.goto (-58), 3) := by decide +kernel
theorem dX13_comesOf_95 : decode cX13_comesOf 95 = .ok (.aload_n 0, 1) := by decide +kernel
theorem dX13_comesOf_96 : decode cX13_comesOf 96 = .ok (.getfield 83, 3) := by decide +kernel
theorem dX13_comesOf_99 : decode cX13_comesOf 99 = .ok (.iload_n 1, 1) := by decide +kernel
theorem dX13_comesOf_100 : decode cX13_comesOf 100 = .ok (.iaload, 1) := by decide +kernel
theorem dX13_comesOf_101 : decode cX13_comesOf 101 = .ok (.ireturn, 1) := by decide +kernel
theorem dX13_rule_0 : decode cX13_rule 0 = .ok (.aload_n 0, 1) := by decide +kernel
theorem dX13_rule_1 : decode cX13_rule 1 = .ok (.iconst 0, 1) := by decide +kernel
theorem dX13_rule_2 : decode cX13_rule 2 = .ok (.putfield 100, 3) := by decide +kernel
theorem dX13_rule_5 : decode cX13_rule 5 = .ok (.aload_n 0, 1) := by decide +kernel
theorem dX13_rule_6 : decode cX13_rule 6 = .ok (.iload_n 1, 1) := by decide +kernel
theorem dX13_rule_7 : decode cX13_rule 7 = .ok (.invokevirtual 452, 3) := by decide +kernel
theorem dX13_rule_10 : decode cX13_rule 10 = .ok (.ifCond .ne 25, 3) := by decide +kernel
theorem dX13_rule_13 : decode cX13_rule 13 = .ok (.aload_n 0, 1) := by decide +kernel
theorem dX13_rule_14 : decode cX13_rule 14 = .ok (.iload_n 2, 1) := by decide +kernel
theorem dX13_rule_15 : decode cX13_rule 15 = .ok (.iconst 0, 1) := by decide +kernel
theorem dX13_rule_16 : decode cX13_rule 16 = .ok (.iconst 4, 1) := by decide +kernel
theorem dX13_rule_17 : decode cX13_rule 17 = .ok (.invokestatic 224, 3) := by decide +kernel
theorem dX13_rule_20 : decode cX13_rule 20 = .ok (.ifCond .ne 7, 3) := by decide +kernel
theorem dX13_rule_23 : decode cX13_rule 23 = .ok (.iconst 1, 1) := by decide +kernel
theorem dX13_rule_24 : decode cX13_rule 24 = .ok (.goto 4, 3) := by decide +kernel
theorem dX13_rule_27 : decode cX13_rule 27 = .ok (.iconst 0, 1) := by decide +kernel
theorem dX13_rule_28 : decode cX13_rule 28 = .ok (.iconst 2, 1) := by decide +kernel
theorem dX13_rule_29 : decode cX13_rule 29 = .ok (.invokevirtual 428, 3) := by decide +kernel
theorem dX13_rule_32 : decode cX13_rule 32 = .ok (.ifCond .eq 5, 3) := by decide +kernel
theorem dX13_rule_35 : decode cX13_rule 35 = .ok (.iconst 0, 1) := by decide +kernel
theorem dX13_rule_36 : decode cX13_rule 36 = .ok (.ireturn, 1) := by decide +kernel
theorem dX13_rule_37 : decode cX13_rule 37 = .ok (.aload_n 0, 1) := by decide +kernel
theorem dX13_rule_38 : decode cX13_rule 38 = .ok (.invokevirtual 137, 3) := by decide +kernel
theorem dX13_rule_41 : decode cX13_rule 41 = .ok (.iload_n 2, 1) := by decide +kernel
theorem dX13_rule_42 : decode cX13_rule 42 = .ok (.tableswitch 64 0 3 #[30, 38, 44, 54], 30) := by decide +kernel
theorem dX13_rule_72 : decode cX13_rule 72 = .ok (.aload_n 0, 1) := by decide +kernel
theorem dX13_rule_73 : decode cX13_rule 73 = .ok (.iload_n 1, 1) := by decide +kernel
theorem dX13_rule_74 : decode cX13_rule 74 = .ok (.iconst 1, 1) := by decide +kernel
theorem dX13_rule_75 : decode cX13_rule 75 = .ok (.iadd, 1) := by decide +kernel
theorem dX13_rule_76 : decode cX13_rule 76 = .ok (.invokevirtual 103, 3) := by decide +kernel
theorem dX13_rule_79 : decode cX13_rule 79 = .ok (.ireturn, 1) := by decide +kernel
theorem dX13_rule_80 : decode cX13_rule 80 = .ok (.aload_n 0, 1) := by decide +kernel
theorem dX13_rule_81 : decode cX13_rule 81 = .ok (.iload_n 1, 1) := by decide +kernel
theorem dX13_rule_82 : decode cX13_rule 82 = .ok (.invokevirtual 180, 3) := by decide +kernel
theorem dX13_rule_85 : decode cX13_rule 85 = .ok (.ireturn, 1) := by decide +kernel
theorem dX13_rule_86 : decode cX13_rule 86 = .ok (.aload_n 0, 1) := by decide +kernel
theorem dX13_rule_87 : decode cX13_rule 87 = .ok (.getfield 31, 3) := by decide +kernel
theorem dX13_rule_90 : decode cX13_rule 90 = .ok (.bipush 26, 2) := by decide +kernel
theorem dX13_rule_92 : decode cX13_rule 92 = .ok (.iload_n 1, 1) := by decide +kernel
theorem dX13_rule_93 : decode cX13_rule 93 = .ok (.iadd, 1) := by decide +kernel
theorem dX13_rule_94 : decode cX13_rule 94 = .ok (.iaload, 1) := by decide +kernel
theorem dX13_rule_95 : decode cX13_rule 95 = .ok (.ireturn, 1) := by decide +kernel
theorem dX13_rule_96 : decode cX13_rule 96 = .ok (.aload_n 0, 1) := by decide +kernel
theorem dX13_rule_97 : decode cX13_rule 97 = .ok (.getfield 34, 3) := by decide +kernel
theorem dX13_rule_100 : decode cX13_rule 100 = .ok (.bipush 26, 2) := by decide +kernel
theorem dX13_rule_102 : decode cX13_rule 102 = .ok (.iload_n 1, 1) := by decide +kernel
theorem dX13_rule_103 : decode cX13_rule 103 = .ok (.iadd, 1) := by decide +kernel
theorem dX13_rule_104 : decode cX13_rule 104 = .ok (.iaload, 1) := by decide +kernel
theorem dX13_rule_105 : decode cX13_rule 105 = .ok (.ireturn, 1) := by decide +kernel
theorem dX13_rule_106 : decode cX13_rule 106 = .ok (.aload_n 0, 1) := by decide +kernel
theorem dX13_rule_107 : decode cX13_rule 107 = .ok (.bipush 26, 2) := by decide +kernel
theorem dX13_rule_109 : decode cX13_rule 109 = .ok (.iload_n 1, 1) := by decide +kernel
theorem dX13_rule_110 : decode cX13_rule 110 = .ok (.iadd, 1) := by decide +kernel
theorem dX13_rule_111 : decode cX13_rule 111 = .ok (.invokevirtual 455, 3) := by decide +kernel
theorem dX13_rule_114 : decode cX13_rule 114 = .ok (.ireturn, 1) := by decide +kernel
theorem dX13_bodyAt_0 : decode cX13_bodyAt 0 = .ok (.aload_n 0, 1) := by decide +kernel
theorem dX13_bodyAt_1 : decode cX13_bodyAt 1 = .ok (.iconst 0, 1) := by decide +kernel
theorem dX13_bodyAt_2 : decode cX13_bodyAt 2 = .ok (.putfield 100, 3) := by decide +kernel
theorem dX13_bodyAt_5 : decode cX13_bodyAt 5 = .ok (.aload_n 0, 1) := by decide +kernel
theorem dX13_bodyAt_6 : decode cX13_bodyAt 6 = .ok (.iload_n 1, 1) := by decide +kernel
theorem dX13_bodyAt_7 : decode cX13_bodyAt 7 = .ok (.invokevirtual 452, 3) := by decide +kernel
theorem dX13_bodyAt_10 : decode cX13_bodyAt 10 = .ok (.ifCond .ne 33, 3) := by decide +kernel
theorem dX13_bodyAt_13 : decode cX13_bodyAt 13 = .ok (.aload_n 0, 1) := by decide +kernel
theorem dX13_bodyAt_14 : decode cX13_bodyAt 14 = .ok (.iload_n 2, 1) := by decide +kernel
theorem dX13_bodyAt_15 : decode cX13_bodyAt 15 = .ok (.iconst 0, 1) := by decide +kernel
theorem dX13_bodyAt_16 : decode cX13_bodyAt 16 = .ok (.aload_n 0, 1) := by decide +kernel
theorem dX13_bodyAt_17 : decode cX13_bodyAt 17 = .ok (.iload_n 1, 1) := by decide +kernel
theorem dX13_bodyAt_18 : decode cX13_bodyAt 18 = .ok (.iconst 1, 1) := by decide +kernel
theorem dX13_bodyAt_19 : decode cX13_bodyAt 19 = .ok (.iadd, 1) := by decide +kernel
theorem dX13_bodyAt_20 : decode cX13_bodyAt 20 = .ok (.invokevirtual 103, 3) := by decide +kernel
theorem dX13_bodyAt_23 : decode cX13_bodyAt 23 = .ok (.iconst 1, 1) := by decide +kernel
theorem dX13_bodyAt_24 : decode cX13_bodyAt 24 = .ok (.isub, 1) := by decide +kernel
theorem dX13_bodyAt_25 : decode cX13_bodyAt 25 = .ok (.invokestatic 224, 3) := by decide +kernel
theorem dX13_bodyAt_28 : decode cX13_bodyAt 28 = .ok (.ifCond .ne 7, 3) := by decide +kernel
theorem dX13_bodyAt_31 : decode cX13_bodyAt 31 = .ok (.iconst 1, 1) := by decide +kernel
theorem dX13_bodyAt_32 : decode cX13_bodyAt 32 = .ok (.goto 4, 3) := by decide +kernel
theorem dX13_bodyAt_35 : decode cX13_bodyAt 35 = .ok (.iconst 0, 1) := by decide +kernel
theorem dX13_bodyAt_36 : decode cX13_bodyAt 36 = .ok (.iconst 1, 1) := by decide +kernel
theorem dX13_bodyAt_37 : decode cX13_bodyAt 37 = .ok (.invokevirtual 428, 3) := by decide +kernel
theorem dX13_bodyAt_40 : decode cX13_bodyAt 40 = .ok (.ifCond .eq 7, 3) := by decide +kernel
theorem dX13_bodyAt_43 : decode cX13_bodyAt 43 = .ok (.iconst 0, 1) := by decide +kernel
theorem dX13_bodyAt_44 : decode cX13_bodyAt 44 = .ok (.goto 11, 3) := by decide +kernel
theorem dX13_bodyAt_47 : decode cX13_bodyAt 47 = .ok (.aload_n 0, 1) := by decide +kernel
theorem dX13_bodyAt_48 : decode cX13_bodyAt 48 = .ok (.iload_n 1, 1) := by decide +kernel
theorem dX13_bodyAt_49 : decode cX13_bodyAt 49 = .ok (.iconst 1, 1) := by decide +kernel
theorem dX13_bodyAt_50 : decode cX13_bodyAt 50 = .ok (.iadd, 1) := by decide +kernel
theorem dX13_bodyAt_51 : decode cX13_bodyAt 51 = .ok (.iload_n 2, 1) := by decide +kernel
theorem dX13_bodyAt_52 : decode cX13_bodyAt 52 = .ok (.invokevirtual 119, 3) := by decide +kernel
theorem dX13_bodyAt_55 : decode cX13_bodyAt 55 = .ok (.ireturn, 1) := by decide +kernel
theorem dX13_startAt_0 : decode cX13_startAt 0 = .ok (.aload_n 0, 1) := by decide +kernel
theorem dX13_startAt_1 : decode cX13_startAt 1 = .ok (.iconst 0, 1) := by decide +kernel
theorem dX13_startAt_2 : decode cX13_startAt 2 = .ok (.putfield 100, 3) := by decide +kernel
theorem dX13_startAt_5 : decode cX13_startAt 5 = .ok (.aload_n 0, 1) := by decide +kernel
theorem dX13_startAt_6 : decode cX13_startAt 6 = .ok (.iload_n 1, 1) := by decide +kernel
theorem dX13_startAt_7 : decode cX13_startAt 7 = .ok (.iconst 0, 1) := by decide +kernel
theorem dX13_startAt_8 : decode cX13_startAt 8 = .ok (.aload_n 0, 1) := by decide +kernel
theorem dX13_startAt_9 : decode cX13_startAt 9 = .ok (.iconst 0, 1) := by decide +kernel
theorem dX13_startAt_10 : decode cX13_startAt 10 = .ok (.invokevirtual 103, 3) := by decide +kernel
theorem dX13_startAt_13 : decode cX13_startAt 13 = .ok (.iconst 1, 1) := by decide +kernel
theorem dX13_startAt_14 : decode cX13_startAt 14 = .ok (.isub, 1) := by decide +kernel
theorem dX13_startAt_15 : decode cX13_startAt 15 = .ok (.invokestatic 224, 3) := by decide +kernel
theorem dX13_startAt_18 : decode cX13_startAt 18 = .ok (.ifCond .ne 7, 3) := by decide +kernel
theorem dX13_startAt_21 : decode cX13_startAt 21 = .ok (.iconst 1, 1) := by decide +kernel
theorem dX13_startAt_22 : decode cX13_startAt 22 = .ok (.goto 4, 3) := by decide +kernel
theorem dX13_startAt_25 : decode cX13_startAt 25 = .ok (.iconst 0, 1) := by decide +kernel
theorem dX13_startAt_26 : decode cX13_startAt 26 = .ok (.iconst 1, 1) := by decide +kernel
theorem dX13_startAt_27 : decode cX13_startAt 27 = .ok (.invokevirtual 428, 3) := by decide +kernel
theorem dX13_startAt_30 : decode cX13_startAt 30 = .ok (.ifCond .eq 7, 3) := by decide +kernel
theorem dX13_startAt_33 : decode cX13_startAt 33 = .ok (.iconst 0, 1) := by decide +kernel
theorem dX13_startAt_34 : decode cX13_startAt 34 = .ok (.goto 9, 3) := by decide +kernel
theorem dX13_startAt_37 : decode cX13_startAt 37 = .ok (.aload_n 0, 1) := by decide +kernel
theorem dX13_startAt_38 : decode cX13_startAt 38 = .ok (.iconst 0, 1) := by decide +kernel
theorem dX13_startAt_39 : decode cX13_startAt 39 = .ok (.iload_n 1, 1) := by decide +kernel
theorem dX13_startAt_40 : decode cX13_startAt 40 = .ok (.invokevirtual 119, 3) := by decide +kernel
theorem dX13_startAt_43 : decode cX13_startAt 43 = .ok (.ireturn, 1) := by decide +kernel
theorem dX13_noPlace_0 : decode cX13_noPlace 0 = .ok (.aload_n 0, 1) := by decide +kernel
theorem dX13_noPlace_1 : decode cX13_noPlace 1 = .ok (.iload_n 1, 1) := by decide +kernel
theorem dX13_noPlace_2 : decode cX13_noPlace 2 = .ok (.iconst 0, 1) := by decide +kernel
theorem dX13_noPlace_3 : decode cX13_noPlace 3 = .ok (.aload_n 0, 1) := by decide +kernel
theorem dX13_noPlace_4 : decode cX13_noPlace 4 = .ok (.invokevirtual 140, 3) := by decide +kernel
theorem dX13_noPlace_7 : decode cX13_noPlace 7 = .ok (.iconst 1, 1) := by decide +kernel
theorem dX13_noPlace_8 : decode cX13_noPlace 8 = .ok (.isub, 1) := by decide +kernel
theorem dX13_noPlace_9 : decode cX13_noPlace 9 = .ok (.invokestatic 224, 3) := by decide +kernel
theorem dX13_noPlace_12 : decode cX13_noPlace 12 = .ok (.ifCond .ne 7, 3) := by decide +kernel
theorem dX13_noPlace_15 : decode cX13_noPlace 15 = .ok (.iconst 1, 1) := by decide +kernel
theorem dX13_noPlace_16 : decode cX13_noPlace 16 = .ok (.goto 4, 3) := by decide +kernel
theorem dX13_noPlace_19 : decode cX13_noPlace 19 = .ok (.iconst 0, 1) := by decide +kernel
theorem dX13_noPlace_20 : decode cX13_noPlace 20 = .ok (.iconst 1, 1) := by decide +kernel
theorem dX13_noPlace_21 : decode cX13_noPlace 21 = .ok (.invokevirtual 428, 3) := by decide +kernel
theorem dX13_noPlace_24 : decode cX13_noPlace 24 = .ok (.ireturn, 1) := by decide +kernel
theorem dX13_letterAt_0 : decode cX13_letterAt 0 = .ok (.aload_n 0, 1) := by decide +kernel
theorem dX13_letterAt_1 : decode cX13_letterAt 1 = .ok (.iconst 0, 1) := by decide +kernel
theorem dX13_letterAt_2 : decode cX13_letterAt 2 = .ok (.putfield 100, 3) := by decide +kernel
theorem dX13_letterAt_5 : decode cX13_letterAt 5 = .ok (.aload_n 0, 1) := by decide +kernel
theorem dX13_letterAt_6 : decode cX13_letterAt 6 = .ok (.iload_n 1, 1) := by decide +kernel
theorem dX13_letterAt_7 : decode cX13_letterAt 7 = .ok (.invokevirtual 458, 3) := by decide +kernel
theorem dX13_letterAt_10 : decode cX13_letterAt 10 = .ok (.ifCond .eq 7, 3) := by decide +kernel
theorem dX13_letterAt_13 : decode cX13_letterAt 13 = .ok (.iconst 0, 1) := by decide +kernel
theorem dX13_letterAt_14 : decode cX13_letterAt 14 = .ok (.goto 9, 3) := by decide +kernel
theorem dX13_letterAt_17 : decode cX13_letterAt 17 = .ok (.aload_n 0, 1) := by decide +kernel
theorem dX13_letterAt_18 : decode cX13_letterAt 18 = .ok (.getfield 37, 3) := by decide +kernel
theorem dX13_letterAt_21 : decode cX13_letterAt 21 = .ok (.iload_n 1, 1) := by decide +kernel
theorem dX13_letterAt_22 : decode cX13_letterAt 22 = .ok (.iaload, 1) := by decide +kernel
theorem dX13_letterAt_23 : decode cX13_letterAt 23 = .ok (.ireturn, 1) := by decide +kernel
theorem dX13_symbolOf_0 : decode cX13_symbolOf 0 = .ok (.aload_n 0, 1) := by decide +kernel
theorem dX13_symbolOf_1 : decode cX13_symbolOf 1 = .ok (.iconst 0, 1) := by decide +kernel
theorem dX13_symbolOf_2 : decode cX13_symbolOf 2 = .ok (.putfield 100, 3) := by decide +kernel
theorem dX13_symbolOf_5 : decode cX13_symbolOf 5 = .ok (.aload_n 0, 1) := by decide +kernel
theorem dX13_symbolOf_6 : decode cX13_symbolOf 6 = .ok (.iload_n 1, 1) := by decide +kernel
theorem dX13_symbolOf_7 : decode cX13_symbolOf 7 = .ok (.invokevirtual 458, 3) := by decide +kernel
theorem dX13_symbolOf_10 : decode cX13_symbolOf 10 = .ok (.ifCond .eq 7, 3) := by decide +kernel
theorem dX13_symbolOf_13 : decode cX13_symbolOf 13 = .ok (.iconst 0, 1) := by decide +kernel
theorem dX13_symbolOf_14 : decode cX13_symbolOf 14 = .ok (.goto 9, 3) := by decide +kernel
theorem dX13_symbolOf_17 : decode cX13_symbolOf 17 = .ok (.aload_n 0, 1) := by decide +kernel
theorem dX13_symbolOf_18 : decode cX13_symbolOf 18 = .ok (.getfield 40, 3) := by decide +kernel
theorem dX13_symbolOf_21 : decode cX13_symbolOf 21 = .ok (.iload_n 1, 1) := by decide +kernel
theorem dX13_symbolOf_22 : decode cX13_symbolOf 22 = .ok (.iaload, 1) := by decide +kernel
theorem dX13_symbolOf_23 : decode cX13_symbolOf 23 = .ok (.ireturn, 1) := by decide +kernel
theorem dX13_letters_0 : decode cX13_letters 0 = .ok (.aload_n 0, 1) := by decide +kernel
theorem dX13_letters_1 : decode cX13_letters 1 = .ok (.iconst 0, 1) := by decide +kernel
theorem dX13_letters_2 : decode cX13_letters 2 = .ok (.putfield 100, 3) := by decide +kernel
theorem dX13_letters_5 : decode cX13_letters 5 = .ok (.aload_n 0, 1) := by decide +kernel
theorem dX13_letters_6 : decode cX13_letters 6 = .ok (.iload_n 1, 1) := by decide +kernel
theorem dX13_letters_7 : decode cX13_letters 7 = .ok (.iconst 0, 1) := by decide +kernel
theorem dX13_letters_8 : decode cX13_letters 8 = .ok (.bipush 25, 2) := by decide +kernel
theorem dX13_letters_10 : decode cX13_letters 10 = .ok (.invokestatic 224, 3) := by decide +kernel
theorem dX13_letters_13 : decode cX13_letters 13 = .ok (.ifCond .ne 7, 3) := by decide +kernel
theorem dX13_letters_16 : decode cX13_letters 16 = .ok (.iconst 1, 1) := by decide +kernel
theorem dX13_letters_17 : decode cX13_letters 17 = .ok (.goto 4, 3) := by decide +kernel
theorem dX13_letters_20 : decode cX13_letters 20 = .ok (.iconst 0, 1) := by decide +kernel
theorem dX13_letters_21 : decode cX13_letters 21 = .ok (.iconst 1, 1) := by decide +kernel
theorem dX13_letters_22 : decode cX13_letters 22 = .ok (.invokevirtual 428, 3) := by decide +kernel
theorem dX13_letters_25 : decode cX13_letters 25 = .ok (.ifCond .eq 7, 3) := by decide +kernel
theorem dX13_letters_28 : decode cX13_letters 28 = .ok (.iconst 0, 1) := by decide +kernel
theorem dX13_letters_29 : decode cX13_letters 29 = .ok (.goto 8, 3) := by decide +kernel
theorem dX13_letters_32 : decode cX13_letters 32 = .ok (.aload_n 0, 1) := by decide +kernel
theorem dX13_letters_33 : decode cX13_letters 33 = .ok (.iload_n 1, 1) := by decide +kernel
theorem dX13_letters_34 : decode cX13_letters 34 = .ok (.invokevirtual 461, 3) := by decide +kernel
theorem dX13_letters_37 : decode cX13_letters 37 = .ok (.ireturn, 1) := by decide +kernel
theorem dX13_account_0 : decode cX13_account 0 = .ok (.aload_n 0, 1) := by decide +kernel
theorem dX13_account_1 : decode cX13_account 1 = .ok (.iconst 0, 1) := by decide +kernel
theorem dX13_account_2 : decode cX13_account 2 = .ok (.putfield 100, 3) := by decide +kernel
theorem dX13_account_5 : decode cX13_account 5 = .ok (.aload_n 0, 1) := by decide +kernel
theorem dX13_account_6 : decode cX13_account 6 = .ok (.iload_n 1, 1) := by decide +kernel
theorem dX13_account_7 : decode cX13_account 7 = .ok (.iconst 0, 1) := by decide +kernel
theorem dX13_account_8 : decode cX13_account 8 = .ok (.bipush 8, 2) := by decide +kernel
theorem dX13_account_10 : decode cX13_account 10 = .ok (.invokestatic 224, 3) := by decide +kernel
theorem dX13_account_13 : decode cX13_account 13 = .ok (.ifCond .ne 7, 3) := by decide +kernel
theorem dX13_account_16 : decode cX13_account 16 = .ok (.iconst 1, 1) := by decide +kernel
theorem dX13_account_17 : decode cX13_account 17 = .ok (.goto 4, 3) := by decide +kernel
theorem dX13_account_20 : decode cX13_account 20 = .ok (.iconst 0, 1) := by decide +kernel
theorem dX13_account_21 : decode cX13_account 21 = .ok (.iconst 1, 1) := by decide +kernel
theorem dX13_account_22 : decode cX13_account 22 = .ok (.invokevirtual 428, 3) := by decide +kernel
theorem dX13_account_25 : decode cX13_account 25 = .ok (.ifCond .eq 7, 3) := by decide +kernel
theorem dX13_account_28 : decode cX13_account 28 = .ok (.iconst 0, 1) := by decide +kernel
theorem dX13_account_29 : decode cX13_account 29 = .ok (.goto 12, 3) := by decide +kernel
theorem dX13_account_32 : decode cX13_account 32 = .ok (.aload_n 0, 1) := by decide +kernel
theorem dX13_account_33 : decode cX13_account 33 = .ok (.getfield 9, 3) := by decide +kernel
theorem dX13_account_36 : decode cX13_account 36 = .ok (.bipush 6, 2) := by decide +kernel
theorem dX13_account_38 : decode cX13_account 38 = .ok (.iload_n 1, 1) := by decide +kernel
theorem dX13_account_39 : decode cX13_account 39 = .ok (.iadd, 1) := by decide +kernel
theorem dX13_account_40 : decode cX13_account 40 = .ok (.iaload, 1) := by decide +kernel
theorem dX13_account_41 : decode cX13_account 41 = .ok (.ireturn, 1) := by decide +kernel
theorem dX13_gap_0 : decode cX13_gap 0 = .ok (.aload_n 0, 1) := by decide +kernel
theorem dX13_gap_1 : decode cX13_gap 1 = .ok (.iconst 0, 1) := by decide +kernel
theorem dX13_gap_2 : decode cX13_gap 2 = .ok (.putfield 100, 3) := by decide +kernel
theorem dX13_gap_5 : decode cX13_gap 5 = .ok (.aload_n 0, 1) := by decide +kernel
theorem dX13_gap_6 : decode cX13_gap 6 = .ok (.invokevirtual 140, 3) := by decide +kernel
theorem dX13_gap_9 : decode cX13_gap 9 = .ok (.istore_n 1, 1) := by decide +kernel
theorem dX13_gap_10 : decode cX13_gap 10 = .ok (.iload_n 1, 1) := by decide +kernel
theorem dX13_gap_11 : decode cX13_gap 11 = .ok (.aload_n 0, 1) := by decide +kernel
theorem dX13_gap_12 : decode cX13_gap 12 = .ok (.getfield 9, 3) := by decide +kernel
theorem dX13_gap_15 : decode cX13_gap 15 = .ok (.iconst 3, 1) := by decide +kernel
theorem dX13_gap_16 : decode cX13_gap 16 = .ok (.iaload, 1) := by decide +kernel
theorem dX13_gap_17 : decode cX13_gap 17 = .ok (.isub, 1) := by decide +kernel
theorem dX13_gap_18 : decode cX13_gap 18 = .ok (.invokestatic 464, 3) := by decide +kernel
theorem dX13_gap_21 : decode cX13_gap 21 = .ok (.istore_n 2, 1) := by decide +kernel
theorem dX13_gap_22 : decode cX13_gap 22 = .ok (.iconst 0, 1) := by decide +kernel
theorem dX13_gap_23 : decode cX13_gap 23 = .ok (.istore_n 3, 1) := by decide +kernel
theorem dX13_gap_24 : decode cX13_gap 24 = .ok (.iload_n 3, 1) := by decide +kernel
theorem dX13_gap_25 : decode cX13_gap 25 = .ok (.iload_n 1, 1) := by decide +kernel
theorem dX13_gap_26 : decode cX13_gap 26 = .ok (.if_icmp .ge 49, 3) := by decide +kernel
theorem dX13_gap_29 : decode cX13_gap 29 = .ok (.iload_n 3, 1) := by decide +kernel
theorem dX13_gap_30 : decode cX13_gap 30 = .ok (.aload_n 0, 1) := by decide +kernel
theorem dX13_gap_31 : decode cX13_gap 31 = .ok (.getfield 9, 3) := by decide +kernel
theorem dX13_gap_34 : decode cX13_gap 34 = .ok (.iconst 3, 1) := by decide +kernel
theorem dX13_gap_35 : decode cX13_gap 35 = .ok (.iaload, 1) := by decide +kernel
theorem dX13_gap_36 : decode cX13_gap 36 = .ok (.if_icmp .ge 39, 3) := by decide +kernel
theorem dX13_gap_39 : decode cX13_gap 39 = .ok (.iload_n 2, 1) := by decide +kernel
theorem dX13_gap_40 : decode cX13_gap 40 = .ok (.aload_n 0, 1) := by decide +kernel
theorem dX13_gap_41 : decode cX13_gap 41 = .ok (.getfield 37, 3) := by decide +kernel
theorem dX13_gap_44 : decode cX13_gap 44 = .ok (.iload_n 3, 1) := by decide +kernel
theorem dX13_gap_45 : decode cX13_gap 45 = .ok (.iaload, 1) := by decide +kernel
theorem dX13_gap_46 : decode cX13_gap 46 = .ok (.aload_n 0, 1) := by decide +kernel
theorem dX13_gap_47 : decode cX13_gap 47 = .ok (.getfield 9, 3) := by decide +kernel
theorem dX13_gap_50 : decode cX13_gap 50 = .ok (.sipush 16460, 3) := by decide +kernel
theorem dX13_gap_53 : decode cX13_gap 53 = .ok (.iload_n 3, 1) := by decide +kernel
theorem dX13_gap_54 : decode cX13_gap 54 = .ok (.iadd, 1) := by decide +kernel
theorem dX13_gap_55 : decode cX13_gap 55 = .ok (.iaload, 1) := by decide +kernel
theorem dX13_gap_56 : decode cX13_gap 56 = .ok (.if_icmp .eq 7, 3) := by decide +kernel
theorem dX13_gap_59 : decode cX13_gap 59 = .ok (.iconst 1, 1) := by decide +kernel
theorem dX13_gap_60 : decode cX13_gap 60 = .ok (.goto 4, 3) := by decide +kernel
theorem dX13_gap_63 : decode cX13_gap 63 = .ok (.iconst 0, 1) := by decide +kernel
theorem dX13_gap_64 : decode cX13_gap 64 = .ok (.invokestatic 115, 3) := by decide +kernel
theorem dX13_gap_67 : decode cX13_gap 67 = .ok (.iadd, 1) := by decide +kernel
theorem dX13_gap_68 : decode cX13_gap 68 = .ok (.istore_n 2, 1) := by decide +kernel
theorem dX13_gap_69 : decode cX13_gap 69 = .ok (.iinc 3 1, 3) := by decide +kernel
theorem dX13_gap_72 : decode cX13_gap 72 = .ok (.goto (-48), 3) := by decide +kernel
theorem dX13_gap_75 : decode cX13_gap 75 = .ok (.iload_n 2, 1) := by decide +kernel
theorem dX13_gap_76 : decode cX13_gap 76 = .ok (.ireturn, 1) := by decide +kernel
theorem dX13_rulesGap_0 : decode cX13_rulesGap 0 = .ok (.aload_n 0, 1) := by decide +kernel
theorem dX13_rulesGap_1 : decode cX13_rulesGap 1 = .ok (.iconst 0, 1) := by decide +kernel
theorem dX13_rulesGap_2 : decode cX13_rulesGap 2 = .ok (.putfield 100, 3) := by decide +kernel
theorem dX13_rulesGap_5 : decode cX13_rulesGap 5 = .ok (.aload_n 0, 1) := by decide +kernel
theorem dX13_rulesGap_6 : decode cX13_rulesGap 6 = .ok (.getfield 9, 3) := by decide +kernel
theorem dX13_rulesGap_9 : decode cX13_rulesGap 9 = .ok (.iconst 4, 1) := by decide +kernel
theorem dX13_rulesGap_10 : decode cX13_rulesGap 10 = .ok (.iaload, 1) := by decide +kernel
theorem dX13_rulesGap_11 : decode cX13_rulesGap 11 = .ok (.aload_n 0, 1) := by decide +kernel
theorem dX13_rulesGap_12 : decode cX13_rulesGap 12 = .ok (.getfield 9, 3) := by decide +kernel
theorem dX13_rulesGap_15 : decode cX13_rulesGap 15 = .ok (.bipush 7, 2) := by decide +kernel
theorem dX13_rulesGap_17 : decode cX13_rulesGap 17 = .ok (.iaload, 1) := by decide +kernel
theorem dX13_rulesGap_18 : decode cX13_rulesGap 18 = .ok (.iadd, 1) := by decide +kernel
theorem dX13_rulesGap_19 : decode cX13_rulesGap 19 = .ok (.aload_n 0, 1) := by decide +kernel
theorem dX13_rulesGap_20 : decode cX13_rulesGap 20 = .ok (.getfield 9, 3) := by decide +kernel
theorem dX13_rulesGap_23 : decode cX13_rulesGap 23 = .ok (.bipush 8, 2) := by decide +kernel
theorem dX13_rulesGap_25 : decode cX13_rulesGap 25 = .ok (.iaload, 1) := by decide +kernel
theorem dX13_rulesGap_26 : decode cX13_rulesGap 26 = .ok (.isub, 1) := by decide +kernel
theorem dX13_rulesGap_27 : decode cX13_rulesGap 27 = .ok (.aload_n 0, 1) := by decide +kernel
theorem dX13_rulesGap_28 : decode cX13_rulesGap 28 = .ok (.getfield 9, 3) := by decide +kernel
theorem dX13_rulesGap_31 : decode cX13_rulesGap 31 = .ok (.bipush 9, 2) := by decide +kernel
theorem dX13_rulesGap_33 : decode cX13_rulesGap 33 = .ok (.iaload, 1) := by decide +kernel
theorem dX13_rulesGap_34 : decode cX13_rulesGap 34 = .ok (.isub, 1) := by decide +kernel
theorem dX13_rulesGap_35 : decode cX13_rulesGap 35 = .ok (.aload_n 0, 1) := by decide +kernel
theorem dX13_rulesGap_36 : decode cX13_rulesGap 36 = .ok (.getfield 9, 3) := by decide +kernel
theorem dX13_rulesGap_39 : decode cX13_rulesGap 39 = .ok (.bipush 10, 2) := by decide +kernel
theorem dX13_rulesGap_41 : decode cX13_rulesGap 41 = .ok (.iaload, 1) := by decide +kernel
theorem dX13_rulesGap_42 : decode cX13_rulesGap 42 = .ok (.isub, 1) := by decide +kernel
theorem dX13_rulesGap_43 : decode cX13_rulesGap 43 = .ok (.aload_n 0, 1) := by decide +kernel
theorem dX13_rulesGap_44 : decode cX13_rulesGap 44 = .ok (.invokevirtual 144, 3) := by decide +kernel
theorem dX13_rulesGap_47 : decode cX13_rulesGap 47 = .ok (.isub, 1) := by decide +kernel
theorem dX13_rulesGap_48 : decode cX13_rulesGap 48 = .ok (.ireturn, 1) := by decide +kernel
theorem dX13_ratio_0 : decode cX13_ratio 0 = .ok (.aload_n 0, 1) := by decide +kernel
theorem dX13_ratio_1 : decode cX13_ratio 1 = .ok (.iconst 0, 1) := by decide +kernel
theorem dX13_ratio_2 : decode cX13_ratio 2 = .ok (.putfield 100, 3) := by decide +kernel
theorem dX13_ratio_5 : decode cX13_ratio 5 = .ok (.aload_n 0, 1) := by decide +kernel
theorem dX13_ratio_6 : decode cX13_ratio 6 = .ok (.invokevirtual 431, 3) := by decide +kernel
theorem dX13_ratio_9 : decode cX13_ratio 9 = .ok (.i2d, 1) := by decide +kernel
theorem dX13_ratio_10 : decode cX13_ratio 10 = .ok (.aload_n 0, 1) := by decide +kernel
theorem dX13_ratio_11 : decode cX13_ratio 11 = .ok (.invokevirtual 422, 3) := by decide +kernel
theorem dX13_ratio_14 : decode cX13_ratio 14 = .ok (.i2d, 1) := by decide +kernel
theorem dX13_ratio_15 : decode cX13_ratio 15 = .ok (.ddiv, 1) := by decide +kernel
theorem dX13_ratio_16 : decode cX13_ratio 16 = .ok (.dreturn, 1) := by decide +kernel
theorem dX13_meanBits_0 : decode cX13_meanBits 0 = .ok (.aload_n 0, 1) := by decide +kernel
theorem dX13_meanBits_1 : decode cX13_meanBits 1 = .ok (.iconst 0, 1) := by decide +kernel
theorem dX13_meanBits_2 : decode cX13_meanBits 2 = .ok (.putfield 100, 3) := by decide +kernel
theorem dX13_meanBits_5 : decode cX13_meanBits 5 = .ok (.aload_n 0, 1) := by decide +kernel
theorem dX13_meanBits_6 : decode cX13_meanBits 6 = .ok (.invokevirtual 422, 3) := by decide +kernel
theorem dX13_meanBits_9 : decode cX13_meanBits 9 = .ok (.i2f, 1) := by decide +kernel
theorem dX13_meanBits_10 : decode cX13_meanBits 10 = .ok (.aload_n 0, 1) := by decide +kernel
theorem dX13_meanBits_11 : decode cX13_meanBits 11 = .ok (.iconst 0, 1) := by decide +kernel
theorem dX13_meanBits_12 : decode cX13_meanBits 12 = .ok (.invokevirtual 103, 3) := by decide +kernel
theorem dX13_meanBits_15 : decode cX13_meanBits 15 = .ok (.i2f, 1) := by decide +kernel
theorem dX13_meanBits_16 : decode cX13_meanBits 16 = .ok (.fdiv, 1) := by decide +kernel
theorem dX13_meanBits_17 : decode cX13_meanBits 17 = .ok (.invokestatic 467, 3) := by decide +kernel
theorem dX13_meanBits_20 : decode cX13_meanBits 20 = .ok (.ireturn, 1) := by decide +kernel
theorem dX13_digest_0 : decode cX13_digest 0 = .ok (.aload_n 0, 1) := by decide +kernel
theorem dX13_digest_1 : decode cX13_digest 1 = .ok (.iconst 0, 1) := by decide +kernel
theorem dX13_digest_2 : decode cX13_digest 2 = .ok (.putfield 100, 3) := by decide +kernel
theorem dX13_digest_5 : decode cX13_digest 5 = .ok (.lconst 1, 1) := by decide +kernel
theorem dX13_digest_6 : decode cX13_digest 6 = .ok (.lstore_n 1, 1) := by decide +kernel
theorem dX13_digest_7 : decode cX13_digest 7 = .ok (.aload_n 0, 1) := by decide +kernel
theorem dX13_digest_8 : decode cX13_digest 8 = .ok (.invokevirtual 140, 3) := by decide +kernel
theorem dX13_digest_11 : decode cX13_digest 11 = .ok (.istore_n 3, 1) := by decide +kernel
theorem dX13_digest_12 : decode cX13_digest 12 = .ok (.iconst 0, 1) := by decide +kernel
theorem dX13_digest_13 : decode cX13_digest 13 = .ok (.istore 4, 2) := by decide +kernel
theorem dX13_digest_15 : decode cX13_digest 15 = .ok (.iload 4, 2) := by decide +kernel
theorem dX13_digest_17 : decode cX13_digest 17 = .ok (.iload_n 3, 1) := by decide +kernel
theorem dX13_digest_18 : decode cX13_digest 18 = .ok (.if_icmp .ge 26, 3) := by decide +kernel
theorem dX13_digest_21 : decode cX13_digest 21 = .ok (.lload_n 1, 1) := by decide +kernel
theorem dX13_digest_22 : decode cX13_digest 22 = .ok (.ldc2_w 473, 3) := by decide +kernel
theorem dX13_digest_25 : decode cX13_digest 25 = .ok (.lmul, 1) := by decide +kernel
theorem dX13_digest_26 : decode cX13_digest 26 = .ok (.aload_n 0, 1) := by decide +kernel
theorem dX13_digest_27 : decode cX13_digest 27 = .ok (.getfield 37, 3) := by decide +kernel
theorem dX13_digest_30 : decode cX13_digest 30 = .ok (.iload 4, 2) := by decide +kernel
theorem dX13_digest_32 : decode cX13_digest 32 = .ok (.iaload, 1) := by decide +kernel
theorem dX13_digest_33 : decode cX13_digest 33 = .ok (.i2l, 1) := by decide +kernel
theorem dX13_digest_34 : decode cX13_digest 34 = .ok (.ladd, 1) := by decide +kernel
theorem dX13_digest_35 : decode cX13_digest 35 = .ok (.lconst 1, 1) := by decide +kernel
theorem dX13_digest_36 : decode cX13_digest 36 = .ok (.ladd, 1) := by decide +kernel
theorem dX13_digest_37 : decode cX13_digest 37 = .ok (.lstore_n 1, 1) := by decide +kernel
theorem dX13_digest_38 : decode cX13_digest 38 = .ok (.iinc 4 1, 3) := by decide +kernel
theorem dX13_digest_41 : decode cX13_digest 41 = .ok (.goto (-26), 3) := by decide +kernel
theorem dX13_digest_44 : decode cX13_digest 44 = .ok (.lload_n 1, 1) := by decide +kernel
theorem dX13_digest_45 : decode cX13_digest 45 = .ok (.lreturn, 1) := by decide +kernel
theorem dX13_noPair_0 : decode cX13_noPair 0 = .ok (.aload_n 0, 1) := by decide +kernel
theorem dX13_noPair_1 : decode cX13_noPair 1 = .ok (.iload_n 1, 1) := by decide +kernel
theorem dX13_noPair_2 : decode cX13_noPair 2 = .ok (.iconst 0, 1) := by decide +kernel
theorem dX13_noPair_3 : decode cX13_noPair 3 = .ok (.bipush 65, 2) := by decide +kernel
theorem dX13_noPair_5 : decode cX13_noPair 5 = .ok (.invokestatic 224, 3) := by decide +kernel
theorem dX13_noPair_8 : decode cX13_noPair 8 = .ok (.ifCond .eq 13, 3) := by decide +kernel
theorem dX13_noPair_11 : decode cX13_noPair 11 = .ok (.iload_n 2, 1) := by decide +kernel
theorem dX13_noPair_12 : decode cX13_noPair 12 = .ok (.iconst 0, 1) := by decide +kernel
theorem dX13_noPair_13 : decode cX13_noPair 13 = .ok (.bipush 65, 2) := by decide +kernel
theorem dX13_noPair_15 : decode cX13_noPair 15 = .ok (.invokestatic 224, 3) := by decide +kernel
theorem dX13_noPair_18 : decode cX13_noPair 18 = .ok (.ifCond .ne 7, 3) := by decide +kernel
theorem dX13_noPair_21 : decode cX13_noPair 21 = .ok (.iconst 1, 1) := by decide +kernel
theorem dX13_noPair_22 : decode cX13_noPair 22 = .ok (.goto 4, 3) := by decide +kernel
theorem dX13_noPair_25 : decode cX13_noPair 25 = .ok (.iconst 0, 1) := by decide +kernel
theorem dX13_noPair_26 : decode cX13_noPair 26 = .ok (.iconst 1, 1) := by decide +kernel
theorem dX13_noPair_27 : decode cX13_noPair 27 = .ok (.invokevirtual 428, 3) := by decide +kernel
theorem dX13_noPair_30 : decode cX13_noPair 30 = .ok (.ireturn, 1) := by decide +kernel
theorem dX13_count_0 : decode cX13_count 0 = .ok (.aload_n 0, 1) := by decide +kernel
theorem dX13_count_1 : decode cX13_count 1 = .ok (.iconst 0, 1) := by decide +kernel
theorem dX13_count_2 : decode cX13_count 2 = .ok (.putfield 100, 3) := by decide +kernel
theorem dX13_count_5 : decode cX13_count 5 = .ok (.aload_n 0, 1) := by decide +kernel
theorem dX13_count_6 : decode cX13_count 6 = .ok (.iload_n 1, 1) := by decide +kernel
theorem dX13_count_7 : decode cX13_count 7 = .ok (.iload_n 2, 1) := by decide +kernel
theorem dX13_count_8 : decode cX13_count 8 = .ok (.invokevirtual 475, 3) := by decide +kernel
theorem dX13_count_11 : decode cX13_count 11 = .ok (.ifCond .eq 5, 3) := by decide +kernel
theorem dX13_count_14 : decode cX13_count 14 = .ok (.iconst 0, 1) := by decide +kernel
theorem dX13_count_15 : decode cX13_count 15 = .ok (.ireturn, 1) := by decide +kernel
theorem dX13_count_16 : decode cX13_count 16 = .ok (.aload_n 0, 1) := by decide +kernel
theorem dX13_count_17 : decode cX13_count 17 = .ok (.invokevirtual 160, 3) := by decide +kernel
theorem dX13_count_20 : decode cX13_count 20 = .ok (.aload_n 0, 1) := by decide +kernel
theorem dX13_count_21 : decode cX13_count 21 = .ok (.getfield 49, 3) := by decide +kernel
theorem dX13_count_24 : decode cX13_count 24 = .ok (.iload_n 1, 1) := by decide +kernel
theorem dX13_count_25 : decode cX13_count 25 = .ok (.iload_n 2, 1) := by decide +kernel
theorem dX13_count_26 : decode cX13_count 26 = .ok (.invokestatic 147, 3) := by decide +kernel
theorem dX13_count_29 : decode cX13_count 29 = .ok (.iaload, 1) := by decide +kernel
theorem dX13_count_30 : decode cX13_count 30 = .ok (.ireturn, 1) := by decide +kernel
theorem dX13_best_0 : decode cX13_best 0 = .ok (.aload_n 0, 1) := by decide +kernel
theorem dX13_best_1 : decode cX13_best 1 = .ok (.iconst 0, 1) := by decide +kernel
theorem dX13_best_2 : decode cX13_best 2 = .ok (.putfield 100, 3) := by decide +kernel
theorem dX13_best_5 : decode cX13_best 5 = .ok (.aload_n 0, 1) := by decide +kernel
theorem dX13_best_6 : decode cX13_best 6 = .ok (.iload_n 1, 1) := by decide +kernel
theorem dX13_best_7 : decode cX13_best 7 = .ok (.iconst 0, 1) := by decide +kernel
theorem dX13_best_8 : decode cX13_best 8 = .ok (.iconst 4, 1) := by decide +kernel
theorem dX13_best_9 : decode cX13_best 9 = .ok (.invokestatic 224, 3) := by decide +kernel
theorem dX13_best_12 : decode cX13_best 12 = .ok (.ifCond .ne 7, 3) := by decide +kernel
theorem dX13_best_15 : decode cX13_best 15 = .ok (.iconst 1, 1) := by decide +kernel
theorem dX13_best_16 : decode cX13_best 16 = .ok (.goto 4, 3) := by decide +kernel
theorem dX13_best_19 : decode cX13_best 19 = .ok (.iconst 0, 1) := by decide +kernel
theorem dX13_best_20 : decode cX13_best 20 = .ok (.iconst 1, 1) := by decide +kernel
theorem dX13_best_21 : decode cX13_best 21 = .ok (.invokevirtual 428, 3) := by decide +kernel
theorem dX13_best_24 : decode cX13_best 24 = .ok (.ifCond .eq 5, 3) := by decide +kernel
theorem dX13_best_27 : decode cX13_best 27 = .ok (.iconst 0, 1) := by decide +kernel
theorem dX13_best_28 : decode cX13_best 28 = .ok (.ireturn, 1) := by decide +kernel
theorem dX13_best_29 : decode cX13_best 29 = .ok (.aload_n 0, 1) := by decide +kernel
theorem dX13_best_30 : decode cX13_best 30 = .ok (.invokevirtual 195, 3) := by decide +kernel
theorem dX13_best_33 : decode cX13_best 33 = .ok (.istore_n 2, 1) := by decide +kernel
theorem dX13_best_34 : decode cX13_best 34 = .ok (.iload_n 2, 1) := by decide +kernel
theorem dX13_best_35 : decode cX13_best 35 = .ok (.iconst (-1), 1) := by decide +kernel
theorem dX13_best_36 : decode cX13_best 36 = .ok (.if_icmp .ne 14, 3) := by decide +kernel
theorem dX13_best_39 : decode cX13_best 39 = .ok (.iload_n 1, 1) := by decide +kernel
theorem dX13_best_40 : decode cX13_best 40 = .ok (.iconst 4, 1) := by decide +kernel
theorem dX13_best_41 : decode cX13_best 41 = .ok (.if_icmp .ne 7, 3) := by decide +kernel
theorem dX13_best_44 : decode cX13_best 44 = .ok (.iconst 0, 1) := by decide +kernel
theorem dX13_best_45 : decode cX13_best 45 = .ok (.goto 4, 3) := by decide +kernel
theorem dX13_best_48 : decode cX13_best 48 = .ok (.iconst (-1), 1) := by decide +kernel
theorem dX13_best_49 : decode cX13_best 49 = .ok (.ireturn, 1) := by decide +kernel
theorem dX13_best_50 : decode cX13_best 50 = .ok (.iload_n 1, 1) := by decide +kernel
theorem dX13_best_51 : decode cX13_best 51 = .ok (.tableswitch 53 0 3 #[29, 34, 39, 46], 29) := by decide +kernel
theorem dX13_best_80 : decode cX13_best 80 = .ok (.iload_n 2, 1) := by decide +kernel
theorem dX13_best_81 : decode cX13_best 81 = .ok (.bipush 66, 2) := by decide +kernel
theorem dX13_best_83 : decode cX13_best 83 = .ok (.idiv, 1) := by decide +kernel
theorem dX13_best_84 : decode cX13_best 84 = .ok (.ireturn, 1) := by decide +kernel
theorem dX13_best_85 : decode cX13_best 85 = .ok (.iload_n 2, 1) := by decide +kernel
theorem dX13_best_86 : decode cX13_best 86 = .ok (.bipush 66, 2) := by decide +kernel
theorem dX13_best_88 : decode cX13_best 88 = .ok (.irem, 1) := by decide +kernel
theorem dX13_best_89 : decode cX13_best 89 = .ok (.ireturn, 1) := by decide +kernel
theorem dX13_best_90 : decode cX13_best 90 = .ok (.aload_n 0, 1) := by decide +kernel
theorem dX13_best_91 : decode cX13_best 91 = .ok (.getfield 49, 3) := by decide +kernel
theorem dX13_best_94 : decode cX13_best 94 = .ok (.iload_n 2, 1) := by decide +kernel
theorem dX13_best_95 : decode cX13_best 95 = .ok (.iaload, 1) := by decide +kernel
theorem dX13_best_96 : decode cX13_best 96 = .ok (.ireturn, 1) := by decide +kernel
theorem dX13_best_97 : decode cX13_best 97 = .ok (.aload_n 0, 1) := by decide +kernel
theorem dX13_best_98 : decode cX13_best 98 = .ok (.getfield 55, 3) := by decide +kernel
theorem dX13_best_101 : decode cX13_best 101 = .ok (.iload_n 2, 1) := by decide +kernel
theorem dX13_best_102 : decode cX13_best 102 = .ok (.iaload, 1) := by decide +kernel
theorem dX13_best_103 : decode cX13_best 103 = .ok (.ireturn, 1) := by decide +kernel
theorem dX13_best_104 : decode cX13_best 104 = .ok (.aload_n 0, 1) := by decide +kernel
theorem dX13_best_105 : decode cX13_best 105 = .ok (.aload_n 0, 1) := by decide +kernel
theorem dX13_best_106 : decode cX13_best 106 = .ok (.getfield 49, 3) := by decide +kernel
theorem dX13_best_109 : decode cX13_best 109 = .ok (.iload_n 2, 1) := by decide +kernel
theorem dX13_best_110 : decode cX13_best 110 = .ok (.iaload, 1) := by decide +kernel
theorem dX13_best_111 : decode cX13_best 111 = .ok (.invokevirtual 425, 3) := by decide +kernel
theorem dX13_best_114 : decode cX13_best 114 = .ok (.ireturn, 1) := by decide +kernel
theorem dX13_why_0 : decode cX13_why 0 = .ok (.aload_n 0, 1) := by decide +kernel
theorem dX13_why_1 : decode cX13_why 1 = .ok (.iconst 0, 1) := by decide +kernel
theorem dX13_why_2 : decode cX13_why 2 = .ok (.putfield 100, 3) := by decide +kernel
theorem dX13_why_5 : decode cX13_why 5 = .ok (.aload_n 0, 1) := by decide +kernel
theorem dX13_why_6 : decode cX13_why 6 = .ok (.iload_n 1, 1) := by decide +kernel
theorem dX13_why_7 : decode cX13_why 7 = .ok (.iload_n 2, 1) := by decide +kernel
theorem dX13_why_8 : decode cX13_why 8 = .ok (.invokevirtual 475, 3) := by decide +kernel
theorem dX13_why_11 : decode cX13_why 11 = .ok (.ifCond .eq 5, 3) := by decide +kernel
theorem dX13_why_14 : decode cX13_why 14 = .ok (.iconst 0, 1) := by decide +kernel
theorem dX13_why_15 : decode cX13_why 15 = .ok (.ireturn, 1) := by decide +kernel
theorem dX13_why_16 : decode cX13_why 16 = .ok (.aload_n 0, 1) := by decide +kernel
theorem dX13_why_17 : decode cX13_why 17 = .ok (.invokevirtual 195, 3) := by decide +kernel
theorem dX13_why_20 : decode cX13_why 20 = .ok (.istore_n 3, 1) := by decide +kernel
theorem dX13_why_21 : decode cX13_why 21 = .ok (.iload_n 1, 1) := by decide +kernel
theorem dX13_why_22 : decode cX13_why 22 = .ok (.iload_n 2, 1) := by decide +kernel
theorem dX13_why_23 : decode cX13_why 23 = .ok (.invokestatic 147, 3) := by decide +kernel
theorem dX13_why_26 : decode cX13_why 26 = .ok (.istore 4, 2) := by decide +kernel
theorem dX13_why_28 : decode cX13_why 28 = .ok (.aload_n 0, 1) := by decide +kernel
theorem dX13_why_29 : decode cX13_why 29 = .ok (.getfield 49, 3) := by decide +kernel
theorem dX13_why_32 : decode cX13_why 32 = .ok (.iload 4, 2) := by decide +kernel
theorem dX13_why_34 : decode cX13_why 34 = .ok (.iaload, 1) := by decide +kernel
theorem dX13_why_35 : decode cX13_why 35 = .ok (.ifCond .ne 5, 3) := by decide +kernel
theorem dX13_why_38 : decode cX13_why 38 = .ok (.iconst 1, 1) := by decide +kernel
theorem dX13_why_39 : decode cX13_why 39 = .ok (.ireturn, 1) := by decide +kernel
theorem dX13_why_40 : decode cX13_why 40 = .ok (.aload_n 0, 1) := by decide +kernel
theorem dX13_why_41 : decode cX13_why 41 = .ok (.getfield 55, 3) := by decide +kernel
theorem dX13_why_44 : decode cX13_why 44 = .ok (.iload 4, 2) := by decide +kernel
theorem dX13_why_46 : decode cX13_why 46 = .ok (.iaload, 1) := by decide +kernel
theorem dX13_why_47 : decode cX13_why 47 = .ok (.iconst (-1), 1) := by decide +kernel
theorem dX13_why_48 : decode cX13_why 48 = .ok (.if_icmp .ne 21, 3) := by decide +kernel
theorem dX13_why_51 : decode cX13_why 51 = .ok (.aload_n 0, 1) := by decide +kernel
theorem dX13_why_52 : decode cX13_why 52 = .ok (.getfield 49, 3) := by decide +kernel
theorem dX13_why_55 : decode cX13_why 55 = .ok (.iload 4, 2) := by decide +kernel
theorem dX13_why_57 : decode cX13_why 57 = .ok (.iaload, 1) := by decide +kernel
theorem dX13_why_58 : decode cX13_why 58 = .ok (.aload_n 0, 1) := by decide +kernel
theorem dX13_why_59 : decode cX13_why 59 = .ok (.getfield 9, 3) := by decide +kernel
theorem dX13_why_62 : decode cX13_why 62 = .ok (.iconst 0, 1) := by decide +kernel
theorem dX13_why_63 : decode cX13_why 63 = .ok (.iaload, 1) := by decide +kernel
theorem dX13_why_64 : decode cX13_why 64 = .ok (.if_icmp .ge 5, 3) := by decide +kernel
theorem dX13_why_67 : decode cX13_why 67 = .ok (.iconst 2, 1) := by decide +kernel
theorem dX13_why_68 : decode cX13_why 68 = .ok (.ireturn, 1) := by decide +kernel
theorem dX13_why_69 : decode cX13_why 69 = .ok (.aload_n 0, 1) := by decide +kernel
theorem dX13_why_70 : decode cX13_why 70 = .ok (.getfield 55, 3) := by decide +kernel
theorem dX13_why_73 : decode cX13_why 73 = .ok (.iload 4, 2) := by decide +kernel
theorem dX13_why_75 : decode cX13_why 75 = .ok (.iaload, 1) := by decide +kernel
theorem dX13_why_76 : decode cX13_why 76 = .ok (.iconst (-1), 1) := by decide +kernel
theorem dX13_why_77 : decode cX13_why 77 = .ok (.if_icmp .ne 13, 3) := by decide +kernel
theorem dX13_why_80 : decode cX13_why 80 = .ok (.aload_n 0, 1) := by decide +kernel
theorem dX13_why_81 : decode cX13_why 81 = .ok (.invokevirtual 163, 3) := by decide +kernel
theorem dX13_why_84 : decode cX13_why 84 = .ok (.iconst (-1), 1) := by decide +kernel
theorem dX13_why_85 : decode cX13_why 85 = .ok (.if_icmp .ne 5, 3) := by decide +kernel
theorem dX13_why_88 : decode cX13_why 88 = .ok (.iconst 3, 1) := by decide +kernel
theorem dX13_why_89 : decode cX13_why 89 = .ok (.ireturn, 1) := by decide +kernel
theorem dX13_why_90 : decode cX13_why 90 = .ok (.iload_n 3, 1) := by decide +kernel
theorem dX13_why_91 : decode cX13_why 91 = .ok (.iload 4, 2) := by decide +kernel
theorem dX13_why_93 : decode cX13_why 93 = .ok (.if_icmp .ne 7, 3) := by decide +kernel
theorem dX13_why_96 : decode cX13_why 96 = .ok (.iconst 0, 1) := by decide +kernel
theorem dX13_why_97 : decode cX13_why 97 = .ok (.goto 24, 3) := by decide +kernel
theorem dX13_why_100 : decode cX13_why 100 = .ok (.aload_n 0, 1) := by decide +kernel
theorem dX13_why_101 : decode cX13_why 101 = .ok (.getfield 49, 3) := by decide +kernel
theorem dX13_why_104 : decode cX13_why 104 = .ok (.iload_n 3, 1) := by decide +kernel
theorem dX13_why_105 : decode cX13_why 105 = .ok (.iaload, 1) := by decide +kernel
theorem dX13_why_106 : decode cX13_why 106 = .ok (.aload_n 0, 1) := by decide +kernel
theorem dX13_why_107 : decode cX13_why 107 = .ok (.getfield 49, 3) := by decide +kernel
theorem dX13_why_110 : decode cX13_why 110 = .ok (.iload 4, 2) := by decide +kernel
theorem dX13_why_112 : decode cX13_why 112 = .ok (.iaload, 1) := by decide +kernel
theorem dX13_why_113 : decode cX13_why 113 = .ok (.if_icmp .le 7, 3) := by decide +kernel
theorem dX13_why_116 : decode cX13_why 116 = .ok (.iconst 4, 1) := by decide +kernel
theorem dX13_why_117 : decode cX13_why 117 = .ok (.goto 4, 3) := by decide +kernel
theorem dX13_why_120 : decode cX13_why 120 = .ok (.iconst 5, 1) := by decide +kernel
theorem dX13_why_121 : decode cX13_why 121 = .ok (.ireturn, 1) := by decide +kernel
theorem dX13_gain_0 : decode cX13_gain 0 = .ok (.aload_n 0, 1) := by decide +kernel
theorem dX13_gain_1 : decode cX13_gain 1 = .ok (.iconst 0, 1) := by decide +kernel
theorem dX13_gain_2 : decode cX13_gain 2 = .ok (.putfield 100, 3) := by decide +kernel
theorem dX13_gain_5 : decode cX13_gain 5 = .ok (.aload_n 0, 1) := by decide +kernel
theorem dX13_gain_6 : decode cX13_gain 6 = .ok (.iload_n 1, 1) := by decide +kernel
theorem dX13_gain_7 : decode cX13_gain 7 = .ok (.iload_n 2, 1) := by decide +kernel
theorem dX13_gain_8 : decode cX13_gain 8 = .ok (.invokevirtual 475, 3) := by decide +kernel
theorem dX13_gain_11 : decode cX13_gain 11 = .ok (.ifCond .eq 5, 3) := by decide +kernel
theorem dX13_gain_14 : decode cX13_gain 14 = .ok (.iconst 0, 1) := by decide +kernel
theorem dX13_gain_15 : decode cX13_gain 15 = .ok (.ireturn, 1) := by decide +kernel
theorem dX13_gain_16 : decode cX13_gain 16 = .ok (.aload_n 0, 1) := by decide +kernel
theorem dX13_gain_17 : decode cX13_gain 17 = .ok (.invokevirtual 160, 3) := by decide +kernel
theorem dX13_gain_20 : decode cX13_gain 20 = .ok (.iload_n 1, 1) := by decide +kernel
theorem dX13_gain_21 : decode cX13_gain 21 = .ok (.iload_n 2, 1) := by decide +kernel
theorem dX13_gain_22 : decode cX13_gain 22 = .ok (.invokestatic 147, 3) := by decide +kernel
theorem dX13_gain_25 : decode cX13_gain 25 = .ok (.istore_n 3, 1) := by decide +kernel
theorem dX13_gain_26 : decode cX13_gain 26 = .ok (.aload_n 0, 1) := by decide +kernel
theorem dX13_gain_27 : decode cX13_gain 27 = .ok (.getfield 49, 3) := by decide +kernel
theorem dX13_gain_30 : decode cX13_gain 30 = .ok (.iload_n 3, 1) := by decide +kernel
theorem dX13_gain_31 : decode cX13_gain 31 = .ok (.iaload, 1) := by decide +kernel
theorem dX13_gain_32 : decode cX13_gain 32 = .ok (.ifCond .ne 7, 3) := by decide +kernel
theorem dX13_gain_35 : decode cX13_gain 35 = .ok (.iconst 0, 1) := by decide +kernel
theorem dX13_gain_36 : decode cX13_gain 36 = .ok (.goto 25, 3) := by decide +kernel
theorem dX13_gain_39 : decode cX13_gain 39 = .ok (.aload_n 0, 1) := by decide +kernel
theorem dX13_gain_40 : decode cX13_gain 40 = .ok (.getfield 49, 3) := by decide +kernel
theorem dX13_gain_43 : decode cX13_gain 43 = .ok (.iload_n 3, 1) := by decide +kernel
theorem dX13_gain_44 : decode cX13_gain 44 = .ok (.iaload, 1) := by decide +kernel
theorem dX13_gain_45 : decode cX13_gain 45 = .ok (.aload_n 0, 1) := by decide +kernel
theorem dX13_gain_46 : decode cX13_gain 46 = .ok (.getfield 55, 3) := by decide +kernel
theorem dX13_gain_49 : decode cX13_gain 49 = .ok (.iload_n 3, 1) := by decide +kernel
theorem dX13_gain_50 : decode cX13_gain 50 = .ok (.iaload, 1) := by decide +kernel
theorem dX13_gain_51 : decode cX13_gain 51 = .ok (.iconst (-1), 1) := by decide +kernel
theorem dX13_gain_52 : decode cX13_gain 52 = .ok (.if_icmp .ne 7, 3) := by decide +kernel
theorem dX13_gain_55 : decode cX13_gain 55 = .ok (.iconst 2, 1) := by decide +kernel
theorem dX13_gain_56 : decode cX13_gain 56 = .ok (.goto 4, 3) := by decide +kernel
theorem dX13_gain_59 : decode cX13_gain 59 = .ok (.iconst 0, 1) := by decide +kernel
theorem dX13_gain_60 : decode cX13_gain 60 = .ok (.isub, 1) := by decide +kernel
theorem dX13_gain_61 : decode cX13_gain 61 = .ok (.ireturn, 1) := by decide +kernel
theorem dX13_stepsLeft_0 : decode cX13_stepsLeft 0 = .ok (.aload_n 0, 1) := by decide +kernel
theorem dX13_stepsLeft_1 : decode cX13_stepsLeft 1 = .ok (.iconst 0, 1) := by decide +kernel
theorem dX13_stepsLeft_2 : decode cX13_stepsLeft 2 = .ok (.putfield 100, 3) := by decide +kernel
theorem dX13_stepsLeft_5 : decode cX13_stepsLeft 5 = .ok (.aload_n 0, 1) := by decide +kernel
theorem dX13_stepsLeft_6 : decode cX13_stepsLeft 6 = .ok (.invokevirtual 330, 3) := by decide +kernel
theorem dX13_stepsLeft_9 : decode cX13_stepsLeft 9 = .ok (.iconst 0, 1) := by decide +kernel
theorem dX13_stepsLeft_10 : decode cX13_stepsLeft 10 = .ok (.istore_n 1, 1) := by decide +kernel
theorem dX13_stepsLeft_11 : decode cX13_stepsLeft 11 = .ok (.aload_n 0, 1) := by decide +kernel
theorem dX13_stepsLeft_12 : decode cX13_stepsLeft 12 = .ok (.invokevirtual 204, 3) := by decide +kernel
theorem dX13_stepsLeft_15 : decode cX13_stepsLeft 15 = .ok (.ifCond .eq 9, 3) := by decide +kernel
theorem dX13_stepsLeft_18 : decode cX13_stepsLeft 18 = .ok (.iinc 1 1, 3) := by decide +kernel
theorem dX13_stepsLeft_21 : decode cX13_stepsLeft 21 = .ok (.goto (-10), 3) := by decide +kernel
theorem dX13_stepsLeft_24 : decode cX13_stepsLeft 24 = .ok (.aload_n 0, 1) := by decide +kernel
theorem dX13_stepsLeft_25 : decode cX13_stepsLeft 25 = .ok (.iload_n 1, 1) := by decide +kernel
theorem dX13_stepsLeft_26 : decode cX13_stepsLeft 26 = .ok (.invokevirtual 339, 3) := by decide +kernel
theorem dX13_stepsLeft_29 : decode cX13_stepsLeft 29 = .ok (.ireturn, 1) := by decide +kernel
theorem dX13_sizeIn_0 : decode cX13_sizeIn 0 = .ok (.aload_n 0, 1) := by decide +kernel
theorem dX13_sizeIn_1 : decode cX13_sizeIn 1 = .ok (.iconst 0, 1) := by decide +kernel
theorem dX13_sizeIn_2 : decode cX13_sizeIn 2 = .ok (.putfield 100, 3) := by decide +kernel
theorem dX13_sizeIn_5 : decode cX13_sizeIn 5 = .ok (.aload_n 0, 1) := by decide +kernel
theorem dX13_sizeIn_6 : decode cX13_sizeIn 6 = .ok (.iload_n 1, 1) := by decide +kernel
theorem dX13_sizeIn_7 : decode cX13_sizeIn 7 = .ok (.iconst 0, 1) := by decide +kernel
theorem dX13_sizeIn_8 : decode cX13_sizeIn 8 = .ok (.bipush 100, 2) := by decide +kernel
theorem dX13_sizeIn_10 : decode cX13_sizeIn 10 = .ok (.invokestatic 224, 3) := by decide +kernel
theorem dX13_sizeIn_13 : decode cX13_sizeIn 13 = .ok (.ifCond .ne 7, 3) := by decide +kernel
theorem dX13_sizeIn_16 : decode cX13_sizeIn 16 = .ok (.iconst 1, 1) := by decide +kernel
theorem dX13_sizeIn_17 : decode cX13_sizeIn 17 = .ok (.goto 4, 3) := by decide +kernel
theorem dX13_sizeIn_20 : decode cX13_sizeIn 20 = .ok (.iconst 0, 1) := by decide +kernel
theorem dX13_sizeIn_21 : decode cX13_sizeIn 21 = .ok (.iconst 1, 1) := by decide +kernel
theorem dX13_sizeIn_22 : decode cX13_sizeIn 22 = .ok (.invokevirtual 428, 3) := by decide +kernel
theorem dX13_sizeIn_25 : decode cX13_sizeIn 25 = .ok (.ifCond .eq 5, 3) := by decide +kernel
theorem dX13_sizeIn_28 : decode cX13_sizeIn 28 = .ok (.iconst 0, 1) := by decide +kernel
theorem dX13_sizeIn_29 : decode cX13_sizeIn 29 = .ok (.ireturn, 1) := by decide +kernel
theorem dX13_sizeIn_30 : decode cX13_sizeIn 30 = .ok (.aload_n 0, 1) := by decide +kernel
theorem dX13_sizeIn_31 : decode cX13_sizeIn 31 = .ok (.invokevirtual 330, 3) := by decide +kernel
theorem dX13_sizeIn_34 : decode cX13_sizeIn 34 = .ok (.aload_n 0, 1) := by decide +kernel
theorem dX13_sizeIn_35 : decode cX13_sizeIn 35 = .ok (.iload_n 1, 1) := by decide +kernel
theorem dX13_sizeIn_36 : decode cX13_sizeIn 36 = .ok (.invokevirtual 391, 3) := by decide +kernel
theorem dX13_sizeIn_39 : decode cX13_sizeIn 39 = .ok (.istore_n 2, 1) := by decide +kernel
theorem dX13_sizeIn_40 : decode cX13_sizeIn 40 = .ok (.aload_n 0, 1) := by decide +kernel
theorem dX13_sizeIn_41 : decode cX13_sizeIn 41 = .ok (.aload_n 0, 1) := by decide +kernel
theorem dX13_sizeIn_42 : decode cX13_sizeIn 42 = .ok (.invokevirtual 431, 3) := by decide +kernel
theorem dX13_sizeIn_45 : decode cX13_sizeIn 45 = .ok (.invokevirtual 339, 3) := by decide +kernel
theorem dX13_sizeIn_48 : decode cX13_sizeIn 48 = .ok (.ireturn, 1) := by decide +kernel
theorem dX13_sizeWith_0 : decode cX13_sizeWith 0 = .ok (.aload_n 0, 1) := by decide +kernel
theorem dX13_sizeWith_1 : decode cX13_sizeWith 1 = .ok (.invokevirtual 330, 3) := by decide +kernel
theorem dX13_sizeWith_4 : decode cX13_sizeWith 4 = .ok (.aload_n 0, 1) := by decide +kernel
theorem dX13_sizeWith_5 : decode cX13_sizeWith 5 = .ok (.getfield 9, 3) := by decide +kernel
theorem dX13_sizeWith_8 : decode cX13_sizeWith 8 = .ok (.iload_n 1, 1) := by decide +kernel
theorem dX13_sizeWith_9 : decode cX13_sizeWith 9 = .ok (.iload_n 2, 1) := by decide +kernel
theorem dX13_sizeWith_10 : decode cX13_sizeWith 10 = .ok (.iastore, 1) := by decide +kernel
theorem dX13_sizeWith_11 : decode cX13_sizeWith 11 = .ok (.iconst 1, 1) := by decide +kernel
theorem dX13_sizeWith_12 : decode cX13_sizeWith 12 = .ok (.istore_n 3, 1) := by decide +kernel
theorem dX13_sizeWith_13 : decode cX13_sizeWith 13 = .ok (.iload_n 3, 1) := by decide +kernel
theorem dX13_sizeWith_14 : decode cX13_sizeWith 14 = .ok (.ifCond .eq 11, 3) := by decide +kernel
theorem dX13_sizeWith_17 : decode cX13_sizeWith 17 = .ok (.aload_n 0, 1) := by decide +kernel
theorem dX13_sizeWith_18 : decode cX13_sizeWith 18 = .ok (.invokevirtual 204, 3) := by decide +kernel
theorem dX13_sizeWith_21 : decode cX13_sizeWith 21 = .ok (.istore_n 3, 1) := by decide +kernel
theorem dX13_sizeWith_22 : decode cX13_sizeWith 22 = .ok (.goto (-9), 3) := by decide +kernel
theorem dX13_sizeWith_25 : decode cX13_sizeWith 25 = .ok (.aload_n 0, 1) := by decide +kernel
theorem dX13_sizeWith_26 : decode cX13_sizeWith 26 = .ok (.aload_n 0, 1) := by decide +kernel
theorem dX13_sizeWith_27 : decode cX13_sizeWith 27 = .ok (.invokevirtual 431, 3) := by decide +kernel
theorem dX13_sizeWith_30 : decode cX13_sizeWith 30 = .ok (.invokevirtual 339, 3) := by decide +kernel
theorem dX13_sizeWith_33 : decode cX13_sizeWith 33 = .ok (.ireturn, 1) := by decide +kernel
theorem dX13_bestOf_0 : decode cX13_bestOf 0 = .ok (.iload_n 1, 1) := by decide +kernel
theorem dX13_bestOf_1 : decode cX13_bestOf 1 = .ok (.invokestatic 301, 3) := by decide +kernel
theorem dX13_bestOf_4 : decode cX13_bestOf 4 = .ok (.istore_n 2, 1) := by decide +kernel
theorem dX13_bestOf_5 : decode cX13_bestOf 5 = .ok (.aload_n 0, 1) := by decide +kernel
theorem dX13_bestOf_6 : decode cX13_bestOf 6 = .ok (.iload_n 1, 1) := by decide +kernel
theorem dX13_bestOf_7 : decode cX13_bestOf 7 = .ok (.iload_n 2, 1) := by decide +kernel
theorem dX13_bestOf_8 : decode cX13_bestOf 8 = .ok (.invokevirtual 478, 3) := by decide +kernel
theorem dX13_bestOf_11 : decode cX13_bestOf 11 = .ok (.istore_n 3, 1) := by decide +kernel
theorem dX13_bestOf_12 : decode cX13_bestOf 12 = .ok (.iload_n 2, 1) := by decide +kernel
theorem dX13_bestOf_13 : decode cX13_bestOf 13 = .ok (.iconst 1, 1) := by decide +kernel
theorem dX13_bestOf_14 : decode cX13_bestOf 14 = .ok (.iadd, 1) := by decide +kernel
theorem dX13_bestOf_15 : decode cX13_bestOf 15 = .ok (.istore 4, 2) := by decide +kernel
theorem dX13_bestOf_17 : decode cX13_bestOf 17 = .ok (.iload 4, 2) := by decide +kernel
theorem dX13_bestOf_19 : decode cX13_bestOf 19 = .ok (.iload_n 1, 1) := by decide +kernel
theorem dX13_bestOf_20 : decode cX13_bestOf 20 = .ok (.invokestatic 304, 3) := by decide +kernel
theorem dX13_bestOf_23 : decode cX13_bestOf 23 = .ok (.if_icmp .gt 33, 3) := by decide +kernel
theorem dX13_bestOf_26 : decode cX13_bestOf 26 = .ok (.aload_n 0, 1) := by decide +kernel
theorem dX13_bestOf_27 : decode cX13_bestOf 27 = .ok (.iload_n 1, 1) := by decide +kernel
theorem dX13_bestOf_28 : decode cX13_bestOf 28 = .ok (.iload 4, 2) := by decide +kernel
theorem dX13_bestOf_30 : decode cX13_bestOf 30 = .ok (.invokevirtual 478, 3) := by decide +kernel
theorem dX13_bestOf_33 : decode cX13_bestOf 33 = .ok (.istore 5, 2) := by decide +kernel
theorem dX13_bestOf_35 : decode cX13_bestOf 35 = .ok (.iload 5, 2) := by decide +kernel
theorem dX13_bestOf_37 : decode cX13_bestOf 37 = .ok (.iload_n 3, 1) := by decide +kernel
theorem dX13_bestOf_38 : decode cX13_bestOf 38 = .ok (.if_icmp .lt 6, 3) := by decide +kernel
theorem dX13_bestOf_41 : decode cX13_bestOf 41 = .ok (.goto 9, 3) := by decide +kernel
theorem dX13_bestOf_44 : decode cX13_bestOf 44 = .ok (.iload 4, 2) := by decide +kernel
theorem dX13_bestOf_46 : decode cX13_bestOf 46 = .ok (.istore_n 2, 1) := by decide +kernel
theorem dX13_bestOf_47 : decode cX13_bestOf 47 = .ok (.iload 5, 2) := by decide +kernel
theorem dX13_bestOf_49 : decode cX13_bestOf 49 = .ok (.istore_n 3, 1) := by decide +kernel
theorem dX13_bestOf_50 : decode cX13_bestOf 50 = .ok (.iinc 4 1, 3) := by decide +kernel
theorem dX13_bestOf_53 : decode cX13_bestOf 53 = .ok (.goto (-36), 3) := by decide +kernel
theorem dX13_bestOf_56 : decode cX13_bestOf 56 = .ok (.iload_n 2, 1) := by decide +kernel
theorem dX13_bestOf_57 : decode cX13_bestOf 57 = .ok (.ireturn, 1) := by decide +kernel
theorem dX13_bestTie_0 : decode cX13_bestTie 0 = .ok (.aload_n 0, 1) := by decide +kernel
theorem dX13_bestTie_1 : decode cX13_bestTie 1 = .ok (.iconst 0, 1) := by decide +kernel
theorem dX13_bestTie_2 : decode cX13_bestTie 2 = .ok (.putfield 100, 3) := by decide +kernel
theorem dX13_bestTie_5 : decode cX13_bestTie 5 = .ok (.aload_n 0, 1) := by decide +kernel
theorem dX13_bestTie_6 : decode cX13_bestTie 6 = .ok (.iconst 1, 1) := by decide +kernel
theorem dX13_bestTie_7 : decode cX13_bestTie 7 = .ok (.invokevirtual 481, 3) := by decide +kernel
theorem dX13_bestTie_10 : decode cX13_bestTie 10 = .ok (.ireturn, 1) := by decide +kernel
theorem dX13_bestLeast_0 : decode cX13_bestLeast 0 = .ok (.aload_n 0, 1) := by decide +kernel
theorem dX13_bestLeast_1 : decode cX13_bestLeast 1 = .ok (.iconst 0, 1) := by decide +kernel
theorem dX13_bestLeast_2 : decode cX13_bestLeast 2 = .ok (.putfield 100, 3) := by decide +kernel
theorem dX13_bestLeast_5 : decode cX13_bestLeast 5 = .ok (.aload_n 0, 1) := by decide +kernel
theorem dX13_bestLeast_6 : decode cX13_bestLeast 6 = .ok (.iconst 0, 1) := by decide +kernel
theorem dX13_bestLeast_7 : decode cX13_bestLeast 7 = .ok (.invokevirtual 481, 3) := by decide +kernel
theorem dX13_bestLeast_10 : decode cX13_bestLeast 10 = .ok (.ireturn, 1) := by decide +kernel
theorem dX13_inlinable_0 : decode cX13_inlinable 0 = .ok (.aload_n 0, 1) := by decide +kernel
theorem dX13_inlinable_1 : decode cX13_inlinable 1 = .ok (.iconst 0, 1) := by decide +kernel
theorem dX13_inlinable_2 : decode cX13_inlinable 2 = .ok (.putfield 100, 3) := by decide +kernel
theorem dX13_inlinable_5 : decode cX13_inlinable 5 = .ok (.aload_n 0, 1) := by decide +kernel
theorem dX13_inlinable_6 : decode cX13_inlinable 6 = .ok (.invokevirtual 330, 3) := by decide +kernel
theorem dX13_inlinable_9 : decode cX13_inlinable 9 = .ok (.aload_n 0, 1) := by decide +kernel
theorem dX13_inlinable_10 : decode cX13_inlinable 10 = .ok (.aload_n 0, 1) := by decide +kernel
theorem dX13_inlinable_11 : decode cX13_inlinable 11 = .ok (.invokevirtual 201, 3) := by decide +kernel
theorem dX13_inlinable_14 : decode cX13_inlinable 14 = .ok (.invokevirtual 339, 3) := by decide +kernel
theorem dX13_inlinable_17 : decode cX13_inlinable 17 = .ok (.ireturn, 1) := by decide +kernel
theorem dX13_makeNow_0 : decode cX13_makeNow 0 = .ok (.aload_n 0, 1) := by decide +kernel
theorem dX13_makeNow_1 : decode cX13_makeNow 1 = .ok (.iload_n 1, 1) := by decide +kernel
theorem dX13_makeNow_2 : decode cX13_makeNow 2 = .ok (.invokevirtual 484, 3) := by decide +kernel
theorem dX13_makeNow_5 : decode cX13_makeNow 5 = .ok (.ifCond .eq 11, 3) := by decide +kernel
theorem dX13_makeNow_8 : decode cX13_makeNow 8 = .ok (.aload_n 0, 1) := by decide +kernel
theorem dX13_makeNow_9 : decode cX13_makeNow 9 = .ok (.iload_n 2, 1) := by decide +kernel
theorem dX13_makeNow_10 : decode cX13_makeNow 10 = .ok (.invokevirtual 484, 3) := by decide +kernel
theorem dX13_makeNow_13 : decode cX13_makeNow 13 = .ok (.ifCond .ne 6, 3) := by decide +kernel
theorem dX13_makeNow_16 : decode cX13_makeNow 16 = .ok (.bipush (-7), 2) := by decide +kernel
theorem dX13_makeNow_18 : decode cX13_makeNow 18 = .ok (.ireturn, 1) := by decide +kernel
theorem dX13_makeNow_19 : decode cX13_makeNow 19 = .ok (.aload_n 0, 1) := by decide +kernel
theorem dX13_makeNow_20 : decode cX13_makeNow 20 = .ok (.invokevirtual 160, 3) := by decide +kernel
theorem dX13_makeNow_23 : decode cX13_makeNow 23 = .ok (.iload_n 1, 1) := by decide +kernel
theorem dX13_makeNow_24 : decode cX13_makeNow 24 = .ok (.iload_n 2, 1) := by decide +kernel
theorem dX13_makeNow_25 : decode cX13_makeNow 25 = .ok (.invokestatic 147, 3) := by decide +kernel
theorem dX13_makeNow_28 : decode cX13_makeNow 28 = .ok (.istore_n 3, 1) := by decide +kernel
theorem dX13_makeNow_29 : decode cX13_makeNow 29 = .ok (.aload_n 0, 1) := by decide +kernel
theorem dX13_makeNow_30 : decode cX13_makeNow 30 = .ok (.getfield 49, 3) := by decide +kernel
theorem dX13_makeNow_33 : decode cX13_makeNow 33 = .ok (.iload_n 3, 1) := by decide +kernel
theorem dX13_makeNow_34 : decode cX13_makeNow 34 = .ok (.iaload, 1) := by decide +kernel
theorem dX13_makeNow_35 : decode cX13_makeNow 35 = .ok (.ifCond .ne 6, 3) := by decide +kernel
theorem dX13_makeNow_38 : decode cX13_makeNow 38 = .ok (.bipush (-2), 2) := by decide +kernel
theorem dX13_makeNow_40 : decode cX13_makeNow 40 = .ok (.ireturn, 1) := by decide +kernel
theorem dX13_makeNow_41 : decode cX13_makeNow 41 = .ok (.aload_n 0, 1) := by decide +kernel
theorem dX13_makeNow_42 : decode cX13_makeNow 42 = .ok (.getfield 55, 3) := by decide +kernel
theorem dX13_makeNow_45 : decode cX13_makeNow 45 = .ok (.iload_n 3, 1) := by decide +kernel
theorem dX13_makeNow_46 : decode cX13_makeNow 46 = .ok (.iaload, 1) := by decide +kernel
theorem dX13_makeNow_47 : decode cX13_makeNow 47 = .ok (.iconst (-1), 1) := by decide +kernel
theorem dX13_makeNow_48 : decode cX13_makeNow 48 = .ok (.if_icmp .ne 16, 3) := by decide +kernel
theorem dX13_makeNow_51 : decode cX13_makeNow 51 = .ok (.aload_n 0, 1) := by decide +kernel
theorem dX13_makeNow_52 : decode cX13_makeNow 52 = .ok (.invokevirtual 163, 3) := by decide +kernel
theorem dX13_makeNow_55 : decode cX13_makeNow 55 = .ok (.iconst (-1), 1) := by decide +kernel
theorem dX13_makeNow_56 : decode cX13_makeNow 56 = .ok (.if_icmp .ne 8, 3) := by decide +kernel
theorem dX13_makeNow_59 : decode cX13_makeNow 59 = .ok (.bipush (-3), 2) := by decide +kernel
theorem dX13_makeNow_61 : decode cX13_makeNow 61 = .ok (.goto 8, 3) := by decide +kernel
theorem dX13_makeNow_64 : decode cX13_makeNow 64 = .ok (.aload_n 0, 1) := by decide +kernel
theorem dX13_makeNow_65 : decode cX13_makeNow 65 = .ok (.iload_n 3, 1) := by decide +kernel
theorem dX13_makeNow_66 : decode cX13_makeNow 66 = .ok (.invokevirtual 198, 3) := by decide +kernel
theorem dX13_makeNow_69 : decode cX13_makeNow 69 = .ok (.ireturn, 1) := by decide +kernel
theorem dX13_expandNow_0 : decode cX13_expandNow 0 = .ok (.aload_n 0, 1) := by decide +kernel
theorem dX13_expandNow_1 : decode cX13_expandNow 1 = .ok (.iload_n 1, 1) := by decide +kernel
theorem dX13_expandNow_2 : decode cX13_expandNow 2 = .ok (.invokevirtual 111, 3) := by decide +kernel
theorem dX13_expandNow_5 : decode cX13_expandNow 5 = .ok (.ifCond .ne 6, 3) := by decide +kernel
theorem dX13_expandNow_8 : decode cX13_expandNow 8 = .ok (.bipush (-4), 2) := by decide +kernel
theorem dX13_expandNow_10 : decode cX13_expandNow 10 = .ok (.ireturn, 1) := by decide +kernel
theorem dX13_expandNow_11 : decode cX13_expandNow 11 = .ok (.aload_n 0, 1) := by decide +kernel
theorem dX13_expandNow_12 : decode cX13_expandNow 12 = .ok (.iconst 4, 1) := by decide +kernel
theorem dX13_expandNow_13 : decode cX13_expandNow 13 = .ok (.iconst 1, 1) := by decide +kernel
theorem dX13_expandNow_14 : decode cX13_expandNow 14 = .ok (.invokevirtual 177, 3) := by decide +kernel
theorem dX13_expandNow_17 : decode cX13_expandNow 17 = .ok (.aload_n 0, 1) := by decide +kernel
theorem dX13_expandNow_18 : decode cX13_expandNow 18 = .ok (.iload_n 1, 1) := by decide +kernel
theorem dX13_expandNow_19 : decode cX13_expandNow 19 = .ok (.invokevirtual 192, 3) := by decide +kernel
theorem dX13_expandNow_22 : decode cX13_expandNow 22 = .ok (.ireturn, 1) := by decide +kernel
theorem dX13_appendNow_0 : decode cX13_appendNow 0 = .ok (.aload_n 0, 1) := by decide +kernel
theorem dX13_appendNow_1 : decode cX13_appendNow 1 = .ok (.getfield 9, 3) := by decide +kernel
theorem dX13_appendNow_4 : decode cX13_appendNow 4 = .ok (.iconst 3, 1) := by decide +kernel
theorem dX13_appendNow_5 : decode cX13_appendNow 5 = .ok (.iaload, 1) := by decide +kernel
theorem dX13_appendNow_6 : decode cX13_appendNow 6 = .ok (.sipush 400, 3) := by decide +kernel
theorem dX13_appendNow_9 : decode cX13_appendNow 9 = .ok (.if_icmp .ne 6, 3) := by decide +kernel
theorem dX13_appendNow_12 : decode cX13_appendNow 12 = .ok (.bipush (-5), 2) := by decide +kernel
theorem dX13_appendNow_14 : decode cX13_appendNow 14 = .ok (.ireturn, 1) := by decide +kernel
theorem dX13_appendNow_15 : decode cX13_appendNow 15 = .ok (.aload_n 0, 1) := by decide +kernel
theorem dX13_appendNow_16 : decode cX13_appendNow 16 = .ok (.iconst 0, 1) := by decide +kernel
theorem dX13_appendNow_17 : decode cX13_appendNow 17 = .ok (.iload_n 1, 1) := by decide +kernel
theorem dX13_appendNow_18 : decode cX13_appendNow 18 = .ok (.invokevirtual 93, 3) := by decide +kernel
theorem dX13_appendNow_21 : decode cX13_appendNow 21 = .ok (.aload_n 0, 1) := by decide +kernel
theorem dX13_appendNow_22 : decode cX13_appendNow 22 = .ok (.getfield 9, 3) := by decide +kernel
theorem dX13_appendNow_25 : decode cX13_appendNow 25 = .ok (.sipush 16460, 3) := by decide +kernel
theorem dX13_appendNow_28 : decode cX13_appendNow 28 = .ok (.aload_n 0, 1) := by decide +kernel
theorem dX13_appendNow_29 : decode cX13_appendNow 29 = .ok (.getfield 9, 3) := by decide +kernel
theorem dX13_appendNow_32 : decode cX13_appendNow 32 = .ok (.iconst 3, 1) := by decide +kernel
theorem dX13_appendNow_33 : decode cX13_appendNow 33 = .ok (.iaload, 1) := by decide +kernel
theorem dX13_appendNow_34 : decode cX13_appendNow 34 = .ok (.iadd, 1) := by decide +kernel
theorem dX13_appendNow_35 : decode cX13_appendNow 35 = .ok (.iload_n 1, 1) := by decide +kernel
theorem dX13_appendNow_36 : decode cX13_appendNow 36 = .ok (.iastore, 1) := by decide +kernel
theorem dX13_appendNow_37 : decode cX13_appendNow 37 = .ok (.aload_n 0, 1) := by decide +kernel
theorem dX13_appendNow_38 : decode cX13_appendNow 38 = .ok (.getfield 9, 3) := by decide +kernel
theorem dX13_appendNow_41 : decode cX13_appendNow 41 = .ok (.iconst 3, 1) := by decide +kernel
theorem dX13_appendNow_42 : decode cX13_appendNow 42 = .ok (.dup2, 1) := by decide +kernel
theorem dX13_appendNow_43 : decode cX13_appendNow 43 = .ok (.iaload, 1) := by decide +kernel
theorem dX13_appendNow_44 : decode cX13_appendNow 44 = .ok (.iconst 1, 1) := by decide +kernel
theorem dX13_appendNow_45 : decode cX13_appendNow 45 = .ok (.iadd, 1) := by decide +kernel
theorem dX13_appendNow_46 : decode cX13_appendNow 46 = .ok (.iastore, 1) := by decide +kernel
theorem dX13_appendNow_47 : decode cX13_appendNow 47 = .ok (.aload_n 0, 1) := by decide +kernel
theorem dX13_appendNow_48 : decode cX13_appendNow 48 = .ok (.bipush 6, 2) := by decide +kernel
theorem dX13_appendNow_50 : decode cX13_appendNow 50 = .ok (.iconst 1, 1) := by decide +kernel
theorem dX13_appendNow_51 : decode cX13_appendNow 51 = .ok (.invokevirtual 177, 3) := by decide +kernel
theorem dX13_appendNow_54 : decode cX13_appendNow 54 = .ok (.aload_n 0, 1) := by decide +kernel
theorem dX13_appendNow_55 : decode cX13_appendNow 55 = .ok (.getfield 9, 3) := by decide +kernel
theorem dX13_appendNow_58 : decode cX13_appendNow 58 = .ok (.iconst 3, 1) := by decide +kernel
theorem dX13_appendNow_59 : decode cX13_appendNow 59 = .ok (.iaload, 1) := by decide +kernel
theorem dX13_appendNow_60 : decode cX13_appendNow 60 = .ok (.ireturn, 1) := by decide +kernel
theorem dX13_cutNow_0 : decode cX13_cutNow 0 = .ok (.iload_n 1, 1) := by decide +kernel
theorem dX13_cutNow_1 : decode cX13_cutNow 1 = .ok (.aload_n 0, 1) := by decide +kernel
theorem dX13_cutNow_2 : decode cX13_cutNow 2 = .ok (.getfield 9, 3) := by decide +kernel
theorem dX13_cutNow_5 : decode cX13_cutNow 5 = .ok (.iconst 3, 1) := by decide +kernel
theorem dX13_cutNow_6 : decode cX13_cutNow 6 = .ok (.iaload, 1) := by decide +kernel
theorem dX13_cutNow_7 : decode cX13_cutNow 7 = .ok (.if_icmp .lt 6, 3) := by decide +kernel
theorem dX13_cutNow_10 : decode cX13_cutNow 10 = .ok (.bipush (-6), 2) := by decide +kernel
theorem dX13_cutNow_12 : decode cX13_cutNow 12 = .ok (.ireturn, 1) := by decide +kernel
theorem dX13_cutNow_13 : decode cX13_cutNow 13 = .ok (.aload_n 0, 1) := by decide +kernel
theorem dX13_cutNow_14 : decode cX13_cutNow 14 = .ok (.invokevirtual 137, 3) := by decide +kernel
theorem dX13_cutNow_17 : decode cX13_cutNow 17 = .ok (.iload_n 1, 1) := by decide +kernel
theorem dX13_cutNow_18 : decode cX13_cutNow 18 = .ok (.istore_n 2, 1) := by decide +kernel
theorem dX13_cutNow_19 : decode cX13_cutNow 19 = .ok (.iload_n 2, 1) := by decide +kernel
theorem dX13_cutNow_20 : decode cX13_cutNow 20 = .ok (.ifCond .le 75, 3) := by decide +kernel
theorem dX13_cutNow_23 : decode cX13_cutNow 23 = .ok (.aload_n 0, 1) := by decide +kernel
theorem dX13_cutNow_24 : decode cX13_cutNow 24 = .ok (.iconst 0, 1) := by decide +kernel
theorem dX13_cutNow_25 : decode cX13_cutNow 25 = .ok (.invokevirtual 103, 3) := by decide +kernel
theorem dX13_cutNow_28 : decode cX13_cutNow 28 = .ok (.iconst 1, 1) := by decide +kernel
theorem dX13_cutNow_29 : decode cX13_cutNow 29 = .ok (.isub, 1) := by decide +kernel
theorem dX13_cutNow_30 : decode cX13_cutNow 30 = .ok (.istore_n 3, 1) := by decide +kernel
theorem dX13_cutNow_31 : decode cX13_cutNow 31 = .ok (.aload_n 0, 1) := by decide +kernel
theorem dX13_cutNow_32 : decode cX13_cutNow 32 = .ok (.iconst 0, 1) := by decide +kernel
theorem dX13_cutNow_33 : decode cX13_cutNow 33 = .ok (.iload_n 3, 1) := by decide +kernel
theorem dX13_cutNow_34 : decode cX13_cutNow 34 = .ok (.invokevirtual 119, 3) := by decide +kernel
theorem dX13_cutNow_37 : decode cX13_cutNow 37 = .ok (.istore 4, 2) := by decide +kernel
theorem dX13_cutNow_39 : decode cX13_cutNow 39 = .ok (.aload_n 0, 1) := by decide +kernel
theorem dX13_cutNow_40 : decode cX13_cutNow 40 = .ok (.getfield 31, 3) := by decide +kernel
theorem dX13_cutNow_43 : decode cX13_cutNow 43 = .ok (.iload 4, 2) := by decide +kernel
theorem dX13_cutNow_45 : decode cX13_cutNow 45 = .ok (.iaload, 1) := by decide +kernel
theorem dX13_cutNow_46 : decode cX13_cutNow 46 = .ok (.iload_n 2, 1) := by decide +kernel
theorem dX13_cutNow_47 : decode cX13_cutNow 47 = .ok (.if_icmp .gt 27, 3) := by decide +kernel
theorem dX13_cutNow_50 : decode cX13_cutNow 50 = .ok (.iload_n 2, 1) := by decide +kernel
theorem dX13_cutNow_51 : decode cX13_cutNow 51 = .ok (.aload_n 0, 1) := by decide +kernel
theorem dX13_cutNow_52 : decode cX13_cutNow 52 = .ok (.getfield 31, 3) := by decide +kernel
theorem dX13_cutNow_55 : decode cX13_cutNow 55 = .ok (.iload 4, 2) := by decide +kernel
theorem dX13_cutNow_57 : decode cX13_cutNow 57 = .ok (.iaload, 1) := by decide +kernel
theorem dX13_cutNow_58 : decode cX13_cutNow 58 = .ok (.isub, 1) := by decide +kernel
theorem dX13_cutNow_59 : decode cX13_cutNow 59 = .ok (.istore_n 2, 1) := by decide +kernel
theorem dX13_cutNow_60 : decode cX13_cutNow 60 = .ok (.aload_n 0, 1) := by decide +kernel
theorem dX13_cutNow_61 : decode cX13_cutNow 61 = .ok (.getfield 9, 3) := by decide +kernel
theorem dX13_cutNow_64 : decode cX13_cutNow 64 = .ok (.bipush 16, 2) := by decide +kernel
theorem dX13_cutNow_66 : decode cX13_cutNow 66 = .ok (.dup2, 1) := by decide +kernel
theorem dX13_cutNow_67 : decode cX13_cutNow 67 = .ok (.iaload, 1) := by decide +kernel
theorem dX13_cutNow_68 : decode cX13_cutNow 68 = .ok (.iconst 1, 1) := by decide +kernel
theorem dX13_cutNow_69 : decode cX13_cutNow 69 = .ok (.isub, 1) := by decide +kernel
theorem dX13_cutNow_70 : decode cX13_cutNow 70 = .ok (.iastore, 1) := by decide +kernel
theorem dX13_cutNow_71 : decode cX13_cutNow 71 = .ok (.goto 21, 3) := by decide +kernel
theorem dX13_cutNow_74 : decode cX13_cutNow 74 = .ok (.aload_n 0, 1) := by decide +kernel
theorem dX13_cutNow_75 : decode cX13_cutNow 75 = .ok (.iconst 0, 1) := by decide +kernel
theorem dX13_cutNow_76 : decode cX13_cutNow 76 = .ok (.iload_n 3, 1) := by decide +kernel
theorem dX13_cutNow_77 : decode cX13_cutNow 77 = .ok (.iload 4, 2) := by decide +kernel
theorem dX13_cutNow_79 : decode cX13_cutNow 79 = .ok (.bipush 26, 2) := by decide +kernel
theorem dX13_cutNow_81 : decode cX13_cutNow 81 = .ok (.isub, 1) := by decide +kernel
theorem dX13_cutNow_82 : decode cX13_cutNow 82 = .ok (.invokevirtual 183, 3) := by decide +kernel
theorem dX13_cutNow_85 : decode cX13_cutNow 85 = .ok (.aload_n 0, 1) := by decide +kernel
theorem dX13_cutNow_86 : decode cX13_cutNow 86 = .ok (.bipush 8, 2) := by decide +kernel
theorem dX13_cutNow_88 : decode cX13_cutNow 88 = .ok (.iconst 1, 1) := by decide +kernel
theorem dX13_cutNow_89 : decode cX13_cutNow 89 = .ok (.invokevirtual 177, 3) := by decide +kernel
theorem dX13_cutNow_92 : decode cX13_cutNow 92 = .ok (.goto (-73), 3) := by decide +kernel
theorem dX13_cutNow_95 : decode cX13_cutNow 95 = .ok (.aload_n 0, 1) := by decide +kernel
theorem dX13_cutNow_96 : decode cX13_cutNow 96 = .ok (.getfield 9, 3) := by decide +kernel
theorem dX13_cutNow_99 : decode cX13_cutNow 99 = .ok (.iconst 3, 1) := by decide +kernel
theorem dX13_cutNow_100 : decode cX13_cutNow 100 = .ok (.dup2, 1) := by decide +kernel
theorem dX13_cutNow_101 : decode cX13_cutNow 101 = .ok (.iaload, 1) := by decide +kernel
theorem dX13_cutNow_102 : decode cX13_cutNow 102 = .ok (.iload_n 1, 1) := by decide +kernel
theorem dX13_cutNow_103 : decode cX13_cutNow 103 = .ok (.isub, 1) := by decide +kernel
theorem dX13_cutNow_104 : decode cX13_cutNow 104 = .ok (.iastore, 1) := by decide +kernel
theorem dX13_cutNow_105 : decode cX13_cutNow 105 = .ok (.aload_n 0, 1) := by decide +kernel
theorem dX13_cutNow_106 : decode cX13_cutNow 106 = .ok (.bipush 7, 2) := by decide +kernel
theorem dX13_cutNow_108 : decode cX13_cutNow 108 = .ok (.iload_n 1, 1) := by decide +kernel
theorem dX13_cutNow_109 : decode cX13_cutNow 109 = .ok (.invokevirtual 177, 3) := by decide +kernel
theorem dX13_cutNow_112 : decode cX13_cutNow 112 = .ok (.aload_n 0, 1) := by decide +kernel
theorem dX13_cutNow_113 : decode cX13_cutNow 113 = .ok (.iconst 0, 1) := by decide +kernel
theorem dX13_cutNow_114 : decode cX13_cutNow 114 = .ok (.invokevirtual 103, 3) := by decide +kernel
theorem dX13_cutNow_117 : decode cX13_cutNow 117 = .ok (.ireturn, 1) := by decide +kernel
theorem dX13_setNow_0 : decode cX13_setNow 0 = .ok (.aload_n 0, 1) := by decide +kernel
theorem dX13_setNow_1 : decode cX13_setNow 1 = .ok (.getfield 9, 3) := by decide +kernel
theorem dX13_setNow_4 : decode cX13_setNow 4 = .ok (.iload_n 1, 1) := by decide +kernel
theorem dX13_setNow_5 : decode cX13_setNow 5 = .ok (.iaload, 1) := by decide +kernel
theorem dX13_setNow_6 : decode cX13_setNow 6 = .ok (.istore_n 3, 1) := by decide +kernel
theorem dX13_setNow_7 : decode cX13_setNow 7 = .ok (.aload_n 0, 1) := by decide +kernel
theorem dX13_setNow_8 : decode cX13_setNow 8 = .ok (.getfield 9, 3) := by decide +kernel
theorem dX13_setNow_11 : decode cX13_setNow 11 = .ok (.iload_n 1, 1) := by decide +kernel
theorem dX13_setNow_12 : decode cX13_setNow 12 = .ok (.iload_n 2, 1) := by decide +kernel
theorem dX13_setNow_13 : decode cX13_setNow 13 = .ok (.iastore, 1) := by decide +kernel
theorem dX13_setNow_14 : decode cX13_setNow 14 = .ok (.iload_n 3, 1) := by decide +kernel
theorem dX13_setNow_15 : decode cX13_setNow 15 = .ok (.ireturn, 1) := by decide +kernel
theorem dX13_remembers_0 : decode cX13_remembers 0 = .ok (.aload_n 0, 1) := by decide +kernel
theorem dX13_remembers_1 : decode cX13_remembers 1 = .ok (.getfield 342, 3) := by decide +kernel
theorem dX13_remembers_4 : decode cX13_remembers 4 = .ok (.bipush 8, 2) := by decide +kernel
theorem dX13_remembers_6 : decode cX13_remembers 6 = .ok (.if_icmp .ne 44, 3) := by decide +kernel
theorem dX13_remembers_9 : decode cX13_remembers 9 = .ok (.iconst 0, 1) := by decide +kernel
theorem dX13_remembers_10 : decode cX13_remembers 10 = .ok (.istore_n 2, 1) := by decide +kernel
theorem dX13_remembers_11 : decode cX13_remembers 11 = .ok (.iload_n 2, 1) := by decide +kernel
theorem dX13_remembers_12 : decode cX13_remembers 12 = .ok (.ldc_w 487, 3) := by decide +kernel
theorem dX13_remembers_15 : decode cX13_remembers 15 = .ok (.if_icmp .ge 25, 3) := by decide +kernel
theorem dX13_remembers_18 : decode cX13_remembers 18 = .ok (.aload_n 0, 1) := by decide +kernel
theorem dX13_remembers_19 : decode cX13_remembers 19 = .ok (.getfield 20, 3) := by decide +kernel
theorem dX13_remembers_22 : decode cX13_remembers 22 = .ok (.iload_n 2, 1) := by decide +kernel
theorem dX13_remembers_23 : decode cX13_remembers 23 = .ok (.aload_n 0, 1) := by decide +kernel
theorem dX13_remembers_24 : decode cX13_remembers 24 = .ok (.getfield 20, 3) := by decide +kernel
theorem dX13_remembers_27 : decode cX13_remembers 27 = .ok (.iload_n 2, 1) := by decide +kernel
theorem dX13_remembers_28 : decode cX13_remembers 28 = .ok (.sipush 16860, 3) := by decide +kernel
theorem dX13_remembers_31 : decode cX13_remembers 31 = .ok (.iadd, 1) := by decide +kernel
theorem dX13_remembers_32 : decode cX13_remembers 32 = .ok (.iaload, 1) := by decide +kernel
theorem dX13_remembers_33 : decode cX13_remembers 33 = .ok (.iastore, 1) := by decide +kernel
theorem dX13_remembers_34 : decode cX13_remembers 34 = .ok (.iinc 2 1, 3) := by decide +kernel
theorem dX13_remembers_37 : decode cX13_remembers 37 = .ok (.goto (-26), 3) := by decide +kernel
theorem dX13_remembers_40 : decode cX13_remembers 40 = .ok (.aload_n 0, 1) := by decide +kernel
theorem dX13_remembers_41 : decode cX13_remembers 41 = .ok (.dup, 1) := by decide +kernel
theorem dX13_remembers_42 : decode cX13_remembers 42 = .ok (.getfield 342, 3) := by decide +kernel
theorem dX13_remembers_45 : decode cX13_remembers 45 = .ok (.iconst 1, 1) := by decide +kernel
theorem dX13_remembers_46 : decode cX13_remembers 46 = .ok (.isub, 1) := by decide +kernel
theorem dX13_remembers_47 : decode cX13_remembers 47 = .ok (.putfield 342, 3) := by decide +kernel
theorem dX13_remembers_50 : decode cX13_remembers 50 = .ok (.aload_n 1, 1) := by decide +kernel
theorem dX13_remembers_51 : decode cX13_remembers 51 = .ok (.iconst 0, 1) := by decide +kernel
theorem dX13_remembers_52 : decode cX13_remembers 52 = .ok (.aload_n 0, 1) := by decide +kernel
theorem dX13_remembers_53 : decode cX13_remembers 53 = .ok (.getfield 20, 3) := by decide +kernel
theorem dX13_remembers_56 : decode cX13_remembers 56 = .ok (.sipush 16860, 3) := by decide +kernel
theorem dX13_remembers_59 : decode cX13_remembers 59 = .ok (.aload_n 0, 1) := by decide +kernel
theorem dX13_remembers_60 : decode cX13_remembers 60 = .ok (.getfield 342, 3) := by decide +kernel
theorem dX13_remembers_63 : decode cX13_remembers 63 = .ok (.imul, 1) := by decide +kernel
theorem dX13_remembers_64 : decode cX13_remembers 64 = .ok (.invokestatic 208, 3) := by decide +kernel
theorem dX13_remembers_67 : decode cX13_remembers 67 = .ok (.aload_n 0, 1) := by decide +kernel
theorem dX13_remembers_68 : decode cX13_remembers 68 = .ok (.dup, 1) := by decide +kernel
theorem dX13_remembers_69 : decode cX13_remembers 69 = .ok (.getfield 342, 3) := by decide +kernel
theorem dX13_remembers_72 : decode cX13_remembers 72 = .ok (.iconst 1, 1) := by decide +kernel
theorem dX13_remembers_73 : decode cX13_remembers 73 = .ok (.iadd, 1) := by decide +kernel
theorem dX13_remembers_74 : decode cX13_remembers 74 = .ok (.putfield 342, 3) := by decide +kernel
theorem dX13_remembers_77 : decode cX13_remembers 77 = .ok (.return_, 1) := by decide +kernel
theorem dX13_holds_0 : decode cX13_holds 0 = .ok (.aload_n 0, 1) := by decide +kernel
theorem dX13_holds_1 : decode cX13_holds 1 = .ok (.getfield 9, 3) := by decide +kernel
theorem dX13_holds_4 : decode cX13_holds 4 = .ok (.iconst 0, 1) := by decide +kernel
theorem dX13_holds_5 : decode cX13_holds 5 = .ok (.aload_n 0, 1) := by decide +kernel
theorem dX13_holds_6 : decode cX13_holds 6 = .ok (.getfield 16, 3) := by decide +kernel
theorem dX13_holds_9 : decode cX13_holds 9 = .ok (.iconst 0, 1) := by decide +kernel
theorem dX13_holds_10 : decode cX13_holds 10 = .ok (.invokestatic 208, 3) := by decide +kernel
theorem dX13_holds_13 : decode cX13_holds 13 = .ok (.return_, 1) := by decide +kernel
theorem dX13_recorded_0 : decode cX13_recorded 0 = .ok (.iload_n 1, 1) := by decide +kernel
theorem dX13_recorded_1 : decode cX13_recorded 1 = .ok (.ifCond .lt 11, 3) := by decide +kernel
theorem dX13_recorded_4 : decode cX13_recorded 4 = .ok (.aload_n 0, 1) := by decide +kernel
theorem dX13_recorded_5 : decode cX13_recorded 5 = .ok (.aload_n 0, 1) := by decide +kernel
theorem dX13_recorded_6 : decode cX13_recorded 6 = .ok (.getfield 16, 3) := by decide +kernel
theorem dX13_recorded_9 : decode cX13_recorded 9 = .ok (.invokevirtual 415, 3) := by decide +kernel
theorem dX13_recorded_12 : decode cX13_recorded 12 = .ok (.iload_n 1, 1) := by decide +kernel
theorem dX13_recorded_13 : decode cX13_recorded 13 = .ok (.ireturn, 1) := by decide +kernel
theorem dX13_step_0 : decode cX13_step 0 = .ok (.aload_n 0, 1) := by decide +kernel
theorem dX13_step_1 : decode cX13_step 1 = .ok (.iconst 0, 1) := by decide +kernel
theorem dX13_step_2 : decode cX13_step 2 = .ok (.putfield 100, 3) := by decide +kernel
theorem dX13_step_5 : decode cX13_step 5 = .ok (.aload_n 0, 1) := by decide +kernel
theorem dX13_step_6 : decode cX13_step 6 = .ok (.iload_n 1, 1) := by decide +kernel
theorem dX13_step_7 : decode cX13_step 7 = .ok (.iconst 1, 1) := by decide +kernel
theorem dX13_step_8 : decode cX13_step 8 = .ok (.bipush 50, 2) := by decide +kernel
theorem dX13_step_10 : decode cX13_step 10 = .ok (.invokestatic 224, 3) := by decide +kernel
theorem dX13_step_13 : decode cX13_step 13 = .ok (.ifCond .ne 7, 3) := by decide +kernel
theorem dX13_step_16 : decode cX13_step 16 = .ok (.iconst 1, 1) := by decide +kernel
theorem dX13_step_17 : decode cX13_step 17 = .ok (.goto 4, 3) := by decide +kernel
theorem dX13_step_20 : decode cX13_step 20 = .ok (.iconst 0, 1) := by decide +kernel
theorem dX13_step_21 : decode cX13_step 21 = .ok (.iconst 1, 1) := by decide +kernel
theorem dX13_step_22 : decode cX13_step 22 = .ok (.invokevirtual 428, 3) := by decide +kernel
theorem dX13_step_25 : decode cX13_step 25 = .ok (.ifCond .eq 5, 3) := by decide +kernel
theorem dX13_step_28 : decode cX13_step 28 = .ok (.iconst 0, 1) := by decide +kernel
theorem dX13_step_29 : decode cX13_step 29 = .ok (.ireturn, 1) := by decide +kernel
theorem dX13_step_30 : decode cX13_step 30 = .ok (.aload_n 0, 1) := by decide +kernel
theorem dX13_step_31 : decode cX13_step 31 = .ok (.invokevirtual 488, 3) := by decide +kernel
theorem dX13_step_34 : decode cX13_step 34 = .ok (.aload_n 0, 1) := by decide +kernel
theorem dX13_step_35 : decode cX13_step 35 = .ok (.aload_n 0, 1) := by decide +kernel
theorem dX13_step_36 : decode cX13_step 36 = .ok (.iload_n 1, 1) := by decide +kernel
theorem dX13_step_37 : decode cX13_step 37 = .ok (.invokevirtual 391, 3) := by decide +kernel
theorem dX13_step_40 : decode cX13_step 40 = .ok (.invokevirtual 491, 3) := by decide +kernel
theorem dX13_step_43 : decode cX13_step 43 = .ok (.ireturn, 1) := by decide +kernel
theorem dX13_inline_0 : decode cX13_inline 0 = .ok (.aload_n 0, 1) := by decide +kernel
theorem dX13_inline_1 : decode cX13_inline 1 = .ok (.iconst 0, 1) := by decide +kernel
theorem dX13_inline_2 : decode cX13_inline 2 = .ok (.putfield 100, 3) := by decide +kernel
theorem dX13_inline_5 : decode cX13_inline 5 = .ok (.aload_n 0, 1) := by decide +kernel
theorem dX13_inline_6 : decode cX13_inline 6 = .ok (.invokevirtual 488, 3) := by decide +kernel
theorem dX13_inline_9 : decode cX13_inline 9 = .ok (.aload_n 0, 1) := by decide +kernel
theorem dX13_inline_10 : decode cX13_inline 10 = .ok (.aload_n 0, 1) := by decide +kernel
theorem dX13_inline_11 : decode cX13_inline 11 = .ok (.invokevirtual 201, 3) := by decide +kernel
theorem dX13_inline_14 : decode cX13_inline 14 = .ok (.invokevirtual 491, 3) := by decide +kernel
theorem dX13_inline_17 : decode cX13_inline 17 = .ok (.ireturn, 1) := by decide +kernel
theorem dX13_make_0 : decode cX13_make 0 = .ok (.aload_n 0, 1) := by decide +kernel
theorem dX13_make_1 : decode cX13_make 1 = .ok (.iconst 0, 1) := by decide +kernel
theorem dX13_make_2 : decode cX13_make 2 = .ok (.putfield 100, 3) := by decide +kernel
theorem dX13_make_5 : decode cX13_make 5 = .ok (.aload_n 0, 1) := by decide +kernel
theorem dX13_make_6 : decode cX13_make 6 = .ok (.iload_n 1, 1) := by decide +kernel
theorem dX13_make_7 : decode cX13_make 7 = .ok (.iload_n 2, 1) := by decide +kernel
theorem dX13_make_8 : decode cX13_make 8 = .ok (.invokevirtual 475, 3) := by decide +kernel
theorem dX13_make_11 : decode cX13_make 11 = .ok (.ifCond .eq 5, 3) := by decide +kernel
theorem dX13_make_14 : decode cX13_make 14 = .ok (.iconst 0, 1) := by decide +kernel
theorem dX13_make_15 : decode cX13_make 15 = .ok (.ireturn, 1) := by decide +kernel
theorem dX13_make_16 : decode cX13_make 16 = .ok (.aload_n 0, 1) := by decide +kernel
theorem dX13_make_17 : decode cX13_make 17 = .ok (.invokevirtual 488, 3) := by decide +kernel
theorem dX13_make_20 : decode cX13_make 20 = .ok (.aload_n 0, 1) := by decide +kernel
theorem dX13_make_21 : decode cX13_make 21 = .ok (.aload_n 0, 1) := by decide +kernel
theorem dX13_make_22 : decode cX13_make 22 = .ok (.iload_n 1, 1) := by decide +kernel
theorem dX13_make_23 : decode cX13_make 23 = .ok (.iload_n 2, 1) := by decide +kernel
theorem dX13_make_24 : decode cX13_make 24 = .ok (.invokevirtual 394, 3) := by decide +kernel
theorem dX13_make_27 : decode cX13_make 27 = .ok (.invokevirtual 491, 3) := by decide +kernel
theorem dX13_make_30 : decode cX13_make 30 = .ok (.ireturn, 1) := by decide +kernel
theorem dX13_expand_0 : decode cX13_expand 0 = .ok (.aload_n 0, 1) := by decide +kernel
theorem dX13_expand_1 : decode cX13_expand 1 = .ok (.iconst 0, 1) := by decide +kernel
theorem dX13_expand_2 : decode cX13_expand 2 = .ok (.putfield 100, 3) := by decide +kernel
theorem dX13_expand_5 : decode cX13_expand 5 = .ok (.aload_n 0, 1) := by decide +kernel
theorem dX13_expand_6 : decode cX13_expand 6 = .ok (.iload_n 1, 1) := by decide +kernel
theorem dX13_expand_7 : decode cX13_expand 7 = .ok (.invokevirtual 446, 3) := by decide +kernel
theorem dX13_expand_10 : decode cX13_expand 10 = .ok (.ifCond .eq 5, 3) := by decide +kernel
theorem dX13_expand_13 : decode cX13_expand 13 = .ok (.iconst 0, 1) := by decide +kernel
theorem dX13_expand_14 : decode cX13_expand 14 = .ok (.ireturn, 1) := by decide +kernel
theorem dX13_expand_15 : decode cX13_expand 15 = .ok (.aload_n 0, 1) := by decide +kernel
theorem dX13_expand_16 : decode cX13_expand 16 = .ok (.invokevirtual 488, 3) := by decide +kernel
theorem dX13_expand_19 : decode cX13_expand 19 = .ok (.aload_n 0, 1) := by decide +kernel
theorem dX13_expand_20 : decode cX13_expand 20 = .ok (.aload_n 0, 1) := by decide +kernel
theorem dX13_expand_21 : decode cX13_expand 21 = .ok (.iload_n 1, 1) := by decide +kernel
theorem dX13_expand_22 : decode cX13_expand 22 = .ok (.invokevirtual 397, 3) := by decide +kernel
theorem dX13_expand_25 : decode cX13_expand 25 = .ok (.invokevirtual 491, 3) := by decide +kernel
theorem dX13_expand_28 : decode cX13_expand 28 = .ok (.ireturn, 1) := by decide +kernel
theorem dX13_append_0 : decode cX13_append 0 = .ok (.aload_n 0, 1) := by decide +kernel
theorem dX13_append_1 : decode cX13_append 1 = .ok (.iconst 0, 1) := by decide +kernel
theorem dX13_append_2 : decode cX13_append 2 = .ok (.putfield 100, 3) := by decide +kernel
theorem dX13_append_5 : decode cX13_append 5 = .ok (.aload_n 0, 1) := by decide +kernel
theorem dX13_append_6 : decode cX13_append 6 = .ok (.iload_n 1, 1) := by decide +kernel
theorem dX13_append_7 : decode cX13_append 7 = .ok (.iconst 0, 1) := by decide +kernel
theorem dX13_append_8 : decode cX13_append 8 = .ok (.bipush 25, 2) := by decide +kernel
theorem dX13_append_10 : decode cX13_append 10 = .ok (.invokestatic 224, 3) := by decide +kernel
theorem dX13_append_13 : decode cX13_append 13 = .ok (.ifCond .ne 7, 3) := by decide +kernel
theorem dX13_append_16 : decode cX13_append 16 = .ok (.iconst 1, 1) := by decide +kernel
theorem dX13_append_17 : decode cX13_append 17 = .ok (.goto 4, 3) := by decide +kernel
theorem dX13_append_20 : decode cX13_append 20 = .ok (.iconst 0, 1) := by decide +kernel
theorem dX13_append_21 : decode cX13_append 21 = .ok (.iconst 1, 1) := by decide +kernel
theorem dX13_append_22 : decode cX13_append 22 = .ok (.invokevirtual 428, 3) := by decide +kernel
theorem dX13_append_25 : decode cX13_append 25 = .ok (.ifCond .eq 5, 3) := by decide +kernel
theorem dX13_append_28 : decode cX13_append 28 = .ok (.iconst 0, 1) := by decide +kernel
theorem dX13_append_29 : decode cX13_append 29 = .ok (.ireturn, 1) := by decide +kernel
theorem dX13_append_30 : decode cX13_append 30 = .ok (.aload_n 0, 1) := by decide +kernel
theorem dX13_append_31 : decode cX13_append 31 = .ok (.invokevirtual 488, 3) := by decide +kernel
theorem dX13_append_34 : decode cX13_append 34 = .ok (.aload_n 0, 1) := by decide +kernel
theorem dX13_append_35 : decode cX13_append 35 = .ok (.aload_n 0, 1) := by decide +kernel
theorem dX13_append_36 : decode cX13_append 36 = .ok (.iload_n 1, 1) := by decide +kernel
theorem dX13_append_37 : decode cX13_append 37 = .ok (.invokevirtual 388, 3) := by decide +kernel
theorem dX13_append_40 : decode cX13_append 40 = .ok (.invokevirtual 491, 3) := by decide +kernel
theorem dX13_append_43 : decode cX13_append 43 = .ok (.ireturn, 1) := by decide +kernel
theorem dX13_cut_0 : decode cX13_cut 0 = .ok (.aload_n 0, 1) := by decide +kernel
theorem dX13_cut_1 : decode cX13_cut 1 = .ok (.iconst 0, 1) := by decide +kernel
theorem dX13_cut_2 : decode cX13_cut 2 = .ok (.putfield 100, 3) := by decide +kernel
theorem dX13_cut_5 : decode cX13_cut 5 = .ok (.aload_n 0, 1) := by decide +kernel
theorem dX13_cut_6 : decode cX13_cut 6 = .ok (.iload_n 1, 1) := by decide +kernel
theorem dX13_cut_7 : decode cX13_cut 7 = .ok (.iconst 1, 1) := by decide +kernel
theorem dX13_cut_8 : decode cX13_cut 8 = .ok (.sipush 400, 3) := by decide +kernel
theorem dX13_cut_11 : decode cX13_cut 11 = .ok (.invokestatic 224, 3) := by decide +kernel
theorem dX13_cut_14 : decode cX13_cut 14 = .ok (.ifCond .ne 7, 3) := by decide +kernel
theorem dX13_cut_17 : decode cX13_cut 17 = .ok (.iconst 1, 1) := by decide +kernel
theorem dX13_cut_18 : decode cX13_cut 18 = .ok (.goto 4, 3) := by decide +kernel
theorem dX13_cut_21 : decode cX13_cut 21 = .ok (.iconst 0, 1) := by decide +kernel
theorem dX13_cut_22 : decode cX13_cut 22 = .ok (.iconst 1, 1) := by decide +kernel
theorem dX13_cut_23 : decode cX13_cut 23 = .ok (.invokevirtual 428, 3) := by decide +kernel
theorem dX13_cut_26 : decode cX13_cut 26 = .ok (.ifCond .eq 5, 3) := by decide +kernel
theorem dX13_cut_29 : decode cX13_cut 29 = .ok (.iconst 0, 1) := by decide +kernel
theorem dX13_cut_30 : decode cX13_cut 30 = .ok (.ireturn, 1) := by decide +kernel
theorem dX13_cut_31 : decode cX13_cut 31 = .ok (.aload_n 0, 1) := by decide +kernel
theorem dX13_cut_32 : decode cX13_cut 32 = .ok (.invokevirtual 488, 3) := by decide +kernel
theorem dX13_cut_35 : decode cX13_cut 35 = .ok (.aload_n 0, 1) := by decide +kernel
theorem dX13_cut_36 : decode cX13_cut 36 = .ok (.aload_n 0, 1) := by decide +kernel
theorem dX13_cut_37 : decode cX13_cut 37 = .ok (.iload_n 1, 1) := by decide +kernel
theorem dX13_cut_38 : decode cX13_cut 38 = .ok (.invokevirtual 403, 3) := by decide +kernel
theorem dX13_cut_41 : decode cX13_cut 41 = .ok (.invokevirtual 491, 3) := by decide +kernel
theorem dX13_cut_44 : decode cX13_cut 44 = .ok (.ireturn, 1) := by decide +kernel
theorem dX13_set_0 : decode cX13_set 0 = .ok (.aload_n 0, 1) := by decide +kernel
theorem dX13_set_1 : decode cX13_set 1 = .ok (.iconst 0, 1) := by decide +kernel
theorem dX13_set_2 : decode cX13_set 2 = .ok (.putfield 100, 3) := by decide +kernel
theorem dX13_set_5 : decode cX13_set 5 = .ok (.aload_n 0, 1) := by decide +kernel
theorem dX13_set_6 : decode cX13_set 6 = .ok (.iload_n 1, 1) := by decide +kernel
theorem dX13_set_7 : decode cX13_set 7 = .ok (.iconst 4, 1) := by decide +kernel
theorem dX13_set_8 : decode cX13_set 8 = .ok (.bipush 6, 2) := by decide +kernel
theorem dX13_set_10 : decode cX13_set 10 = .ok (.invokestatic 224, 3) := by decide +kernel
theorem dX13_set_13 : decode cX13_set 13 = .ok (.ifCond .eq 22, 3) := by decide +kernel
theorem dX13_set_16 : decode cX13_set 16 = .ok (.iload_n 2, 1) := by decide +kernel
theorem dX13_set_17 : decode cX13_set 17 = .ok (.iload_n 1, 1) := by decide +kernel
theorem dX13_set_18 : decode cX13_set 18 = .ok (.iconst 4, 1) := by decide +kernel
theorem dX13_set_19 : decode cX13_set 19 = .ok (.isub, 1) := by decide +kernel
theorem dX13_set_20 : decode cX13_set 20 = .ok (.invokestatic 301, 3) := by decide +kernel
theorem dX13_set_23 : decode cX13_set 23 = .ok (.iload_n 1, 1) := by decide +kernel
theorem dX13_set_24 : decode cX13_set 24 = .ok (.iconst 4, 1) := by decide +kernel
theorem dX13_set_25 : decode cX13_set 25 = .ok (.isub, 1) := by decide +kernel
theorem dX13_set_26 : decode cX13_set 26 = .ok (.invokestatic 304, 3) := by decide +kernel
theorem dX13_set_29 : decode cX13_set 29 = .ok (.invokestatic 224, 3) := by decide +kernel
theorem dX13_set_32 : decode cX13_set 32 = .ok (.ifCond .ne 7, 3) := by decide +kernel
theorem dX13_set_35 : decode cX13_set 35 = .ok (.iconst 1, 1) := by decide +kernel
theorem dX13_set_36 : decode cX13_set 36 = .ok (.goto 4, 3) := by decide +kernel
theorem dX13_set_39 : decode cX13_set 39 = .ok (.iconst 0, 1) := by decide +kernel
theorem dX13_set_40 : decode cX13_set 40 = .ok (.iconst 1, 1) := by decide +kernel
theorem dX13_set_41 : decode cX13_set 41 = .ok (.invokevirtual 428, 3) := by decide +kernel
theorem dX13_set_44 : decode cX13_set 44 = .ok (.ifCond .eq 5, 3) := by decide +kernel
theorem dX13_set_47 : decode cX13_set 47 = .ok (.iconst 0, 1) := by decide +kernel
theorem dX13_set_48 : decode cX13_set 48 = .ok (.ireturn, 1) := by decide +kernel
theorem dX13_set_49 : decode cX13_set 49 = .ok (.aload_n 0, 1) := by decide +kernel
theorem dX13_set_50 : decode cX13_set 50 = .ok (.invokevirtual 488, 3) := by decide +kernel
theorem dX13_set_53 : decode cX13_set 53 = .ok (.aload_n 0, 1) := by decide +kernel
theorem dX13_set_54 : decode cX13_set 54 = .ok (.aload_n 0, 1) := by decide +kernel
theorem dX13_set_55 : decode cX13_set 55 = .ok (.iload_n 1, 1) := by decide +kernel
theorem dX13_set_56 : decode cX13_set 56 = .ok (.iconst 4, 1) := by decide +kernel
theorem dX13_set_57 : decode cX13_set 57 = .ok (.isub, 1) := by decide +kernel
theorem dX13_set_58 : decode cX13_set 58 = .ok (.iload_n 2, 1) := by decide +kernel
theorem dX13_set_59 : decode cX13_set 59 = .ok (.invokevirtual 406, 3) := by decide +kernel
theorem dX13_set_62 : decode cX13_set 62 = .ok (.invokevirtual 491, 3) := by decide +kernel
theorem dX13_set_65 : decode cX13_set 65 = .ok (.ireturn, 1) := by decide +kernel
theorem dX13_writes_0 : decode cX13_writes 0 = .ok (.aload_n 0, 1) := by decide +kernel
theorem dX13_writes_1 : decode cX13_writes 1 = .ok (.getfield 87, 3) := by decide +kernel
theorem dX13_writes_4 : decode cX13_writes 4 = .ok (.aload_n 0, 1) := by decide +kernel
theorem dX13_writes_5 : decode cX13_writes 5 = .ok (.getfield 494, 3) := by decide +kernel
theorem dX13_writes_8 : decode cX13_writes 8 = .ok (.iload_n 1, 1) := by decide +kernel
theorem dX13_writes_9 : decode cX13_writes 9 = .ok (.iastore, 1) := by decide +kernel
theorem dX13_writes_10 : decode cX13_writes 10 = .ok (.aload_n 0, 1) := by decide +kernel
theorem dX13_writes_11 : decode cX13_writes 11 = .ok (.dup, 1) := by decide +kernel
theorem dX13_writes_12 : decode cX13_writes 12 = .ok (.getfield 494, 3) := by decide +kernel
theorem dX13_writes_15 : decode cX13_writes 15 = .ok (.iconst 1, 1) := by decide +kernel
theorem dX13_writes_16 : decode cX13_writes 16 = .ok (.iadd, 1) := by decide +kernel
theorem dX13_writes_17 : decode cX13_writes 17 = .ok (.putfield 494, 3) := by decide +kernel
theorem dX13_writes_20 : decode cX13_writes 20 = .ok (.return_, 1) := by decide +kernel
theorem dX13_writesNumber_0 : decode cX13_writesNumber 0 = .ok (.iload_n 1, 1) := by decide +kernel
theorem dX13_writesNumber_1 : decode cX13_writesNumber 1 = .ok (.bipush 9, 2) := by decide +kernel
theorem dX13_writesNumber_3 : decode cX13_writesNumber 3 = .ok (.if_icmp .le 14, 3) := by decide +kernel
theorem dX13_writesNumber_6 : decode cX13_writesNumber 6 = .ok (.aload_n 0, 1) := by decide +kernel
theorem dX13_writesNumber_7 : decode cX13_writesNumber 7 = .ok (.bipush 48, 2) := by decide +kernel
theorem dX13_writesNumber_9 : decode cX13_writesNumber 9 = .ok (.iload_n 1, 1) := by decide +kernel
theorem dX13_writesNumber_10 : decode cX13_writesNumber 10 = .ok (.bipush 10, 2) := by decide +kernel
theorem dX13_writesNumber_12 : decode cX13_writesNumber 12 = .ok (.idiv, 1) := by decide +kernel
theorem dX13_writesNumber_13 : decode cX13_writesNumber 13 = .ok (.iadd, 1) := by decide +kernel
theorem dX13_writesNumber_14 : decode cX13_writesNumber 14 = .ok (.invokevirtual 497, 3) := by decide +kernel
theorem dX13_writesNumber_17 : decode cX13_writesNumber 17 = .ok (.aload_n 0, 1) := by decide +kernel
theorem dX13_writesNumber_18 : decode cX13_writesNumber 18 = .ok (.bipush 48, 2) := by decide +kernel
theorem dX13_writesNumber_20 : decode cX13_writesNumber 20 = .ok (.iload_n 1, 1) := by decide +kernel
theorem dX13_writesNumber_21 : decode cX13_writesNumber 21 = .ok (.bipush 10, 2) := by decide +kernel
theorem dX13_writesNumber_23 : decode cX13_writesNumber 23 = .ok (.irem, 1) := by decide +kernel
theorem dX13_writesNumber_24 : decode cX13_writesNumber 24 = .ok (.iadd, 1) := by decide +kernel
theorem dX13_writesNumber_25 : decode cX13_writesNumber 25 = .ok (.invokevirtual 497, 3) := by decide +kernel
theorem dX13_writesNumber_28 : decode cX13_writesNumber 28 = .ok (.return_, 1) := by decide +kernel
theorem dX13_writesRow_0 : decode cX13_writesRow 0 = .ok (.iconst 0, 1) := by decide +kernel
theorem dX13_writesRow_1 : decode cX13_writesRow 1 = .ok (.istore_n 2, 1) := by decide +kernel
theorem dX13_writesRow_2 : decode cX13_writesRow 2 = .ok (.iload_n 2, 1) := by decide +kernel
theorem dX13_writesRow_3 : decode cX13_writesRow 3 = .ok (.aload_n 0, 1) := by decide +kernel
theorem dX13_writesRow_4 : decode cX13_writesRow 4 = .ok (.iload_n 1, 1) := by decide +kernel
theorem dX13_writesRow_5 : decode cX13_writesRow 5 = .ok (.invokevirtual 103, 3) := by decide +kernel
theorem dX13_writesRow_8 : decode cX13_writesRow 8 = .ok (.if_icmp .ge 53, 3) := by decide +kernel
theorem dX13_writesRow_11 : decode cX13_writesRow 11 = .ok (.aload_n 0, 1) := by decide +kernel
theorem dX13_writesRow_12 : decode cX13_writesRow 12 = .ok (.iload_n 1, 1) := by decide +kernel
theorem dX13_writesRow_13 : decode cX13_writesRow 13 = .ok (.iload_n 2, 1) := by decide +kernel
theorem dX13_writesRow_14 : decode cX13_writesRow 14 = .ok (.invokevirtual 119, 3) := by decide +kernel
theorem dX13_writesRow_17 : decode cX13_writesRow 17 = .ok (.istore_n 3, 1) := by decide +kernel
theorem dX13_writesRow_18 : decode cX13_writesRow 18 = .ok (.iload_n 3, 1) := by decide +kernel
theorem dX13_writesRow_19 : decode cX13_writesRow 19 = .ok (.bipush 26, 2) := by decide +kernel
theorem dX13_writesRow_21 : decode cX13_writesRow 21 = .ok (.if_icmp .ge 14, 3) := by decide +kernel
theorem dX13_writesRow_24 : decode cX13_writesRow 24 = .ok (.aload_n 0, 1) := by decide +kernel
theorem dX13_writesRow_25 : decode cX13_writesRow 25 = .ok (.bipush 97, 2) := by decide +kernel
theorem dX13_writesRow_27 : decode cX13_writesRow 27 = .ok (.iload_n 3, 1) := by decide +kernel
theorem dX13_writesRow_28 : decode cX13_writesRow 28 = .ok (.iadd, 1) := by decide +kernel
theorem dX13_writesRow_29 : decode cX13_writesRow 29 = .ok (.invokevirtual 497, 3) := by decide +kernel
theorem dX13_writesRow_32 : decode cX13_writesRow 32 = .ok (.goto 23, 3) := by decide +kernel
theorem dX13_writesRow_35 : decode cX13_writesRow 35 = .ok (.aload_n 0, 1) := by decide +kernel
theorem dX13_writesRow_36 : decode cX13_writesRow 36 = .ok (.bipush 40, 2) := by decide +kernel
theorem dX13_writesRow_38 : decode cX13_writesRow 38 = .ok (.invokevirtual 497, 3) := by decide +kernel
theorem dX13_writesRow_41 : decode cX13_writesRow 41 = .ok (.aload_n 0, 1) := by decide +kernel
theorem dX13_writesRow_42 : decode cX13_writesRow 42 = .ok (.iload_n 3, 1) := by decide +kernel
theorem dX13_writesRow_43 : decode cX13_writesRow 43 = .ok (.bipush 26, 2) := by decide +kernel
theorem dX13_writesRow_45 : decode cX13_writesRow 45 = .ok (.isub, 1) := by decide +kernel
theorem dX13_writesRow_46 : decode cX13_writesRow 46 = .ok (.invokevirtual 500, 3) := by decide +kernel
theorem dX13_writesRow_49 : decode cX13_writesRow 49 = .ok (.aload_n 0, 1) := by decide +kernel
theorem dX13_writesRow_50 : decode cX13_writesRow 50 = .ok (.bipush 41, 2) := by decide +kernel
theorem dX13_writesRow_52 : decode cX13_writesRow 52 = .ok (.invokevirtual 497, 3) := by decide +kernel
theorem dX13_writesRow_55 : decode cX13_writesRow 55 = .ok (.iinc 2 1, 3) := by decide +kernel
theorem dX13_writesRow_58 : decode cX13_writesRow 58 = .ok (.goto (-56), 3) := by decide +kernel
theorem dX13_writesRow_61 : decode cX13_writesRow 61 = .ok (.return_, 1) := by decide +kernel
theorem dX13_report_0 : decode cX13_report 0 = .ok (.aload_n 0, 1) := by decide +kernel
theorem dX13_report_1 : decode cX13_report 1 = .ok (.iconst 0, 1) := by decide +kernel
theorem dX13_report_2 : decode cX13_report 2 = .ok (.putfield 100, 3) := by decide +kernel
theorem dX13_report_5 : decode cX13_report 5 = .ok (.aload_n 0, 1) := by decide +kernel
theorem dX13_report_6 : decode cX13_report 6 = .ok (.iconst 0, 1) := by decide +kernel
theorem dX13_report_7 : decode cX13_report 7 = .ok (.putfield 494, 3) := by decide +kernel
theorem dX13_report_10 : decode cX13_report 10 = .ok (.aload_n 0, 1) := by decide +kernel
theorem dX13_report_11 : decode cX13_report 11 = .ok (.iconst 0, 1) := by decide +kernel
theorem dX13_report_12 : decode cX13_report 12 = .ok (.invokevirtual 503, 3) := by decide +kernel
theorem dX13_report_15 : decode cX13_report 15 = .ok (.iconst 0, 1) := by decide +kernel
theorem dX13_report_16 : decode cX13_report 16 = .ok (.istore_n 1, 1) := by decide +kernel
theorem dX13_report_17 : decode cX13_report 17 = .ok (.iload_n 1, 1) := by decide +kernel
theorem dX13_report_18 : decode cX13_report 18 = .ok (.bipush 40, 2) := by decide +kernel
theorem dX13_report_20 : decode cX13_report 20 = .ok (.if_icmp .ge 44, 3) := by decide +kernel
theorem dX13_report_23 : decode cX13_report 23 = .ok (.aload_n 0, 1) := by decide +kernel
theorem dX13_report_24 : decode cX13_report 24 = .ok (.iload_n 1, 1) := by decide +kernel
theorem dX13_report_25 : decode cX13_report 25 = .ok (.invokevirtual 111, 3) := by decide +kernel
theorem dX13_report_28 : decode cX13_report 28 = .ok (.ifCond .ne 6, 3) := by decide +kernel
theorem dX13_report_31 : decode cX13_report 31 = .ok (.goto 27, 3) := by decide +kernel
theorem dX13_report_34 : decode cX13_report 34 = .ok (.aload_n 0, 1) := by decide +kernel
theorem dX13_report_35 : decode cX13_report 35 = .ok (.bipush 32, 2) := by decide +kernel
theorem dX13_report_37 : decode cX13_report 37 = .ok (.invokevirtual 497, 3) := by decide +kernel
theorem dX13_report_40 : decode cX13_report 40 = .ok (.aload_n 0, 1) := by decide +kernel
theorem dX13_report_41 : decode cX13_report 41 = .ok (.iload_n 1, 1) := by decide +kernel
theorem dX13_report_42 : decode cX13_report 42 = .ok (.invokevirtual 500, 3) := by decide +kernel
theorem dX13_report_45 : decode cX13_report 45 = .ok (.aload_n 0, 1) := by decide +kernel
theorem dX13_report_46 : decode cX13_report 46 = .ok (.bipush 61, 2) := by decide +kernel
theorem dX13_report_48 : decode cX13_report 48 = .ok (.invokevirtual 497, 3) := by decide +kernel
theorem dX13_report_51 : decode cX13_report 51 = .ok (.aload_n 0, 1) := by decide +kernel
theorem dX13_report_52 : decode cX13_report 52 = .ok (.iload_n 1, 1) := by decide +kernel
theorem dX13_report_53 : decode cX13_report 53 = .ok (.iconst 1, 1) := by decide +kernel
theorem dX13_report_54 : decode cX13_report 54 = .ok (.iadd, 1) := by decide +kernel
theorem dX13_report_55 : decode cX13_report 55 = .ok (.invokevirtual 503, 3) := by decide +kernel
theorem dX13_report_58 : decode cX13_report 58 = .ok (.iinc 1 1, 3) := by decide +kernel
theorem dX13_report_61 : decode cX13_report 61 = .ok (.goto (-44), 3) := by decide +kernel
theorem dX13_report_64 : decode cX13_report 64 = .ok (.aload_n 0, 1) := by decide +kernel
theorem dX13_report_65 : decode cX13_report 65 = .ok (.getfield 494, 3) := by decide +kernel
theorem dX13_report_68 : decode cX13_report 68 = .ok (.ireturn, 1) := by decide +kernel
theorem dX13_reportByte_0 : decode cX13_reportByte 0 = .ok (.aload_n 0, 1) := by decide +kernel
theorem dX13_reportByte_1 : decode cX13_reportByte 1 = .ok (.iconst 0, 1) := by decide +kernel
theorem dX13_reportByte_2 : decode cX13_reportByte 2 = .ok (.putfield 100, 3) := by decide +kernel
theorem dX13_reportByte_5 : decode cX13_reportByte 5 = .ok (.iload_n 1, 1) := by decide +kernel
theorem dX13_reportByte_6 : decode cX13_reportByte 6 = .ok (.iconst 0, 1) := by decide +kernel
theorem dX13_reportByte_7 : decode cX13_reportByte 7 = .ok (.aload_n 0, 1) := by decide +kernel
theorem dX13_reportByte_8 : decode cX13_reportByte 8 = .ok (.getfield 494, 3) := by decide +kernel
theorem dX13_reportByte_11 : decode cX13_reportByte 11 = .ok (.iconst 1, 1) := by decide +kernel
theorem dX13_reportByte_12 : decode cX13_reportByte 12 = .ok (.isub, 1) := by decide +kernel
theorem dX13_reportByte_13 : decode cX13_reportByte 13 = .ok (.invokestatic 224, 3) := by decide +kernel
theorem dX13_reportByte_16 : decode cX13_reportByte 16 = .ok (.ifCond .eq 12, 3) := by decide +kernel
theorem dX13_reportByte_19 : decode cX13_reportByte 19 = .ok (.aload_n 0, 1) := by decide +kernel
theorem dX13_reportByte_20 : decode cX13_reportByte 20 = .ok (.getfield 87, 3) := by decide +kernel
theorem dX13_reportByte_23 : decode cX13_reportByte 23 = .ok (.iload_n 1, 1) := by decide +kernel
theorem dX13_reportByte_24 : decode cX13_reportByte 24 = .ok (.iaload, 1) := by decide +kernel
theorem dX13_reportByte_25 : decode cX13_reportByte 25 = .ok (.goto 4, 3) := by decide +kernel
theorem dX13_reportByte_28 : decode cX13_reportByte 28 = .ok (.iconst (-1), 1) := by decide +kernel
theorem dX13_reportByte_29 : decode cX13_reportByte 29 = .ok (.ireturn, 1) := by decide +kernel
theorem dX13_undo_0 : decode cX13_undo 0 = .ok (.aload_n 0, 1) := by decide +kernel
theorem dX13_undo_1 : decode cX13_undo 1 = .ok (.iconst 0, 1) := by decide +kernel
theorem dX13_undo_2 : decode cX13_undo 2 = .ok (.putfield 100, 3) := by decide +kernel
theorem dX13_undo_5 : decode cX13_undo 5 = .ok (.aload_n 0, 1) := by decide +kernel
theorem dX13_undo_6 : decode cX13_undo 6 = .ok (.aload_n 0, 1) := by decide +kernel
theorem dX13_undo_7 : decode cX13_undo 7 = .ok (.getfield 342, 3) := by decide +kernel
theorem dX13_undo_10 : decode cX13_undo 10 = .ok (.ifCond .ne 7, 3) := by decide +kernel
theorem dX13_undo_13 : decode cX13_undo 13 = .ok (.iconst 1, 1) := by decide +kernel
theorem dX13_undo_14 : decode cX13_undo 14 = .ok (.goto 4, 3) := by decide +kernel
theorem dX13_undo_17 : decode cX13_undo 17 = .ok (.iconst 0, 1) := by decide +kernel
theorem dX13_undo_18 : decode cX13_undo 18 = .ok (.iconst 1, 1) := by decide +kernel
theorem dX13_undo_19 : decode cX13_undo 19 = .ok (.invokevirtual 428, 3) := by decide +kernel
theorem dX13_undo_22 : decode cX13_undo 22 = .ok (.ifCond .eq 5, 3) := by decide +kernel
theorem dX13_undo_25 : decode cX13_undo 25 = .ok (.iconst 0, 1) := by decide +kernel
theorem dX13_undo_26 : decode cX13_undo 26 = .ok (.ireturn, 1) := by decide +kernel
theorem dX13_undo_27 : decode cX13_undo 27 = .ok (.aload_n 0, 1) := by decide +kernel
theorem dX13_undo_28 : decode cX13_undo 28 = .ok (.dup, 1) := by decide +kernel
theorem dX13_undo_29 : decode cX13_undo 29 = .ok (.getfield 342, 3) := by decide +kernel
theorem dX13_undo_32 : decode cX13_undo 32 = .ok (.iconst 1, 1) := by decide +kernel
theorem dX13_undo_33 : decode cX13_undo 33 = .ok (.isub, 1) := by decide +kernel
theorem dX13_undo_34 : decode cX13_undo 34 = .ok (.putfield 342, 3) := by decide +kernel
theorem dX13_undo_37 : decode cX13_undo 37 = .ok (.aload_n 0, 1) := by decide +kernel
theorem dX13_undo_38 : decode cX13_undo 38 = .ok (.getfield 20, 3) := by decide +kernel
theorem dX13_undo_41 : decode cX13_undo 41 = .ok (.sipush 16860, 3) := by decide +kernel
theorem dX13_undo_44 : decode cX13_undo 44 = .ok (.aload_n 0, 1) := by decide +kernel
theorem dX13_undo_45 : decode cX13_undo 45 = .ok (.getfield 342, 3) := by decide +kernel
theorem dX13_undo_48 : decode cX13_undo 48 = .ok (.imul, 1) := by decide +kernel
theorem dX13_undo_49 : decode cX13_undo 49 = .ok (.aload_n 0, 1) := by decide +kernel
theorem dX13_undo_50 : decode cX13_undo 50 = .ok (.getfield 9, 3) := by decide +kernel
theorem dX13_undo_53 : decode cX13_undo 53 = .ok (.iconst 0, 1) := by decide +kernel
theorem dX13_undo_54 : decode cX13_undo 54 = .ok (.invokestatic 208, 3) := by decide +kernel
theorem dX13_undo_57 : decode cX13_undo 57 = .ok (.aload_n 0, 1) := by decide +kernel
theorem dX13_undo_58 : decode cX13_undo 58 = .ok (.getfield 342, 3) := by decide +kernel
theorem dX13_undo_61 : decode cX13_undo 61 = .ok (.ireturn, 1) := by decide +kernel
theorem dX13_noSlot_0 : decode cX13_noSlot 0 = .ok (.aload_n 0, 1) := by decide +kernel
theorem dX13_noSlot_1 : decode cX13_noSlot 1 = .ok (.iload_n 1, 1) := by decide +kernel
theorem dX13_noSlot_2 : decode cX13_noSlot 2 = .ok (.iconst 0, 1) := by decide +kernel
theorem dX13_noSlot_3 : decode cX13_noSlot 3 = .ok (.iconst 1, 1) := by decide +kernel
theorem dX13_noSlot_4 : decode cX13_noSlot 4 = .ok (.invokestatic 224, 3) := by decide +kernel
theorem dX13_noSlot_7 : decode cX13_noSlot 7 = .ok (.ifCond .ne 7, 3) := by decide +kernel
theorem dX13_noSlot_10 : decode cX13_noSlot 10 = .ok (.iconst 1, 1) := by decide +kernel
theorem dX13_noSlot_11 : decode cX13_noSlot 11 = .ok (.goto 4, 3) := by decide +kernel
theorem dX13_noSlot_14 : decode cX13_noSlot 14 = .ok (.iconst 0, 1) := by decide +kernel
theorem dX13_noSlot_15 : decode cX13_noSlot 15 = .ok (.iconst 1, 1) := by decide +kernel
theorem dX13_noSlot_16 : decode cX13_noSlot 16 = .ok (.invokevirtual 428, 3) := by decide +kernel
theorem dX13_noSlot_19 : decode cX13_noSlot 19 = .ok (.ireturn, 1) := by decide +kernel
theorem dX13_save_0 : decode cX13_save 0 = .ok (.aload_n 0, 1) := by decide +kernel
theorem dX13_save_1 : decode cX13_save 1 = .ok (.iconst 0, 1) := by decide +kernel
theorem dX13_save_2 : decode cX13_save 2 = .ok (.putfield 100, 3) := by decide +kernel
theorem dX13_save_5 : decode cX13_save 5 = .ok (.aload_n 0, 1) := by decide +kernel
theorem dX13_save_6 : decode cX13_save 6 = .ok (.iload_n 1, 1) := by decide +kernel
theorem dX13_save_7 : decode cX13_save 7 = .ok (.invokevirtual 506, 3) := by decide +kernel
theorem dX13_save_10 : decode cX13_save 10 = .ok (.ifCond .eq 5, 3) := by decide +kernel
theorem dX13_save_13 : decode cX13_save 13 = .ok (.iconst 0, 1) := by decide +kernel
theorem dX13_save_14 : decode cX13_save 14 = .ok (.ireturn, 1) := by decide +kernel
theorem dX13_save_15 : decode cX13_save 15 = .ok (.aload_n 0, 1) := by decide +kernel
theorem dX13_save_16 : decode cX13_save 16 = .ok (.getfield 9, 3) := by decide +kernel
theorem dX13_save_19 : decode cX13_save 19 = .ok (.iconst 0, 1) := by decide +kernel
theorem dX13_save_20 : decode cX13_save 20 = .ok (.aload_n 0, 1) := by decide +kernel
theorem dX13_save_21 : decode cX13_save 21 = .ok (.getfield 24, 3) := by decide +kernel
theorem dX13_save_24 : decode cX13_save 24 = .ok (.sipush 16860, 3) := by decide +kernel
theorem dX13_save_27 : decode cX13_save 27 = .ok (.iload_n 1, 1) := by decide +kernel
theorem dX13_save_28 : decode cX13_save 28 = .ok (.imul, 1) := by decide +kernel
theorem dX13_save_29 : decode cX13_save 29 = .ok (.invokestatic 208, 3) := by decide +kernel
theorem dX13_save_32 : decode cX13_save 32 = .ok (.aload_n 0, 1) := by decide +kernel
theorem dX13_save_33 : decode cX13_save 33 = .ok (.getfield 27, 3) := by decide +kernel
theorem dX13_save_36 : decode cX13_save 36 = .ok (.iload_n 1, 1) := by decide +kernel
theorem dX13_save_37 : decode cX13_save 37 = .ok (.iconst 1, 1) := by decide +kernel
theorem dX13_save_38 : decode cX13_save 38 = .ok (.bastore, 1) := by decide +kernel
theorem dX13_save_39 : decode cX13_save 39 = .ok (.aload_n 0, 1) := by decide +kernel
theorem dX13_save_40 : decode cX13_save 40 = .ok (.invokevirtual 431, 3) := by decide +kernel
theorem dX13_save_43 : decode cX13_save 43 = .ok (.ireturn, 1) := by decide +kernel
theorem dX13_restore_0 : decode cX13_restore 0 = .ok (.aload_n 0, 1) := by decide +kernel
theorem dX13_restore_1 : decode cX13_restore 1 = .ok (.iconst 0, 1) := by decide +kernel
theorem dX13_restore_2 : decode cX13_restore 2 = .ok (.putfield 100, 3) := by decide +kernel
theorem dX13_restore_5 : decode cX13_restore 5 = .ok (.aload_n 0, 1) := by decide +kernel
theorem dX13_restore_6 : decode cX13_restore 6 = .ok (.iload_n 1, 1) := by decide +kernel
theorem dX13_restore_7 : decode cX13_restore 7 = .ok (.invokevirtual 506, 3) := by decide +kernel
theorem dX13_restore_10 : decode cX13_restore 10 = .ok (.ifCond .ne 25, 3) := by decide +kernel
theorem dX13_restore_13 : decode cX13_restore 13 = .ok (.aload_n 0, 1) := by decide +kernel
theorem dX13_restore_14 : decode cX13_restore 14 = .ok (.aload_n 0, 1) := by decide +kernel
theorem dX13_restore_15 : decode cX13_restore 15 = .ok (.getfield 27, 3) := by decide +kernel
theorem dX13_restore_18 : decode cX13_restore 18 = .ok (.iload_n 1, 1) := by decide +kernel
theorem dX13_restore_19 : decode cX13_restore 19 = .ok (.baload, 1) := by decide +kernel
theorem dX13_restore_20 : decode cX13_restore 20 = .ok (.ifCond .ne 7, 3) := by decide +kernel
theorem dX13_restore_23 : decode cX13_restore 23 = .ok (.iconst 1, 1) := by decide +kernel
theorem dX13_restore_24 : decode cX13_restore 24 = .ok (.goto 4, 3) := by decide +kernel
theorem dX13_restore_27 : decode cX13_restore 27 = .ok (.iconst 0, 1) := by decide +kernel
theorem dX13_restore_28 : decode cX13_restore 28 = .ok (.iconst 2, 1) := by decide +kernel
theorem dX13_restore_29 : decode cX13_restore 29 = .ok (.invokevirtual 428, 3) := by decide +kernel
theorem dX13_restore_32 : decode cX13_restore 32 = .ok (.ifCond .eq 5, 3) := by decide +kernel
theorem dX13_restore_35 : decode cX13_restore 35 = .ok (.iconst 0, 1) := by decide +kernel
theorem dX13_restore_36 : decode cX13_restore 36 = .ok (.ireturn, 1) := by decide +kernel
theorem dX13_restore_37 : decode cX13_restore 37 = .ok (.aload_n 0, 1) := by decide +kernel
theorem dX13_restore_38 : decode cX13_restore 38 = .ok (.getfield 24, 3) := by decide +kernel
theorem dX13_restore_41 : decode cX13_restore 41 = .ok (.sipush 16860, 3) := by decide +kernel
theorem dX13_restore_44 : decode cX13_restore 44 = .ok (.iload_n 1, 1) := by decide +kernel
theorem dX13_restore_45 : decode cX13_restore 45 = .ok (.imul, 1) := by decide +kernel
theorem dX13_restore_46 : decode cX13_restore 46 = .ok (.aload_n 0, 1) := by decide +kernel
theorem dX13_restore_47 : decode cX13_restore 47 = .ok (.getfield 9, 3) := by decide +kernel
theorem dX13_restore_50 : decode cX13_restore 50 = .ok (.iconst 0, 1) := by decide +kernel
theorem dX13_restore_51 : decode cX13_restore 51 = .ok (.invokestatic 208, 3) := by decide +kernel
theorem dX13_restore_54 : decode cX13_restore 54 = .ok (.aload_n 0, 1) := by decide +kernel
theorem dX13_restore_55 : decode cX13_restore 55 = .ok (.iconst 0, 1) := by decide +kernel
theorem dX13_restore_56 : decode cX13_restore 56 = .ok (.putfield 342, 3) := by decide +kernel
theorem dX13_restore_59 : decode cX13_restore 59 = .ok (.aload_n 0, 1) := by decide +kernel
theorem dX13_restore_60 : decode cX13_restore 60 = .ok (.invokevirtual 431, 3) := by decide +kernel
theorem dX13_restore_63 : decode cX13_restore 63 = .ok (.ireturn, 1) := by decide +kernel
theorem dJx29ce0_ordinal_8abf5_0 : decode cJx29ce0_ordinal_8abf5 0 = .ok (.aload_n 0, 1) := by decide +kernel
theorem dJx29ce0_ordinal_8abf5_1 : decode cJx29ce0_ordinal_8abf5 1 = .ok (.getfield 7, 3) := by decide +kernel
theorem dJx29ce0_ordinal_8abf5_4 : decode cJx29ce0_ordinal_8abf5 4 = .ok (.ireturn, 1) := by decide +kernel
theorem dJxf58ca_isNaN_12338_0 : decode cJxf58ca_isNaN_12338 0 = .ok (.fload_n 0, 1) := by decide +kernel
theorem dJxf58ca_isNaN_12338_1 : decode cJxf58ca_isNaN_12338 1 = .ok (.fload_n 0, 1) := by decide +kernel
theorem dJxf58ca_isNaN_12338_2 : decode cJxf58ca_isNaN_12338 2 = .ok (.fcmp .l, 1) := by decide +kernel
theorem dJxf58ca_isNaN_12338_3 : decode cJxf58ca_isNaN_12338 3 = .ok (.ifCond .eq 7, 3) := by decide +kernel
theorem dJxf58ca_isNaN_12338_6 : decode cJxf58ca_isNaN_12338 6 = .ok (.iconst 1, 1) := by decide +kernel
theorem dJxf58ca_isNaN_12338_7 : decode cJxf58ca_isNaN_12338 7 = .ok (.goto 4, 3) := by decide +kernel
theorem dJxf58ca_isNaN_12338_10 : decode cJxf58ca_isNaN_12338 10 = .ok (.iconst 0, 1) := by decide +kernel
theorem dJxf58ca_isNaN_12338_11 : decode cJxf58ca_isNaN_12338 11 = .ok (.ireturn, 1) := by decide +kernel
theorem dJxf58ca_floatToIntBits_5c35a_0 : decode cJxf58ca_floatToIntBits_5c35a 0 = .ok (.fload_n 0, 1) := by decide +kernel
theorem dJxf58ca_floatToIntBits_5c35a_1 : decode cJxf58ca_floatToIntBits_5c35a 1 = .ok (.invokestatic 59, 3) := by decide +kernel
theorem dJxf58ca_floatToIntBits_5c35a_4 : decode cJxf58ca_floatToIntBits_5c35a 4 = .ok (.ifCond .ne 8, 3) := by decide +kernel
theorem dJxf58ca_floatToIntBits_5c35a_7 : decode cJxf58ca_floatToIntBits_5c35a 7 = .ok (.fload_n 0, 1) := by decide +kernel
theorem dJxf58ca_floatToIntBits_5c35a_8 : decode cJxf58ca_floatToIntBits_5c35a 8 = .ok (.invokestatic 74, 3) := by decide +kernel
theorem dJxf58ca_floatToIntBits_5c35a_11 : decode cJxf58ca_floatToIntBits_5c35a 11 = .ok (.ireturn, 1) := by decide +kernel
theorem dJxf58ca_floatToIntBits_5c35a_12 : decode cJxf58ca_floatToIntBits_5c35a 12 = .ok (.ldc 77, 2) := by decide +kernel
theorem dJxf58ca_floatToIntBits_5c35a_14 : decode cJxf58ca_floatToIntBits_5c35a 14 = .ok (.ireturn, 1) := by decide +kernel
theorem dJ9_abs_0f7a4_0 : decode cJ9_abs_0f7a4 0 = .ok (.iload_n 0, 1) := by decide +kernel
theorem dJ9_abs_0f7a4_1 : decode cJ9_abs_0f7a4 1 = .ok (.ifCond .ge 8, 3) := by decide +kernel
theorem dJ9_abs_0f7a4_4 : decode cJ9_abs_0f7a4 4 = .ok (.iload_n 0, 1) := by decide +kernel
theorem dJ9_abs_0f7a4_5 : decode cJ9_abs_0f7a4 5 = .ok (.ineg, 1) := by decide +kernel
theorem dJ9_abs_0f7a4_6 : decode cJ9_abs_0f7a4 6 = .ok (.goto 4, 3) := by decide +kernel
theorem dJ9_abs_0f7a4_9 : decode cJ9_abs_0f7a4 9 = .ok (.iload_n 0, 1) := by decide +kernel
theorem dJ9_abs_0f7a4_10 : decode cJ9_abs_0f7a4 10 = .ok (.ireturn, 1) := by decide +kernel
theorem dJ9_max_7cf53_0 : decode cJ9_max_7cf53 0 = .ok (.iload_n 0, 1) := by decide +kernel
theorem dJ9_max_7cf53_1 : decode cJ9_max_7cf53 1 = .ok (.iload_n 1, 1) := by decide +kernel
theorem dJ9_max_7cf53_2 : decode cJ9_max_7cf53 2 = .ok (.if_icmp .lt 7, 3) := by decide +kernel
theorem dJ9_max_7cf53_5 : decode cJ9_max_7cf53 5 = .ok (.iload_n 0, 1) := by decide +kernel
theorem dJ9_max_7cf53_6 : decode cJ9_max_7cf53 6 = .ok (.goto 4, 3) := by decide +kernel
theorem dJ9_max_7cf53_9 : decode cJ9_max_7cf53 9 = .ok (.iload_n 1, 1) := by decide +kernel
theorem dJ9_max_7cf53_10 : decode cJ9_max_7cf53 10 = .ok (.ireturn, 1) := by decide +kernel
theorem dJ9_min_7cf53_0 : decode cJ9_min_7cf53 0 = .ok (.iload_n 0, 1) := by decide +kernel
theorem dJ9_min_7cf53_1 : decode cJ9_min_7cf53 1 = .ok (.iload_n 1, 1) := by decide +kernel
theorem dJ9_min_7cf53_2 : decode cJ9_min_7cf53 2 = .ok (.if_icmp .gt 7, 3) := by decide +kernel
theorem dJ9_min_7cf53_5 : decode cJ9_min_7cf53 5 = .ok (.iload_n 0, 1) := by decide +kernel
theorem dJ9_min_7cf53_6 : decode cJ9_min_7cf53 6 = .ok (.goto 4, 3) := by decide +kernel
theorem dJ9_min_7cf53_9 : decode cJ9_min_7cf53 9 = .ok (.iload_n 1, 1) := by decide +kernel
theorem dJ9_min_7cf53_10 : decode cJ9_min_7cf53 10 = .ok (.ireturn, 1) := by decide +kernel
theorem dJ0_length_8abf5_0 : decode cJ0_length_8abf5 0 = .ok (.aload_n 0, 1) := by decide +kernel
theorem dJ0_length_8abf5_1 : decode cJ0_length_8abf5 1 = .ok (.getfield 9, 3) := by decide +kernel
theorem dJ0_length_8abf5_4 : decode cJ0_length_8abf5 4 = .ok (.arraylength, 1) := by decide +kernel
theorem dJ0_length_8abf5_5 : decode cJ0_length_8abf5 5 = .ok (.aload_n 0, 1) := by decide +kernel
theorem dJ0_length_8abf5_6 : decode cJ0_length_8abf5 6 = .ok (.invokevirtual 335, 3) := by decide +kernel
theorem dJ0_length_8abf5_9 : decode cJ0_length_8abf5 9 = .ok (.ishr, 1) := by decide +kernel
theorem dJ0_length_8abf5_10 : decode cJ0_length_8abf5 10 = .ok (.ireturn, 1) := by decide +kernel
theorem dJ0_charAt_5068e_0 : decode cJ0_charAt_5068e 0 = .ok (.aload_n 0, 1) := by decide +kernel
theorem dJ0_charAt_5068e_1 : decode cJ0_charAt_5068e 1 = .ok (.invokevirtual 492, 3) := by decide +kernel
theorem dJ0_charAt_5068e_4 : decode cJ0_charAt_5068e 4 = .ok (.ifCond .eq 12, 3) := by decide +kernel
theorem dJ0_charAt_5068e_7 : decode cJ0_charAt_5068e 7 = .ok (.aload_n 0, 1) := by decide +kernel
theorem dJ0_charAt_5068e_8 : decode cJ0_charAt_5068e 8 = .ok (.getfield 9, 3) := by decide +kernel
theorem dJ0_charAt_5068e_11 : decode cJ0_charAt_5068e 11 = .ok (.iload_n 1, 1) := by decide +kernel
theorem dJ0_charAt_5068e_12 : decode cJ0_charAt_5068e 12 = .ok (.invokestatic 495, 3) := by decide +kernel
theorem dJ0_charAt_5068e_15 : decode cJ0_charAt_5068e 15 = .ok (.ireturn, 1) := by decide +kernel
theorem dJ0_charAt_5068e_16 : decode cJ0_charAt_5068e 16 = .ok (.aload_n 0, 1) := by decide +kernel
theorem dJ0_charAt_5068e_17 : decode cJ0_charAt_5068e 17 = .ok (.getfield 9, 3) := by decide +kernel
theorem dJ0_charAt_5068e_20 : decode cJ0_charAt_5068e 20 = .ok (.iload_n 1, 1) := by decide +kernel
theorem dJ0_charAt_5068e_21 : decode cJ0_charAt_5068e 21 = .ok (.invokestatic 498, 3) := by decide +kernel
theorem dJ0_charAt_5068e_24 : decode cJ0_charAt_5068e 24 = .ok (.ireturn, 1) := by decide +kernel
theorem dJ0_coder_7d493_0 : decode cJ0_coder_7d493 0 = .ok (.getstatic 38, 3) := by decide +kernel
theorem dJ0_coder_7d493_3 : decode cJ0_coder_7d493 3 = .ok (.ifCond .eq 10, 3) := by decide +kernel
theorem dJ0_coder_7d493_6 : decode cJ0_coder_7d493 6 = .ok (.aload_n 0, 1) := by decide +kernel
theorem dJ0_coder_7d493_7 : decode cJ0_coder_7d493 7 = .ok (.getfield 15, 3) := by decide +kernel
theorem dJ0_coder_7d493_10 : decode cJ0_coder_7d493 10 = .ok (.goto 4, 3) := by decide +kernel
theorem dJ0_coder_7d493_13 : decode cJ0_coder_7d493 13 = .ok (.iconst 1, 1) := by decide +kernel
theorem dJ0_coder_7d493_14 : decode cJ0_coder_7d493 14 = .ok (.ireturn, 1) := by decide +kernel
theorem dJ0_isLatin1_aae02_0 : decode cJ0_isLatin1_aae02 0 = .ok (.getstatic 38, 3) := by decide +kernel
theorem dJ0_isLatin1_aae02_3 : decode cJ0_isLatin1_aae02 3 = .ok (.ifCond .eq 14, 3) := by decide +kernel
theorem dJ0_isLatin1_aae02_6 : decode cJ0_isLatin1_aae02 6 = .ok (.aload_n 0, 1) := by decide +kernel
theorem dJ0_isLatin1_aae02_7 : decode cJ0_isLatin1_aae02 7 = .ok (.getfield 15, 3) := by decide +kernel
theorem dJ0_isLatin1_aae02_10 : decode cJ0_isLatin1_aae02 10 = .ok (.ifCond .ne 7, 3) := by decide +kernel
theorem dJ0_isLatin1_aae02_13 : decode cJ0_isLatin1_aae02 13 = .ok (.iconst 1, 1) := by decide +kernel
theorem dJ0_isLatin1_aae02_14 : decode cJ0_isLatin1_aae02 14 = .ok (.goto 4, 3) := by decide +kernel
theorem dJ0_isLatin1_aae02_17 : decode cJ0_isLatin1_aae02 17 = .ok (.iconst 0, 1) := by decide +kernel
theorem dJ0_isLatin1_aae02_18 : decode cJ0_isLatin1_aae02 18 = .ok (.ireturn, 1) := by decide +kernel
theorem dJ0_checkIndex_df160_0 : decode cJ0_checkIndex_df160 0 = .ok (.iload_n 0, 1) := by decide +kernel
theorem dJ0_checkIndex_df160_1 : decode cJ0_checkIndex_df160 1 = .ok (.iload_n 1, 1) := by decide +kernel
theorem dJ0_checkIndex_df160_2 : decode cJ0_checkIndex_df160 2 = .ok (.getstatic 1053, 3) := by decide +kernel
theorem dJ0_checkIndex_df160_5 : decode cJ0_checkIndex_df160 5 = .ok (.invokestatic 1059, 3) := by decide +kernel
theorem dJ0_checkIndex_df160_8 : decode cJ0_checkIndex_df160 8 = .ok (.pop, 1) := by decide +kernel
theorem dJ0_checkIndex_df160_9 : decode cJ0_checkIndex_df160 9 = .ok (.return_, 1) := by decide +kernel
theorem dJ1_charAt_3b067_0 : decode cJ1_charAt_3b067 0 = .ok (.iload_n 1, 1) := by decide +kernel
theorem dJ1_charAt_3b067_1 : decode cJ1_charAt_3b067 1 = .ok (.aload_n 0, 1) := by decide +kernel
theorem dJ1_charAt_3b067_2 : decode cJ1_charAt_3b067 2 = .ok (.arraylength, 1) := by decide +kernel
theorem dJ1_charAt_3b067_3 : decode cJ1_charAt_3b067 3 = .ok (.invokestatic 9, 3) := by decide +kernel
theorem dJ1_charAt_3b067_6 : decode cJ1_charAt_3b067 6 = .ok (.aload_n 0, 1) := by decide +kernel
theorem dJ1_charAt_3b067_7 : decode cJ1_charAt_3b067 7 = .ok (.iload_n 1, 1) := by decide +kernel
theorem dJ1_charAt_3b067_8 : decode cJ1_charAt_3b067 8 = .ok (.baload, 1) := by decide +kernel
theorem dJ1_charAt_3b067_9 : decode cJ1_charAt_3b067 9 = .ok (.sipush 255, 3) := by decide +kernel
theorem dJ1_charAt_3b067_12 : decode cJ1_charAt_3b067 12 = .ok (.iand, 1) := by decide +kernel
theorem dJ1_charAt_3b067_13 : decode cJ1_charAt_3b067 13 = .ok (.i2c, 1) := by decide +kernel
theorem dJ1_charAt_3b067_14 : decode cJ1_charAt_3b067 14 = .ok (.ireturn, 1) := by decide +kernel
theorem dJ2_getChar_3b067_0 : decode cJ2_getChar_3b067 0 = .ok (.getstatic 44, 3) := by decide +kernel
theorem dJ2_getChar_3b067_3 : decode cJ2_getChar_3b067 3 = .ok (.ifCond .ne 25, 3) := by decide +kernel
theorem dJ2_getChar_3b067_6 : decode cJ2_getChar_3b067 6 = .ok (.iload_n 1, 1) := by decide +kernel
theorem dJ2_getChar_3b067_7 : decode cJ2_getChar_3b067 7 = .ok (.ifCond .lt 11, 3) := by decide +kernel
theorem dJ2_getChar_3b067_10 : decode cJ2_getChar_3b067 10 = .ok (.iload_n 1, 1) := by decide +kernel
theorem dJ2_getChar_3b067_11 : decode cJ2_getChar_3b067 11 = .ok (.aload_n 0, 1) := by decide +kernel
theorem dJ2_getChar_3b067_12 : decode cJ2_getChar_3b067 12 = .ok (.invokestatic 48, 3) := by decide +kernel
theorem dJ2_getChar_3b067_15 : decode cJ2_getChar_3b067 15 = .ok (.if_icmp .lt 13, 3) := by decide +kernel
theorem dJ2_getChar_3b067_18 : decode cJ2_getChar_3b067 18 = .ok (.new 52, 3) := by decide +kernel
theorem dJ2_getChar_3b067_21 : decode cJ2_getChar_3b067 21 = .ok (.dup, 1) := by decide +kernel
theorem dJ2_getChar_3b067_22 : decode cJ2_getChar_3b067 22 = .ok (.ldc 54, 2) := by decide +kernel
theorem dJ2_getChar_3b067_24 : decode cJ2_getChar_3b067 24 = .ok (.invokespecial 56, 3) := by decide +kernel
theorem dJ2_getChar_3b067_27 : decode cJ2_getChar_3b067 27 = .ok (.athrow, 1) := by decide +kernel
theorem dJ2_getChar_3b067_28 : decode cJ2_getChar_3b067 28 = .ok (.iload_n 1, 1) := by decide +kernel
theorem dJ2_getChar_3b067_29 : decode cJ2_getChar_3b067 29 = .ok (.iconst 1, 1) := by decide +kernel
theorem dJ2_getChar_3b067_30 : decode cJ2_getChar_3b067 30 = .ok (.ishl, 1) := by decide +kernel
theorem dJ2_getChar_3b067_31 : decode cJ2_getChar_3b067 31 = .ok (.istore_n 1, 1) := by decide +kernel
theorem dJ2_getChar_3b067_32 : decode cJ2_getChar_3b067 32 = .ok (.aload_n 0, 1) := by decide +kernel
theorem dJ2_getChar_3b067_33 : decode cJ2_getChar_3b067 33 = .ok (.iload_n 1, 1) := by decide +kernel
theorem dJ2_getChar_3b067_34 : decode cJ2_getChar_3b067 34 = .ok (.iinc 1 1, 3) := by decide +kernel
theorem dJ2_getChar_3b067_37 : decode cJ2_getChar_3b067 37 = .ok (.baload, 1) := by decide +kernel
theorem dJ2_getChar_3b067_38 : decode cJ2_getChar_3b067 38 = .ok (.sipush 255, 3) := by decide +kernel
theorem dJ2_getChar_3b067_41 : decode cJ2_getChar_3b067 41 = .ok (.iand, 1) := by decide +kernel
theorem dJ2_getChar_3b067_42 : decode cJ2_getChar_3b067 42 = .ok (.getstatic 59, 3) := by decide +kernel
theorem dJ2_getChar_3b067_45 : decode cJ2_getChar_3b067 45 = .ok (.ishl, 1) := by decide +kernel
theorem dJ2_getChar_3b067_46 : decode cJ2_getChar_3b067 46 = .ok (.aload_n 0, 1) := by decide +kernel
theorem dJ2_getChar_3b067_47 : decode cJ2_getChar_3b067 47 = .ok (.iload_n 1, 1) := by decide +kernel
theorem dJ2_getChar_3b067_48 : decode cJ2_getChar_3b067 48 = .ok (.baload, 1) := by decide +kernel
theorem dJ2_getChar_3b067_49 : decode cJ2_getChar_3b067 49 = .ok (.sipush 255, 3) := by decide +kernel
theorem dJ2_getChar_3b067_52 : decode cJ2_getChar_3b067 52 = .ok (.iand, 1) := by decide +kernel
theorem dJ2_getChar_3b067_53 : decode cJ2_getChar_3b067 53 = .ok (.getstatic 63, 3) := by decide +kernel
theorem dJ2_getChar_3b067_56 : decode cJ2_getChar_3b067 56 = .ok (.ishl, 1) := by decide +kernel
theorem dJ2_getChar_3b067_57 : decode cJ2_getChar_3b067 57 = .ok (.ior, 1) := by decide +kernel
theorem dJ2_getChar_3b067_58 : decode cJ2_getChar_3b067 58 = .ok (.i2c, 1) := by decide +kernel
theorem dJ2_getChar_3b067_59 : decode cJ2_getChar_3b067 59 = .ok (.ireturn, 1) := by decide +kernel
theorem dJ2_length_9d52b_0 : decode cJ2_length_9d52b 0 = .ok (.aload_n 0, 1) := by decide +kernel
theorem dJ2_length_9d52b_1 : decode cJ2_length_9d52b 1 = .ok (.arraylength, 1) := by decide +kernel
theorem dJ2_length_9d52b_2 : decode cJ2_length_9d52b 2 = .ok (.iconst 1, 1) := by decide +kernel
theorem dJ2_length_9d52b_3 : decode cJ2_length_9d52b 3 = .ok (.ishr, 1) := by decide +kernel
theorem dJ2_length_9d52b_4 : decode cJ2_length_9d52b 4 = .ok (.ireturn, 1) := by decide +kernel
theorem dJ2_charAt_3b067_0 : decode cJ2_charAt_3b067 0 = .ok (.iload_n 1, 1) := by decide +kernel
theorem dJ2_charAt_3b067_1 : decode cJ2_charAt_3b067 1 = .ok (.aload_n 0, 1) := by decide +kernel
theorem dJ2_charAt_3b067_2 : decode cJ2_charAt_3b067 2 = .ok (.invokestatic 67, 3) := by decide +kernel
theorem dJ2_charAt_3b067_5 : decode cJ2_charAt_3b067 5 = .ok (.aload_n 0, 1) := by decide +kernel
theorem dJ2_charAt_3b067_6 : decode cJ2_charAt_3b067 6 = .ok (.iload_n 1, 1) := by decide +kernel
theorem dJ2_charAt_3b067_7 : decode cJ2_charAt_3b067 7 = .ok (.invokestatic 71, 3) := by decide +kernel
theorem dJ2_charAt_3b067_10 : decode cJ2_charAt_3b067 10 = .ok (.ireturn, 1) := by decide +kernel
theorem dJ2_checkIndex_2214a_0 : decode cJ2_checkIndex_2214a 0 = .ok (.iload_n 0, 1) := by decide +kernel
theorem dJ2_checkIndex_2214a_1 : decode cJ2_checkIndex_2214a 1 = .ok (.aload_n 1, 1) := by decide +kernel
theorem dJ2_checkIndex_2214a_2 : decode cJ2_checkIndex_2214a 2 = .ok (.invokestatic 48, 3) := by decide +kernel
theorem dJ2_checkIndex_2214a_5 : decode cJ2_checkIndex_2214a 5 = .ok (.invokestatic 414, 3) := by decide +kernel
theorem dJ2_checkIndex_2214a_8 : decode cJ2_checkIndex_2214a 8 = .ok (.return_, 1) := by decide +kernel
theorem dJ3_checkIndex_8e157_0 : decode cJ3_checkIndex_8e157 0 = .ok (.iload_n 0, 1) := by decide +kernel
theorem dJ3_checkIndex_8e157_1 : decode cJ3_checkIndex_8e157 1 = .ok (.ifCond .lt 8, 3) := by decide +kernel
theorem dJ3_checkIndex_8e157_4 : decode cJ3_checkIndex_8e157 4 = .ok (.iload_n 0, 1) := by decide +kernel
theorem dJ3_checkIndex_8e157_5 : decode cJ3_checkIndex_8e157 5 = .ok (.iload_n 1, 1) := by decide +kernel
theorem dJ3_checkIndex_8e157_6 : decode cJ3_checkIndex_8e157 6 = .ok (.if_icmp .lt 10, 3) := by decide +kernel
theorem dJ3_checkIndex_8e157_9 : decode cJ3_checkIndex_8e157 9 = .ok (.aload_n 2, 1) := by decide +kernel
theorem dJ3_checkIndex_8e157_10 : decode cJ3_checkIndex_8e157 10 = .ok (.iload_n 0, 1) := by decide +kernel
theorem dJ3_checkIndex_8e157_11 : decode cJ3_checkIndex_8e157 11 = .ok (.iload_n 1, 1) := by decide +kernel
theorem dJ3_checkIndex_8e157_12 : decode cJ3_checkIndex_8e157 12 = .ok (.invokestatic 95, 3) := by decide +kernel
theorem dJ3_checkIndex_8e157_15 : decode cJ3_checkIndex_8e157 15 = .ok (.athrow, 1) := by decide +kernel
theorem dJ3_checkIndex_8e157_16 : decode cJ3_checkIndex_8e157 16 = .ok (.iload_n 0, 1) := by decide +kernel
theorem dJ3_checkIndex_8e157_17 : decode cJ3_checkIndex_8e157 17 = .ok (.ireturn, 1) := by decide +kernel
end
