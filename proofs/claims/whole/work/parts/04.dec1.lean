theorem dX0_init_0 : decode cX0_init 0 = .ok (.aload_n 0, 1) := by decide +kernel
theorem dX0_init_1 : decode cX0_init 1 = .ok (.invokespecial 3, 3) := by decide +kernel
theorem dX0_init_4 : decode cX0_init 4 = .ok (.aload_n 0, 1) := by decide +kernel
theorem dX0_init_5 : decode cX0_init 5 = .ok (.new 9, 3) := by decide +kernel
theorem dX0_init_8 : decode cX0_init 8 = .ok (.dup, 1) := by decide +kernel
theorem dX0_init_9 : decode cX0_init 9 = .ok (.bipush 60, 2) := by decide +kernel
theorem dX0_init_11 : decode cX0_init 11 = .ok (.invokespecial 11, 3) := by decide +kernel
theorem dX0_init_14 : decode cX0_init 14 = .ok (.putfield 14, 3) := by decide +kernel
theorem dX0_init_17 : decode cX0_init 17 = .ok (.aload_n 0, 1) := by decide +kernel
theorem dX0_init_18 : decode cX0_init 18 = .ok (.sipush 480, 3) := by decide +kernel
theorem dX0_init_21 : decode cX0_init 21 = .ok (.newarray .int, 2) := by decide +kernel
theorem dX0_init_23 : decode cX0_init 23 = .ok (.putfield 20, 3) := by decide +kernel
theorem dX0_init_26 : decode cX0_init 26 = .ok (.aload_n 0, 1) := by decide +kernel
theorem dX0_init_27 : decode cX0_init 27 = .ok (.bipush 60, 2) := by decide +kernel
theorem dX0_init_29 : decode cX0_init 29 = .ok (.newarray .int, 2) := by decide +kernel
theorem dX0_init_31 : decode cX0_init 31 = .ok (.putfield 24, 3) := by decide +kernel
theorem dX0_init_34 : decode cX0_init 34 = .ok (.aload_n 0, 1) := by decide +kernel
theorem dX0_init_35 : decode cX0_init 35 = .ok (.bipush 16, 2) := by decide +kernel
theorem dX0_init_37 : decode cX0_init 37 = .ok (.newarray .int, 2) := by decide +kernel
theorem dX0_init_39 : decode cX0_init 39 = .ok (.putfield 27, 3) := by decide +kernel
theorem dX0_init_42 : decode cX0_init 42 = .ok (.return_, 1) := by decide +kernel
theorem dX0_isTold_0 : decode cX0_isTold 0 = .ok (.iload_n 1, 1) := by decide +kernel
theorem dX0_isTold_1 : decode cX0_isTold 1 = .ok (.ifCond .lt 22, 3) := by decide +kernel
theorem dX0_isTold_4 : decode cX0_isTold 4 = .ok (.iload_n 1, 1) := by decide +kernel
theorem dX0_isTold_5 : decode cX0_isTold 5 = .ok (.bipush 16, 2) := by decide +kernel
theorem dX0_isTold_7 : decode cX0_isTold 7 = .ok (.if_icmp .ge 16, 3) := by decide +kernel
theorem dX0_isTold_10 : decode cX0_isTold 10 = .ok (.aload_n 0, 1) := by decide +kernel
theorem dX0_isTold_11 : decode cX0_isTold 11 = .ok (.getfield 27, 3) := by decide +kernel
theorem dX0_isTold_14 : decode cX0_isTold 14 = .ok (.iload_n 1, 1) := by decide +kernel
theorem dX0_isTold_15 : decode cX0_isTold 15 = .ok (.iaload, 1) := by decide +kernel
theorem dX0_isTold_16 : decode cX0_isTold 16 = .ok (.ifCond .le 7, 3) := by decide +kernel
theorem dX0_isTold_19 : decode cX0_isTold 19 = .ok (.iconst 1, 1) := by decide +kernel
theorem dX0_isTold_20 : decode cX0_isTold 20 = .ok (.goto 4, 3) := by decide +kernel
theorem dX0_isTold_23 : decode cX0_isTold 23 = .ok (.iconst 0, 1) := by decide +kernel
theorem dX0_isTold_24 : decode cX0_isTold 24 = .ok (.ireturn, 1) := by decide +kernel
theorem dX0_tell_0 : decode cX0_tell 0 = .ok (.iload_n 1, 1) := by decide +kernel
theorem dX0_tell_1 : decode cX0_tell 1 = .ok (.ifCond .lt 30, 3) := by decide +kernel
theorem dX0_tell_4 : decode cX0_tell 4 = .ok (.iload_n 1, 1) := by decide +kernel
theorem dX0_tell_5 : decode cX0_tell 5 = .ok (.bipush 16, 2) := by decide +kernel
theorem dX0_tell_7 : decode cX0_tell 7 = .ok (.if_icmp .ge 24, 3) := by decide +kernel
theorem dX0_tell_10 : decode cX0_tell 10 = .ok (.iload_n 2, 1) := by decide +kernel
theorem dX0_tell_11 : decode cX0_tell 11 = .ok (.iconst 1, 1) := by decide +kernel
theorem dX0_tell_12 : decode cX0_tell 12 = .ok (.if_icmp .lt 19, 3) := by decide +kernel
theorem dX0_tell_15 : decode cX0_tell 15 = .ok (.iload_n 2, 1) := by decide +kernel
theorem dX0_tell_16 : decode cX0_tell 16 = .ok (.bipush 10, 2) := by decide +kernel
theorem dX0_tell_18 : decode cX0_tell 18 = .ok (.if_icmp .gt 13, 3) := by decide +kernel
theorem dX0_tell_21 : decode cX0_tell 21 = .ok (.aload_n 0, 1) := by decide +kernel
theorem dX0_tell_22 : decode cX0_tell 22 = .ok (.getfield 14, 3) := by decide +kernel
theorem dX0_tell_25 : decode cX0_tell 25 = .ok (.invokevirtual 30, 3) := by decide +kernel
theorem dX0_tell_28 : decode cX0_tell 28 = .ok (.ifCond .eq 5, 3) := by decide +kernel
theorem dX0_tell_31 : decode cX0_tell 31 = .ok (.iconst (-1), 1) := by decide +kernel
theorem dX0_tell_32 : decode cX0_tell 32 = .ok (.ireturn, 1) := by decide +kernel
theorem dX0_tell_33 : decode cX0_tell 33 = .ok (.iload 4, 2) := by decide +kernel
theorem dX0_tell_35 : decode cX0_tell 35 = .ok (.iconst 2, 1) := by decide +kernel
theorem dX0_tell_36 : decode cX0_tell 36 = .ok (.if_icmp .lt 29, 3) := by decide +kernel
theorem dX0_tell_39 : decode cX0_tell 39 = .ok (.iload 4, 2) := by decide +kernel
theorem dX0_tell_41 : decode cX0_tell 41 = .ok (.bipush 8, 2) := by decide +kernel
theorem dX0_tell_43 : decode cX0_tell 43 = .ok (.if_icmp .gt 22, 3) := by decide +kernel
theorem dX0_tell_46 : decode cX0_tell 46 = .ok (.aload_n 0, 1) := by decide +kernel
theorem dX0_tell_47 : decode cX0_tell 47 = .ok (.getfield 27, 3) := by decide +kernel
theorem dX0_tell_50 : decode cX0_tell 50 = .ok (.iload_n 1, 1) := by decide +kernel
theorem dX0_tell_51 : decode cX0_tell 51 = .ok (.iaload, 1) := by decide +kernel
theorem dX0_tell_52 : decode cX0_tell 52 = .ok (.ifCond .le 15, 3) := by decide +kernel
theorem dX0_tell_55 : decode cX0_tell 55 = .ok (.aload_n 0, 1) := by decide +kernel
theorem dX0_tell_56 : decode cX0_tell 56 = .ok (.getfield 27, 3) := by decide +kernel
theorem dX0_tell_59 : decode cX0_tell 59 = .ok (.iload_n 1, 1) := by decide +kernel
theorem dX0_tell_60 : decode cX0_tell 60 = .ok (.iaload, 1) := by decide +kernel
theorem dX0_tell_61 : decode cX0_tell 61 = .ok (.iload_n 2, 1) := by decide +kernel
theorem dX0_tell_62 : decode cX0_tell 62 = .ok (.if_icmp .eq 5, 3) := by decide +kernel
theorem dX0_tell_65 : decode cX0_tell 65 = .ok (.iconst (-1), 1) := by decide +kernel
theorem dX0_tell_66 : decode cX0_tell 66 = .ok (.ireturn, 1) := by decide +kernel
theorem dX0_tell_67 : decode cX0_tell 67 = .ok (.aload_n 0, 1) := by decide +kernel
theorem dX0_tell_68 : decode cX0_tell 68 = .ok (.getfield 27, 3) := by decide +kernel
theorem dX0_tell_71 : decode cX0_tell 71 = .ok (.iload_n 1, 1) := by decide +kernel
theorem dX0_tell_72 : decode cX0_tell 72 = .ok (.iaload, 1) := by decide +kernel
theorem dX0_tell_73 : decode cX0_tell 73 = .ok (.ifCond .ne 13, 3) := by decide +kernel
theorem dX0_tell_76 : decode cX0_tell 76 = .ok (.aload_n 0, 1) := by decide +kernel
theorem dX0_tell_77 : decode cX0_tell 77 = .ok (.dup, 1) := by decide +kernel
theorem dX0_tell_78 : decode cX0_tell 78 = .ok (.getfield 34, 3) := by decide +kernel
theorem dX0_tell_81 : decode cX0_tell 81 = .ok (.iconst 1, 1) := by decide +kernel
theorem dX0_tell_82 : decode cX0_tell 82 = .ok (.iadd, 1) := by decide +kernel
theorem dX0_tell_83 : decode cX0_tell 83 = .ok (.putfield 34, 3) := by decide +kernel
theorem dX0_tell_86 : decode cX0_tell 86 = .ok (.aload_n 0, 1) := by decide +kernel
theorem dX0_tell_87 : decode cX0_tell 87 = .ok (.getfield 27, 3) := by decide +kernel
theorem dX0_tell_90 : decode cX0_tell 90 = .ok (.iload_n 1, 1) := by decide +kernel
theorem dX0_tell_91 : decode cX0_tell 91 = .ok (.iload_n 2, 1) := by decide +kernel
theorem dX0_tell_92 : decode cX0_tell 92 = .ok (.iastore, 1) := by decide +kernel
theorem dX0_tell_93 : decode cX0_tell 93 = .ok (.aload_n 0, 1) := by decide +kernel
theorem dX0_tell_94 : decode cX0_tell 94 = .ok (.getfield 14, 3) := by decide +kernel
theorem dX0_tell_97 : decode cX0_tell 97 = .ok (.iload_n 1, 1) := by decide +kernel
theorem dX0_tell_98 : decode cX0_tell 98 = .ok (.iload 5, 2) := by decide +kernel
theorem dX0_tell_100 : decode cX0_tell 100 = .ok (.invokevirtual 38, 3) := by decide +kernel
theorem dX0_tell_103 : decode cX0_tell 103 = .ok (.istore 6, 2) := by decide +kernel
theorem dX0_tell_105 : decode cX0_tell 105 = .ok (.aload_n 0, 1) := by decide +kernel
theorem dX0_tell_106 : decode cX0_tell 106 = .ok (.getfield 24, 3) := by decide +kernel
theorem dX0_tell_109 : decode cX0_tell 109 = .ok (.iload 6, 2) := by decide +kernel
theorem dX0_tell_111 : decode cX0_tell 111 = .ok (.iload 4, 2) := by decide +kernel
theorem dX0_tell_113 : decode cX0_tell 113 = .ok (.iastore, 1) := by decide +kernel
theorem dX0_tell_114 : decode cX0_tell 114 = .ok (.aload_n 3, 1) := by decide +kernel
theorem dX0_tell_115 : decode cX0_tell 115 = .ok (.iconst 0, 1) := by decide +kernel
theorem dX0_tell_116 : decode cX0_tell 116 = .ok (.aload_n 0, 1) := by decide +kernel
theorem dX0_tell_117 : decode cX0_tell 117 = .ok (.getfield 20, 3) := by decide +kernel
theorem dX0_tell_120 : decode cX0_tell 120 = .ok (.iload 6, 2) := by decide +kernel
theorem dX0_tell_122 : decode cX0_tell 122 = .ok (.bipush 8, 2) := by decide +kernel
theorem dX0_tell_124 : decode cX0_tell 124 = .ok (.imul, 1) := by decide +kernel
theorem dX0_tell_125 : decode cX0_tell 125 = .ok (.iload 4, 2) := by decide +kernel
theorem dX0_tell_127 : decode cX0_tell 127 = .ok (.invokestatic 42, 3) := by decide +kernel
theorem dX0_tell_130 : decode cX0_tell 130 = .ok (.iload 4, 2) := by decide +kernel
theorem dX0_tell_132 : decode cX0_tell 132 = .ok (.ireturn, 1) := by decide +kernel
theorem dX0_tellingOf_0 : decode cX0_tellingOf 0 = .ok (.aload_n 0, 1) := by decide +kernel
theorem dX0_tellingOf_1 : decode cX0_tellingOf 1 = .ok (.iload_n 1, 1) := by decide +kernel
theorem dX0_tellingOf_2 : decode cX0_tellingOf 2 = .ok (.invokevirtual 48, 3) := by decide +kernel
theorem dX0_tellingOf_5 : decode cX0_tellingOf 5 = .ok (.ifCond .eq 15, 3) := by decide +kernel
theorem dX0_tellingOf_8 : decode cX0_tellingOf 8 = .ok (.aload_n 0, 1) := by decide +kernel
theorem dX0_tellingOf_9 : decode cX0_tellingOf 9 = .ok (.getfield 14, 3) := by decide +kernel
theorem dX0_tellingOf_12 : decode cX0_tellingOf 12 = .ok (.iload_n 1, 1) := by decide +kernel
theorem dX0_tellingOf_13 : decode cX0_tellingOf 13 = .ok (.iload_n 2, 1) := by decide +kernel
theorem dX0_tellingOf_14 : decode cX0_tellingOf 14 = .ok (.invokevirtual 52, 3) := by decide +kernel
theorem dX0_tellingOf_17 : decode cX0_tellingOf 17 = .ok (.goto 4, 3) := by decide +kernel
theorem dX0_tellingOf_20 : decode cX0_tellingOf 20 = .ok (.iconst (-1), 1) := by decide +kernel
theorem dX0_tellingOf_21 : decode cX0_tellingOf 21 = .ok (.ireturn, 1) := by decide +kernel
theorem dX1_init_0 : decode cX1_init 0 = .ok (.aload_n 0, 1) := by decide +kernel
theorem dX1_init_1 : decode cX1_init 1 = .ok (.invokespecial 3, 3) := by decide +kernel
theorem dX1_init_4 : decode cX1_init 4 = .ok (.aload_n 0, 1) := by decide +kernel
theorem dX1_init_5 : decode cX1_init 5 = .ok (.bipush 80, 2) := by decide +kernel
theorem dX1_init_7 : decode cX1_init 7 = .ok (.newarray .int, 2) := by decide +kernel
theorem dX1_init_9 : decode cX1_init 9 = .ok (.putfield 9, 3) := by decide +kernel
theorem dX1_init_12 : decode cX1_init 12 = .ok (.aload_n 0, 1) := by decide +kernel
theorem dX1_init_13 : decode cX1_init 13 = .ok (.bipush 80, 2) := by decide +kernel
theorem dX1_init_15 : decode cX1_init 15 = .ok (.newarray .int, 2) := by decide +kernel
theorem dX1_init_17 : decode cX1_init 17 = .ok (.putfield 15, 3) := by decide +kernel
theorem dX1_init_20 : decode cX1_init 20 = .ok (.aload_n 0, 1) := by decide +kernel
theorem dX1_init_21 : decode cX1_init 21 = .ok (.aload_n 1, 1) := by decide +kernel
theorem dX1_init_22 : decode cX1_init 22 = .ok (.putfield 18, 3) := by decide +kernel
theorem dX1_init_25 : decode cX1_init 25 = .ok (.aload_n 0, 1) := by decide +kernel
theorem dX1_init_26 : decode cX1_init 26 = .ok (.aload_n 2, 1) := by decide +kernel
theorem dX1_init_27 : decode cX1_init 27 = .ok (.putfield 22, 3) := by decide +kernel
theorem dX1_init_30 : decode cX1_init 30 = .ok (.aload_n 0, 1) := by decide +kernel
theorem dX1_init_31 : decode cX1_init 31 = .ok (.aload_n 3, 1) := by decide +kernel
theorem dX1_init_32 : decode cX1_init 32 = .ok (.putfield 26, 3) := by decide +kernel
theorem dX1_init_35 : decode cX1_init 35 = .ok (.return_, 1) := by decide +kernel
theorem dX1_reviewAll_0 : decode cX1_reviewAll 0 = .ok (.aload_n 0, 1) := by decide +kernel
theorem dX1_reviewAll_1 : decode cX1_reviewAll 1 = .ok (.iconst 0, 1) := by decide +kernel
theorem dX1_reviewAll_2 : decode cX1_reviewAll 2 = .ok (.putfield 30, 3) := by decide +kernel
theorem dX1_reviewAll_5 : decode cX1_reviewAll 5 = .ok (.iconst 0, 1) := by decide +kernel
theorem dX1_reviewAll_6 : decode cX1_reviewAll 6 = .ok (.istore_n 2, 1) := by decide +kernel
theorem dX1_reviewAll_7 : decode cX1_reviewAll 7 = .ok (.iload_n 2, 1) := by decide +kernel
theorem dX1_reviewAll_8 : decode cX1_reviewAll 8 = .ok (.bipush 16, 2) := by decide +kernel
theorem dX1_reviewAll_10 : decode cX1_reviewAll 10 = .ok (.if_icmp .ge 26, 3) := by decide +kernel
theorem dX1_reviewAll_13 : decode cX1_reviewAll 13 = .ok (.aload_n 0, 1) := by decide +kernel
theorem dX1_reviewAll_14 : decode cX1_reviewAll 14 = .ok (.getfield 26, 3) := by decide +kernel
theorem dX1_reviewAll_17 : decode cX1_reviewAll 17 = .ok (.iload_n 2, 1) := by decide +kernel
theorem dX1_reviewAll_18 : decode cX1_reviewAll 18 = .ok (.invokevirtual 34, 3) := by decide +kernel
theorem dX1_reviewAll_21 : decode cX1_reviewAll 21 = .ok (.ifCond .eq 9, 3) := by decide +kernel
theorem dX1_reviewAll_24 : decode cX1_reviewAll 24 = .ok (.aload_n 0, 1) := by decide +kernel
theorem dX1_reviewAll_25 : decode cX1_reviewAll 25 = .ok (.iload_n 2, 1) := by decide +kernel
theorem dX1_reviewAll_26 : decode cX1_reviewAll 26 = .ok (.iload_n 1, 1) := by decide +kernel
theorem dX1_reviewAll_27 : decode cX1_reviewAll 27 = .ok (.invokevirtual 40, 3) := by decide +kernel
theorem dX1_reviewAll_30 : decode cX1_reviewAll 30 = .ok (.iinc 2 1, 3) := by decide +kernel
theorem dX1_reviewAll_33 : decode cX1_reviewAll 33 = .ok (.goto (-26), 3) := by decide +kernel
theorem dX1_reviewAll_36 : decode cX1_reviewAll 36 = .ok (.aload_n 0, 1) := by decide +kernel
theorem dX1_reviewAll_37 : decode cX1_reviewAll 37 = .ok (.getfield 30, 3) := by decide +kernel
theorem dX1_reviewAll_40 : decode cX1_reviewAll 40 = .ok (.ireturn, 1) := by decide +kernel
theorem dX1_review_0 : decode cX1_review 0 = .ok (.aload_n 0, 1) := by decide +kernel
theorem dX1_review_1 : decode cX1_review 1 = .ok (.getfield 26, 3) := by decide +kernel
theorem dX1_review_4 : decode cX1_review 4 = .ok (.iload_n 1, 1) := by decide +kernel
theorem dX1_review_5 : decode cX1_review 5 = .ok (.iload_n 2, 1) := by decide +kernel
theorem dX1_review_6 : decode cX1_review 6 = .ok (.invokevirtual 44, 3) := by decide +kernel
theorem dX1_review_9 : decode cX1_review 9 = .ok (.istore_n 3, 1) := by decide +kernel
theorem dX1_review_10 : decode cX1_review 10 = .ok (.iload_n 3, 1) := by decide +kernel
theorem dX1_review_11 : decode cX1_review 11 = .ok (.iconst (-1), 1) := by decide +kernel
theorem dX1_review_12 : decode cX1_review 12 = .ok (.if_icmp .eq 7, 3) := by decide +kernel
theorem dX1_review_15 : decode cX1_review 15 = .ok (.iconst 1, 1) := by decide +kernel
theorem dX1_review_16 : decode cX1_review 16 = .ok (.goto 4, 3) := by decide +kernel
theorem dX1_review_19 : decode cX1_review 19 = .ok (.iconst 0, 1) := by decide +kernel
theorem dX1_review_20 : decode cX1_review 20 = .ok (.istore 4, 2) := by decide +kernel
theorem dX1_review_22 : decode cX1_review 22 = .ok (.aload_n 0, 1) := by decide +kernel
theorem dX1_review_23 : decode cX1_review 23 = .ok (.iload 4, 2) := by decide +kernel
theorem dX1_review_25 : decode cX1_review 25 = .ok (.ifCond .ne 7, 3) := by decide +kernel
theorem dX1_review_28 : decode cX1_review 28 = .ok (.iconst 1, 1) := by decide +kernel
theorem dX1_review_29 : decode cX1_review 29 = .ok (.goto 4, 3) := by decide +kernel
theorem dX1_review_32 : decode cX1_review 32 = .ok (.iconst 0, 1) := by decide +kernel
theorem dX1_review_33 : decode cX1_review 33 = .ok (.iconst 1, 1) := by decide +kernel
theorem dX1_review_34 : decode cX1_review 34 = .ok (.iload_n 1, 1) := by decide +kernel
theorem dX1_review_35 : decode cX1_review 35 = .ok (.invokevirtual 48, 3) := by decide +kernel
theorem dX1_review_38 : decode cX1_review 38 = .ok (.aload_n 0, 1) := by decide +kernel
theorem dX1_review_39 : decode cX1_review 39 = .ok (.iload 4, 2) := by decide +kernel
theorem dX1_review_41 : decode cX1_review 41 = .ok (.ifCond .eq 19, 3) := by decide +kernel
theorem dX1_review_44 : decode cX1_review 44 = .ok (.aload_n 0, 1) := by decide +kernel
theorem dX1_review_45 : decode cX1_review 45 = .ok (.getfield 22, 3) := by decide +kernel
theorem dX1_review_48 : decode cX1_review 48 = .ok (.iload_n 1, 1) := by decide +kernel
theorem dX1_review_49 : decode cX1_review 49 = .ok (.iload_n 3, 1) := by decide +kernel
theorem dX1_review_50 : decode cX1_review 50 = .ok (.invokevirtual 52, 3) := by decide +kernel
theorem dX1_review_53 : decode cX1_review 53 = .ok (.ifCond .ne 7, 3) := by decide +kernel
theorem dX1_review_56 : decode cX1_review 56 = .ok (.iconst 1, 1) := by decide +kernel
theorem dX1_review_57 : decode cX1_review 57 = .ok (.goto 4, 3) := by decide +kernel
theorem dX1_review_60 : decode cX1_review 60 = .ok (.iconst 0, 1) := by decide +kernel
theorem dX1_review_61 : decode cX1_review 61 = .ok (.iconst 2, 1) := by decide +kernel
theorem dX1_review_62 : decode cX1_review 62 = .ok (.iload_n 1, 1) := by decide +kernel
theorem dX1_review_63 : decode cX1_review 63 = .ok (.invokevirtual 48, 3) := by decide +kernel
theorem dX1_review_66 : decode cX1_review 66 = .ok (.aload_n 0, 1) := by decide +kernel
theorem dX1_review_67 : decode cX1_review 67 = .ok (.iload 4, 2) := by decide +kernel
theorem dX1_review_69 : decode cX1_review 69 = .ok (.ifCond .eq 16, 3) := by decide +kernel
theorem dX1_review_72 : decode cX1_review 72 = .ok (.aload_n 0, 1) := by decide +kernel
theorem dX1_review_73 : decode cX1_review 73 = .ok (.iload_n 1, 1) := by decide +kernel
theorem dX1_review_74 : decode cX1_review 74 = .ok (.iload_n 3, 1) := by decide +kernel
theorem dX1_review_75 : decode cX1_review 75 = .ok (.invokevirtual 58, 3) := by decide +kernel
theorem dX1_review_78 : decode cX1_review 78 = .ok (.ifCond .eq 7, 3) := by decide +kernel
theorem dX1_review_81 : decode cX1_review 81 = .ok (.iconst 1, 1) := by decide +kernel
theorem dX1_review_82 : decode cX1_review 82 = .ok (.goto 4, 3) := by decide +kernel
theorem dX1_review_85 : decode cX1_review 85 = .ok (.iconst 0, 1) := by decide +kernel
theorem dX1_review_86 : decode cX1_review 86 = .ok (.iconst 3, 1) := by decide +kernel
theorem dX1_review_87 : decode cX1_review 87 = .ok (.iload_n 1, 1) := by decide +kernel
theorem dX1_review_88 : decode cX1_review 88 = .ok (.invokevirtual 48, 3) := by decide +kernel
theorem dX1_review_91 : decode cX1_review 91 = .ok (.aload_n 0, 1) := by decide +kernel
theorem dX1_review_92 : decode cX1_review 92 = .ok (.iconst 2, 1) := by decide +kernel
theorem dX1_review_93 : decode cX1_review 93 = .ok (.aload_n 0, 1) := by decide +kernel
theorem dX1_review_94 : decode cX1_review 94 = .ok (.iload_n 1, 1) := by decide +kernel
theorem dX1_review_95 : decode cX1_review 95 = .ok (.invokevirtual 61, 3) := by decide +kernel
theorem dX1_review_98 : decode cX1_review 98 = .ok (.imul, 1) := by decide +kernel
theorem dX1_review_99 : decode cX1_review 99 = .ok (.aload_n 0, 1) := by decide +kernel
theorem dX1_review_100 : decode cX1_review 100 = .ok (.getfield 26, 3) := by decide +kernel
theorem dX1_review_103 : decode cX1_review 103 = .ok (.getfield 65, 3) := by decide +kernel
theorem dX1_review_106 : decode cX1_review 106 = .ok (.iload_n 1, 1) := by decide +kernel
theorem dX1_review_107 : decode cX1_review 107 = .ok (.iaload, 1) := by decide +kernel
theorem dX1_review_108 : decode cX1_review 108 = .ok (.if_icmp .ge 7, 3) := by decide +kernel
theorem dX1_review_111 : decode cX1_review 111 = .ok (.iconst 1, 1) := by decide +kernel
theorem dX1_review_112 : decode cX1_review 112 = .ok (.goto 4, 3) := by decide +kernel
theorem dX1_review_115 : decode cX1_review 115 = .ok (.iconst 0, 1) := by decide +kernel
theorem dX1_review_116 : decode cX1_review 116 = .ok (.iconst 4, 1) := by decide +kernel
theorem dX1_review_117 : decode cX1_review 117 = .ok (.iload_n 1, 1) := by decide +kernel
theorem dX1_review_118 : decode cX1_review 118 = .ok (.invokevirtual 48, 3) := by decide +kernel
theorem dX1_review_121 : decode cX1_review 121 = .ok (.aload_n 0, 1) := by decide +kernel
theorem dX1_review_122 : decode cX1_review 122 = .ok (.iload 4, 2) := by decide +kernel
theorem dX1_review_124 : decode cX1_review 124 = .ok (.ifCond .eq 17, 3) := by decide +kernel
theorem dX1_review_127 : decode cX1_review 127 = .ok (.aload_n 0, 1) := by decide +kernel
theorem dX1_review_128 : decode cX1_review 128 = .ok (.iload_n 1, 1) := by decide +kernel
theorem dX1_review_129 : decode cX1_review 129 = .ok (.iload_n 3, 1) := by decide +kernel
theorem dX1_review_130 : decode cX1_review 130 = .ok (.iload_n 2, 1) := by decide +kernel
theorem dX1_review_131 : decode cX1_review 131 = .ok (.invokevirtual 68, 3) := by decide +kernel
theorem dX1_review_134 : decode cX1_review 134 = .ok (.ifCond .eq 7, 3) := by decide +kernel
theorem dX1_review_137 : decode cX1_review 137 = .ok (.iconst 1, 1) := by decide +kernel
theorem dX1_review_138 : decode cX1_review 138 = .ok (.goto 4, 3) := by decide +kernel
theorem dX1_review_141 : decode cX1_review 141 = .ok (.iconst 0, 1) := by decide +kernel
theorem dX1_review_142 : decode cX1_review 142 = .ok (.iconst 5, 1) := by decide +kernel
theorem dX1_review_143 : decode cX1_review 143 = .ok (.iload_n 1, 1) := by decide +kernel
theorem dX1_review_144 : decode cX1_review 144 = .ok (.invokevirtual 48, 3) := by decide +kernel
theorem dX1_review_147 : decode cX1_review 147 = .ok (.return_, 1) := by decide +kernel
theorem dX1_noteIf_0 : decode cX1_noteIf 0 = .ok (.iload_n 1, 1) := by decide +kernel
theorem dX1_noteIf_1 : decode cX1_noteIf 1 = .ok (.ifCond .eq 45, 3) := by decide +kernel
theorem dX1_noteIf_4 : decode cX1_noteIf 4 = .ok (.aload_n 0, 1) := by decide +kernel
theorem dX1_noteIf_5 : decode cX1_noteIf 5 = .ok (.getfield 30, 3) := by decide +kernel
theorem dX1_noteIf_8 : decode cX1_noteIf 8 = .ok (.aload_n 0, 1) := by decide +kernel
theorem dX1_noteIf_9 : decode cX1_noteIf 9 = .ok (.getfield 9, 3) := by decide +kernel
theorem dX1_noteIf_12 : decode cX1_noteIf 12 = .ok (.arraylength, 1) := by decide +kernel
theorem dX1_noteIf_13 : decode cX1_noteIf 13 = .ok (.if_icmp .ge 33, 3) := by decide +kernel
theorem dX1_noteIf_16 : decode cX1_noteIf 16 = .ok (.aload_n 0, 1) := by decide +kernel
theorem dX1_noteIf_17 : decode cX1_noteIf 17 = .ok (.getfield 9, 3) := by decide +kernel
theorem dX1_noteIf_20 : decode cX1_noteIf 20 = .ok (.aload_n 0, 1) := by decide +kernel
theorem dX1_noteIf_21 : decode cX1_noteIf 21 = .ok (.getfield 30, 3) := by decide +kernel
theorem dX1_noteIf_24 : decode cX1_noteIf 24 = .ok (.iload_n 2, 1) := by decide +kernel
theorem dX1_noteIf_25 : decode cX1_noteIf 25 = .ok (.iastore, 1) := by decide +kernel
theorem dX1_noteIf_26 : decode cX1_noteIf 26 = .ok (.aload_n 0, 1) := by decide +kernel
theorem dX1_noteIf_27 : decode cX1_noteIf 27 = .ok (.getfield 15, 3) := by decide +kernel
theorem dX1_noteIf_30 : decode cX1_noteIf 30 = .ok (.aload_n 0, 1) := by decide +kernel
theorem dX1_noteIf_31 : decode cX1_noteIf 31 = .ok (.getfield 30, 3) := by decide +kernel
theorem dX1_noteIf_34 : decode cX1_noteIf 34 = .ok (.iload_n 3, 1) := by decide +kernel
theorem dX1_noteIf_35 : decode cX1_noteIf 35 = .ok (.iastore, 1) := by decide +kernel
theorem dX1_noteIf_36 : decode cX1_noteIf 36 = .ok (.aload_n 0, 1) := by decide +kernel
theorem dX1_noteIf_37 : decode cX1_noteIf 37 = .ok (.dup, 1) := by decide +kernel
theorem dX1_noteIf_38 : decode cX1_noteIf 38 = .ok (.getfield 30, 3) := by decide +kernel
theorem dX1_noteIf_41 : decode cX1_noteIf 41 = .ok (.iconst 1, 1) := by decide +kernel
theorem dX1_noteIf_42 : decode cX1_noteIf 42 = .ok (.iadd, 1) := by decide +kernel
theorem dX1_noteIf_43 : decode cX1_noteIf 43 = .ok (.putfield 30, 3) := by decide +kernel
theorem dX1_noteIf_46 : decode cX1_noteIf 46 = .ok (.return_, 1) := by decide +kernel
theorem dX1_hasRival_0 : decode cX1_hasRival 0 = .ok (.iconst 0, 1) := by decide +kernel
theorem dX1_hasRival_1 : decode cX1_hasRival 1 = .ok (.istore_n 3, 1) := by decide +kernel
theorem dX1_hasRival_2 : decode cX1_hasRival 2 = .ok (.iload_n 3, 1) := by decide +kernel
theorem dX1_hasRival_3 : decode cX1_hasRival 3 = .ok (.aload_n 0, 1) := by decide +kernel
theorem dX1_hasRival_4 : decode cX1_hasRival 4 = .ok (.getfield 22, 3) := by decide +kernel
theorem dX1_hasRival_7 : decode cX1_hasRival 7 = .ok (.getfield 72, 3) := by decide +kernel
theorem dX1_hasRival_10 : decode cX1_hasRival 10 = .ok (.iload_n 1, 1) := by decide +kernel
theorem dX1_hasRival_11 : decode cX1_hasRival 11 = .ok (.iaload, 1) := by decide +kernel
theorem dX1_hasRival_12 : decode cX1_hasRival 12 = .ok (.if_icmp .ge 39, 3) := by decide +kernel
theorem dX1_hasRival_15 : decode cX1_hasRival 15 = .ok (.aload_n 0, 1) := by decide +kernel
theorem dX1_hasRival_16 : decode cX1_hasRival 16 = .ok (.getfield 22, 3) := by decide +kernel
theorem dX1_hasRival_19 : decode cX1_hasRival 19 = .ok (.iload_n 1, 1) := by decide +kernel
theorem dX1_hasRival_20 : decode cX1_hasRival 20 = .ok (.iload_n 3, 1) := by decide +kernel
theorem dX1_hasRival_21 : decode cX1_hasRival 21 = .ok (.invokevirtual 75, 3) := by decide +kernel
theorem dX1_hasRival_24 : decode cX1_hasRival 24 = .ok (.istore 4, 2) := by decide +kernel
theorem dX1_hasRival_26 : decode cX1_hasRival 26 = .ok (.iload 4, 2) := by decide +kernel
theorem dX1_hasRival_28 : decode cX1_hasRival 28 = .ok (.iload_n 2, 1) := by decide +kernel
theorem dX1_hasRival_29 : decode cX1_hasRival 29 = .ok (.if_icmp .eq 16, 3) := by decide +kernel
theorem dX1_hasRival_32 : decode cX1_hasRival 32 = .ok (.aload_n 0, 1) := by decide +kernel
theorem dX1_hasRival_33 : decode cX1_hasRival 33 = .ok (.iload_n 1, 1) := by decide +kernel
theorem dX1_hasRival_34 : decode cX1_hasRival 34 = .ok (.iload 4, 2) := by decide +kernel
theorem dX1_hasRival_36 : decode cX1_hasRival 36 = .ok (.iload_n 2, 1) := by decide +kernel
theorem dX1_hasRival_37 : decode cX1_hasRival 37 = .ok (.invokevirtual 78, 3) := by decide +kernel
theorem dX1_hasRival_40 : decode cX1_hasRival 40 = .ok (.ifCond .eq 5, 3) := by decide +kernel
theorem dX1_hasRival_43 : decode cX1_hasRival 43 = .ok (.iconst 1, 1) := by decide +kernel
theorem dX1_hasRival_44 : decode cX1_hasRival 44 = .ok (.ireturn, 1) := by decide +kernel
theorem dX1_hasRival_45 : decode cX1_hasRival 45 = .ok (.iinc 3 1, 3) := by decide +kernel
theorem dX1_hasRival_48 : decode cX1_hasRival 48 = .ok (.goto (-46), 3) := by decide +kernel
theorem dX1_hasRival_51 : decode cX1_hasRival 51 = .ok (.iconst 0, 1) := by decide +kernel
theorem dX1_hasRival_52 : decode cX1_hasRival 52 = .ok (.ireturn, 1) := by decide +kernel
theorem dX1_isAlikeWhereCrossed_0 : decode cX1_isAlikeWhereCrossed 0 = .ok (.iconst 0, 1) := by decide +kernel
theorem dX1_isAlikeWhereCrossed_1 : decode cX1_isAlikeWhereCrossed 1 = .ok (.istore 4, 2) := by decide +kernel
theorem dX1_isAlikeWhereCrossed_3 : decode cX1_isAlikeWhereCrossed 3 = .ok (.iload 4, 2) := by decide +kernel
theorem dX1_isAlikeWhereCrossed_5 : decode cX1_isAlikeWhereCrossed 5 = .ok (.bipush 16, 2) := by decide +kernel
theorem dX1_isAlikeWhereCrossed_7 : decode cX1_isAlikeWhereCrossed 7 = .ok (.if_icmp .ge 52, 3) := by decide +kernel
theorem dX1_isAlikeWhereCrossed_10 : decode cX1_isAlikeWhereCrossed 10 = .ok (.aload_n 0, 1) := by decide +kernel
theorem dX1_isAlikeWhereCrossed_11 : decode cX1_isAlikeWhereCrossed 11 = .ok (.getfield 26, 3) := by decide +kernel
theorem dX1_isAlikeWhereCrossed_14 : decode cX1_isAlikeWhereCrossed 14 = .ok (.iload_n 1, 1) := by decide +kernel
theorem dX1_isAlikeWhereCrossed_15 : decode cX1_isAlikeWhereCrossed 15 = .ok (.iload 4, 2) := by decide +kernel
theorem dX1_isAlikeWhereCrossed_17 : decode cX1_isAlikeWhereCrossed 17 = .ok (.invokevirtual 81, 3) := by decide +kernel
theorem dX1_isAlikeWhereCrossed_20 : decode cX1_isAlikeWhereCrossed 20 = .ok (.istore 5, 2) := by decide +kernel
theorem dX1_isAlikeWhereCrossed_22 : decode cX1_isAlikeWhereCrossed 22 = .ok (.iload 5, 2) := by decide +kernel
theorem dX1_isAlikeWhereCrossed_24 : decode cX1_isAlikeWhereCrossed 24 = .ok (.iconst (-1), 1) := by decide +kernel
theorem dX1_isAlikeWhereCrossed_25 : decode cX1_isAlikeWhereCrossed 25 = .ok (.if_icmp .eq 28, 3) := by decide +kernel
theorem dX1_isAlikeWhereCrossed_28 : decode cX1_isAlikeWhereCrossed 28 = .ok (.aload_n 0, 1) := by decide +kernel
theorem dX1_isAlikeWhereCrossed_29 : decode cX1_isAlikeWhereCrossed 29 = .ok (.getfield 18, 3) := by decide +kernel
theorem dX1_isAlikeWhereCrossed_32 : decode cX1_isAlikeWhereCrossed 32 = .ok (.iload_n 2, 1) := by decide +kernel
theorem dX1_isAlikeWhereCrossed_33 : decode cX1_isAlikeWhereCrossed 33 = .ok (.iload 5, 2) := by decide +kernel
theorem dX1_isAlikeWhereCrossed_35 : decode cX1_isAlikeWhereCrossed 35 = .ok (.invokevirtual 84, 3) := by decide +kernel
theorem dX1_isAlikeWhereCrossed_38 : decode cX1_isAlikeWhereCrossed 38 = .ok (.aload_n 0, 1) := by decide +kernel
theorem dX1_isAlikeWhereCrossed_39 : decode cX1_isAlikeWhereCrossed 39 = .ok (.getfield 18, 3) := by decide +kernel
theorem dX1_isAlikeWhereCrossed_42 : decode cX1_isAlikeWhereCrossed 42 = .ok (.iload_n 3, 1) := by decide +kernel
theorem dX1_isAlikeWhereCrossed_43 : decode cX1_isAlikeWhereCrossed 43 = .ok (.iload 5, 2) := by decide +kernel
theorem dX1_isAlikeWhereCrossed_45 : decode cX1_isAlikeWhereCrossed 45 = .ok (.invokevirtual 84, 3) := by decide +kernel
theorem dX1_isAlikeWhereCrossed_48 : decode cX1_isAlikeWhereCrossed 48 = .ok (.if_icmp .eq 5, 3) := by decide +kernel
theorem dX1_isAlikeWhereCrossed_51 : decode cX1_isAlikeWhereCrossed 51 = .ok (.iconst 0, 1) := by decide +kernel
theorem dX1_isAlikeWhereCrossed_52 : decode cX1_isAlikeWhereCrossed 52 = .ok (.ireturn, 1) := by decide +kernel
theorem dX1_isAlikeWhereCrossed_53 : decode cX1_isAlikeWhereCrossed 53 = .ok (.iinc 4 1, 3) := by decide +kernel
theorem dX1_isAlikeWhereCrossed_56 : decode cX1_isAlikeWhereCrossed 56 = .ok (.goto (-53), 3) := by decide +kernel
theorem dX1_isAlikeWhereCrossed_59 : decode cX1_isAlikeWhereCrossed 59 = .ok (.iconst 1, 1) := by decide +kernel
theorem dX1_isAlikeWhereCrossed_60 : decode cX1_isAlikeWhereCrossed 60 = .ok (.ireturn, 1) := by decide +kernel
theorem dX1_crossed_0 : decode cX1_crossed 0 = .ok (.iconst 0, 1) := by decide +kernel
theorem dX1_crossed_1 : decode cX1_crossed 1 = .ok (.istore_n 2, 1) := by decide +kernel
theorem dX1_crossed_2 : decode cX1_crossed 2 = .ok (.iconst 0, 1) := by decide +kernel
theorem dX1_crossed_3 : decode cX1_crossed 3 = .ok (.istore_n 3, 1) := by decide +kernel
theorem dX1_crossed_4 : decode cX1_crossed 4 = .ok (.iload_n 3, 1) := by decide +kernel
theorem dX1_crossed_5 : decode cX1_crossed 5 = .ok (.bipush 16, 2) := by decide +kernel
theorem dX1_crossed_7 : decode cX1_crossed 7 = .ok (.if_icmp .ge 25, 3) := by decide +kernel
theorem dX1_crossed_10 : decode cX1_crossed 10 = .ok (.aload_n 0, 1) := by decide +kernel
theorem dX1_crossed_11 : decode cX1_crossed 11 = .ok (.getfield 26, 3) := by decide +kernel
theorem dX1_crossed_14 : decode cX1_crossed 14 = .ok (.iload_n 1, 1) := by decide +kernel
theorem dX1_crossed_15 : decode cX1_crossed 15 = .ok (.iload_n 3, 1) := by decide +kernel
theorem dX1_crossed_16 : decode cX1_crossed 16 = .ok (.invokevirtual 81, 3) := by decide +kernel
theorem dX1_crossed_19 : decode cX1_crossed 19 = .ok (.iconst (-1), 1) := by decide +kernel
theorem dX1_crossed_20 : decode cX1_crossed 20 = .ok (.if_icmp .eq 6, 3) := by decide +kernel
theorem dX1_crossed_23 : decode cX1_crossed 23 = .ok (.iinc 2 1, 3) := by decide +kernel
theorem dX1_crossed_26 : decode cX1_crossed 26 = .ok (.iinc 3 1, 3) := by decide +kernel
theorem dX1_crossed_29 : decode cX1_crossed 29 = .ok (.goto (-25), 3) := by decide +kernel
theorem dX1_crossed_32 : decode cX1_crossed 32 = .ok (.iload_n 2, 1) := by decide +kernel
theorem dX1_crossed_33 : decode cX1_crossed 33 = .ok (.ireturn, 1) := by decide +kernel
theorem dX1_clashes_0 : decode cX1_clashes 0 = .ok (.iconst 0, 1) := by decide +kernel
theorem dX1_clashes_1 : decode cX1_clashes 1 = .ok (.istore 4, 2) := by decide +kernel
theorem dX1_clashes_3 : decode cX1_clashes 3 = .ok (.iload 4, 2) := by decide +kernel
theorem dX1_clashes_5 : decode cX1_clashes 5 = .ok (.bipush 16, 2) := by decide +kernel
theorem dX1_clashes_7 : decode cX1_clashes 7 = .ok (.if_icmp .ge 83, 3) := by decide +kernel
theorem dX1_clashes_10 : decode cX1_clashes 10 = .ok (.aload_n 0, 1) := by decide +kernel
theorem dX1_clashes_11 : decode cX1_clashes 11 = .ok (.getfield 26, 3) := by decide +kernel
theorem dX1_clashes_14 : decode cX1_clashes 14 = .ok (.iload_n 1, 1) := by decide +kernel
theorem dX1_clashes_15 : decode cX1_clashes 15 = .ok (.iload 4, 2) := by decide +kernel
theorem dX1_clashes_17 : decode cX1_clashes 17 = .ok (.invokevirtual 81, 3) := by decide +kernel
theorem dX1_clashes_20 : decode cX1_clashes 20 = .ok (.istore 5, 2) := by decide +kernel
theorem dX1_clashes_22 : decode cX1_clashes 22 = .ok (.iload 5, 2) := by decide +kernel
theorem dX1_clashes_24 : decode cX1_clashes 24 = .ok (.iconst (-1), 1) := by decide +kernel
theorem dX1_clashes_25 : decode cX1_clashes 25 = .ok (.if_icmp .ne 7, 3) := by decide +kernel
theorem dX1_clashes_28 : decode cX1_clashes 28 = .ok (.iconst (-1), 1) := by decide +kernel
theorem dX1_clashes_29 : decode cX1_clashes 29 = .ok (.goto 13, 3) := by decide +kernel
theorem dX1_clashes_32 : decode cX1_clashes 32 = .ok (.aload_n 0, 1) := by decide +kernel
theorem dX1_clashes_33 : decode cX1_clashes 33 = .ok (.getfield 26, 3) := by decide +kernel
theorem dX1_clashes_36 : decode cX1_clashes 36 = .ok (.iload 4, 2) := by decide +kernel
theorem dX1_clashes_38 : decode cX1_clashes 38 = .ok (.iload_n 3, 1) := by decide +kernel
theorem dX1_clashes_39 : decode cX1_clashes 39 = .ok (.invokevirtual 44, 3) := by decide +kernel
theorem dX1_clashes_42 : decode cX1_clashes 42 = .ok (.istore 6, 2) := by decide +kernel
theorem dX1_clashes_44 : decode cX1_clashes 44 = .ok (.iload 6, 2) := by decide +kernel
theorem dX1_clashes_46 : decode cX1_clashes 46 = .ok (.iconst (-1), 1) := by decide +kernel
theorem dX1_clashes_47 : decode cX1_clashes 47 = .ok (.if_icmp .eq 37, 3) := by decide +kernel
theorem dX1_clashes_50 : decode cX1_clashes 50 = .ok (.aload_n 0, 1) := by decide +kernel
theorem dX1_clashes_51 : decode cX1_clashes 51 = .ok (.getfield 18, 3) := by decide +kernel
theorem dX1_clashes_54 : decode cX1_clashes 54 = .ok (.iload_n 2, 1) := by decide +kernel
theorem dX1_clashes_55 : decode cX1_clashes 55 = .ok (.iload 5, 2) := by decide +kernel
theorem dX1_clashes_57 : decode cX1_clashes 57 = .ok (.invokevirtual 84, 3) := by decide +kernel
theorem dX1_clashes_60 : decode cX1_clashes 60 = .ok (.aload_n 0, 1) := by decide +kernel
theorem dX1_clashes_61 : decode cX1_clashes 61 = .ok (.getfield 18, 3) := by decide +kernel
theorem dX1_clashes_64 : decode cX1_clashes 64 = .ok (.iload 6, 2) := by decide +kernel
theorem dX1_clashes_66 : decode cX1_clashes 66 = .ok (.aload_n 0, 1) := by decide +kernel
theorem dX1_clashes_67 : decode cX1_clashes 67 = .ok (.getfield 26, 3) := by decide +kernel
theorem dX1_clashes_70 : decode cX1_clashes 70 = .ok (.iload 4, 2) := by decide +kernel
theorem dX1_clashes_72 : decode cX1_clashes 72 = .ok (.iload_n 1, 1) := by decide +kernel
theorem dX1_clashes_73 : decode cX1_clashes 73 = .ok (.invokevirtual 81, 3) := by decide +kernel
theorem dX1_clashes_76 : decode cX1_clashes 76 = .ok (.invokevirtual 84, 3) := by decide +kernel
theorem dX1_clashes_79 : decode cX1_clashes 79 = .ok (.if_icmp .eq 5, 3) := by decide +kernel
theorem dX1_clashes_82 : decode cX1_clashes 82 = .ok (.iconst 1, 1) := by decide +kernel
theorem dX1_clashes_83 : decode cX1_clashes 83 = .ok (.ireturn, 1) := by decide +kernel
theorem dX1_clashes_84 : decode cX1_clashes 84 = .ok (.iinc 4 1, 3) := by decide +kernel
theorem dX1_clashes_87 : decode cX1_clashes 87 = .ok (.goto (-84), 3) := by decide +kernel
theorem dX1_clashes_90 : decode cX1_clashes 90 = .ok (.iconst 0, 1) := by decide +kernel
theorem dX1_clashes_91 : decode cX1_clashes 91 = .ok (.ireturn, 1) := by decide +kernel
theorem dX2_init_0 : decode cX2_init 0 = .ok (.aload_n 0, 1) := by decide +kernel
theorem dX2_init_1 : decode cX2_init 1 = .ok (.invokespecial 3, 3) := by decide +kernel
theorem dX2_init_4 : decode cX2_init 4 = .ok (.aload_n 0, 1) := by decide +kernel
theorem dX2_init_5 : decode cX2_init 5 = .ok (.bipush 16, 2) := by decide +kernel
theorem dX2_init_7 : decode cX2_init 7 = .ok (.newarray .int, 2) := by decide +kernel
theorem dX2_init_9 : decode cX2_init 9 = .ok (.putfield 9, 3) := by decide +kernel
theorem dX2_init_12 : decode cX2_init 12 = .ok (.aload_n 0, 1) := by decide +kernel
theorem dX2_init_13 : decode cX2_init 13 = .ok (.bipush 16, 2) := by decide +kernel
theorem dX2_init_15 : decode cX2_init 15 = .ok (.newarray .int, 2) := by decide +kernel
theorem dX2_init_17 : decode cX2_init 17 = .ok (.putfield 15, 3) := by decide +kernel
theorem dX2_init_20 : decode cX2_init 20 = .ok (.aload_n 0, 1) := by decide +kernel
theorem dX2_init_21 : decode cX2_init 21 = .ok (.bipush 16, 2) := by decide +kernel
theorem dX2_init_23 : decode cX2_init 23 = .ok (.newarray .int, 2) := by decide +kernel
theorem dX2_init_25 : decode cX2_init 25 = .ok (.putfield 18, 3) := by decide +kernel
theorem dX2_init_28 : decode cX2_init 28 = .ok (.aload_n 0, 1) := by decide +kernel
theorem dX2_init_29 : decode cX2_init 29 = .ok (.bipush 81, 2) := by decide +kernel
theorem dX2_init_31 : decode cX2_init 31 = .ok (.newarray .int, 2) := by decide +kernel
theorem dX2_init_33 : decode cX2_init 33 = .ok (.putfield 21, 3) := by decide +kernel
theorem dX2_init_36 : decode cX2_init 36 = .ok (.aload_n 0, 1) := by decide +kernel
theorem dX2_init_37 : decode cX2_init 37 = .ok (.bipush 81, 2) := by decide +kernel
theorem dX2_init_39 : decode cX2_init 39 = .ok (.newarray .int, 2) := by decide +kernel
theorem dX2_init_41 : decode cX2_init 41 = .ok (.putfield 24, 3) := by decide +kernel
theorem dX2_init_44 : decode cX2_init 44 = .ok (.aload_n 0, 1) := by decide +kernel
theorem dX2_init_45 : decode cX2_init 45 = .ok (.bipush 81, 2) := by decide +kernel
theorem dX2_init_47 : decode cX2_init 47 = .ok (.newarray .int, 2) := by decide +kernel
theorem dX2_init_49 : decode cX2_init 49 = .ok (.putfield 27, 3) := by decide +kernel
theorem dX2_init_52 : decode cX2_init 52 = .ok (.aload_n 0, 1) := by decide +kernel
theorem dX2_init_53 : decode cX2_init 53 = .ok (.sipush 256, 3) := by decide +kernel
theorem dX2_init_56 : decode cX2_init 56 = .ok (.newarray .int, 2) := by decide +kernel
theorem dX2_init_58 : decode cX2_init 58 = .ok (.putfield 30, 3) := by decide +kernel
theorem dX2_init_61 : decode cX2_init 61 = .ok (.aload_n 0, 1) := by decide +kernel
theorem dX2_init_62 : decode cX2_init 62 = .ok (.new 33, 3) := by decide +kernel
theorem dX2_init_65 : decode cX2_init 65 = .ok (.dup, 1) := by decide +kernel
theorem dX2_init_66 : decode cX2_init 66 = .ok (.bipush 60, 2) := by decide +kernel
theorem dX2_init_68 : decode cX2_init 68 = .ok (.invokespecial 35, 3) := by decide +kernel
theorem dX2_init_71 : decode cX2_init 71 = .ok (.putfield 38, 3) := by decide +kernel
theorem dX2_init_74 : decode cX2_init 74 = .ok (.aload_n 0, 1) := by decide +kernel
theorem dX2_init_75 : decode cX2_init 75 = .ok (.bipush 60, 2) := by decide +kernel
theorem dX2_init_77 : decode cX2_init 77 = .ok (.newarray .int, 2) := by decide +kernel
theorem dX2_init_79 : decode cX2_init 79 = .ok (.putfield 42, 3) := by decide +kernel
theorem dX2_init_82 : decode cX2_init 82 = .ok (.aload_n 0, 1) := by decide +kernel
theorem dX2_init_83 : decode cX2_init 83 = .ok (.getfield 21, 3) := by decide +kernel
theorem dX2_init_86 : decode cX2_init 86 = .ok (.iconst (-1), 1) := by decide +kernel
theorem dX2_init_87 : decode cX2_init 87 = .ok (.invokestatic 45, 3) := by decide +kernel
theorem dX2_init_90 : decode cX2_init 90 = .ok (.aload_n 0, 1) := by decide +kernel
theorem dX2_init_91 : decode cX2_init 91 = .ok (.getfield 24, 3) := by decide +kernel
theorem dX2_init_94 : decode cX2_init 94 = .ok (.iconst (-1), 1) := by decide +kernel
theorem dX2_init_95 : decode cX2_init 95 = .ok (.invokestatic 45, 3) := by decide +kernel
theorem dX2_init_98 : decode cX2_init 98 = .ok (.aload_n 0, 1) := by decide +kernel
theorem dX2_init_99 : decode cX2_init 99 = .ok (.getfield 30, 3) := by decide +kernel
theorem dX2_init_102 : decode cX2_init 102 = .ok (.iconst (-1), 1) := by decide +kernel
theorem dX2_init_103 : decode cX2_init 103 = .ok (.invokestatic 45, 3) := by decide +kernel
theorem dX2_init_106 : decode cX2_init 106 = .ok (.return_, 1) := by decide +kernel
theorem dX2_hasLight_0 : decode cX2_hasLight 0 = .ok (.iload_n 1, 1) := by decide +kernel
theorem dX2_hasLight_1 : decode cX2_hasLight 1 = .ok (.ifCond .lt 22, 3) := by decide +kernel
theorem dX2_hasLight_4 : decode cX2_hasLight 4 = .ok (.iload_n 1, 1) := by decide +kernel
theorem dX2_hasLight_5 : decode cX2_hasLight 5 = .ok (.bipush 16, 2) := by decide +kernel
theorem dX2_hasLight_7 : decode cX2_hasLight 7 = .ok (.if_icmp .ge 16, 3) := by decide +kernel
theorem dX2_hasLight_10 : decode cX2_hasLight 10 = .ok (.aload_n 0, 1) := by decide +kernel
theorem dX2_hasLight_11 : decode cX2_hasLight 11 = .ok (.getfield 18, 3) := by decide +kernel
theorem dX2_hasLight_14 : decode cX2_hasLight 14 = .ok (.iload_n 1, 1) := by decide +kernel
theorem dX2_hasLight_15 : decode cX2_hasLight 15 = .ok (.iaload, 1) := by decide +kernel
theorem dX2_hasLight_16 : decode cX2_hasLight 16 = .ok (.ifCond .le 7, 3) := by decide +kernel
theorem dX2_hasLight_19 : decode cX2_hasLight 19 = .ok (.iconst 1, 1) := by decide +kernel
theorem dX2_hasLight_20 : decode cX2_hasLight 20 = .ok (.goto 4, 3) := by decide +kernel
theorem dX2_hasLight_23 : decode cX2_hasLight 23 = .ok (.iconst 0, 1) := by decide +kernel
theorem dX2_hasLight_24 : decode cX2_hasLight 24 = .ok (.ireturn, 1) := by decide +kernel
theorem dX2_isCell_0 : decode cX2_isCell 0 = .ok (.iload_n 1, 1) := by decide +kernel
theorem dX2_isCell_1 : decode cX2_isCell 1 = .ok (.ifCond .lt 23, 3) := by decide +kernel
theorem dX2_isCell_4 : decode cX2_isCell 4 = .ok (.iload_n 1, 1) := by decide +kernel
theorem dX2_isCell_5 : decode cX2_isCell 5 = .ok (.bipush 9, 2) := by decide +kernel
theorem dX2_isCell_7 : decode cX2_isCell 7 = .ok (.if_icmp .ge 17, 3) := by decide +kernel
theorem dX2_isCell_10 : decode cX2_isCell 10 = .ok (.iload_n 2, 1) := by decide +kernel
theorem dX2_isCell_11 : decode cX2_isCell 11 = .ok (.ifCond .lt 13, 3) := by decide +kernel
theorem dX2_isCell_14 : decode cX2_isCell 14 = .ok (.iload_n 2, 1) := by decide +kernel
theorem dX2_isCell_15 : decode cX2_isCell 15 = .ok (.bipush 9, 2) := by decide +kernel
theorem dX2_isCell_17 : decode cX2_isCell 17 = .ok (.if_icmp .ge 7, 3) := by decide +kernel
theorem dX2_isCell_20 : decode cX2_isCell 20 = .ok (.iconst 1, 1) := by decide +kernel
theorem dX2_isCell_21 : decode cX2_isCell 21 = .ok (.goto 4, 3) := by decide +kernel
theorem dX2_isCell_24 : decode cX2_isCell 24 = .ok (.iconst 0, 1) := by decide +kernel
theorem dX2_isCell_25 : decode cX2_isCell 25 = .ok (.ireturn, 1) := by decide +kernel
theorem dX2_isLit_0 : decode cX2_isLit 0 = .ok (.aload_n 0, 1) := by decide +kernel
theorem dX2_isLit_1 : decode cX2_isLit 1 = .ok (.iload_n 1, 1) := by decide +kernel
theorem dX2_isLit_2 : decode cX2_isLit 2 = .ok (.iload_n 2, 1) := by decide +kernel
theorem dX2_isLit_3 : decode cX2_isLit 3 = .ok (.invokevirtual 51, 3) := by decide +kernel
theorem dX2_isLit_6 : decode cX2_isLit 6 = .ok (.ifCond .ne 5, 3) := by decide +kernel
theorem dX2_isLit_9 : decode cX2_isLit 9 = .ok (.iconst 0, 1) := by decide +kernel
theorem dX2_isLit_10 : decode cX2_isLit 10 = .ok (.ireturn, 1) := by decide +kernel
theorem dX2_isLit_11 : decode cX2_isLit 11 = .ok (.iload_n 1, 1) := by decide +kernel
theorem dX2_isLit_12 : decode cX2_isLit 12 = .ok (.bipush 9, 2) := by decide +kernel
theorem dX2_isLit_14 : decode cX2_isLit 14 = .ok (.imul, 1) := by decide +kernel
theorem dX2_isLit_15 : decode cX2_isLit 15 = .ok (.iload_n 2, 1) := by decide +kernel
theorem dX2_isLit_16 : decode cX2_isLit 16 = .ok (.iadd, 1) := by decide +kernel
theorem dX2_isLit_17 : decode cX2_isLit 17 = .ok (.istore_n 3, 1) := by decide +kernel
theorem dX2_isLit_18 : decode cX2_isLit 18 = .ok (.aload_n 0, 1) := by decide +kernel
theorem dX2_isLit_19 : decode cX2_isLit 19 = .ok (.getfield 21, 3) := by decide +kernel
theorem dX2_isLit_22 : decode cX2_isLit 22 = .ok (.iload_n 3, 1) := by decide +kernel
theorem dX2_isLit_23 : decode cX2_isLit 23 = .ok (.iaload, 1) := by decide +kernel
theorem dX2_isLit_24 : decode cX2_isLit 24 = .ok (.iconst (-1), 1) := by decide +kernel
theorem dX2_isLit_25 : decode cX2_isLit 25 = .ok (.if_icmp .ne 13, 3) := by decide +kernel
theorem dX2_isLit_28 : decode cX2_isLit 28 = .ok (.aload_n 0, 1) := by decide +kernel
theorem dX2_isLit_29 : decode cX2_isLit 29 = .ok (.getfield 24, 3) := by decide +kernel
theorem dX2_isLit_32 : decode cX2_isLit 32 = .ok (.iload_n 3, 1) := by decide +kernel
theorem dX2_isLit_33 : decode cX2_isLit 33 = .ok (.iaload, 1) := by decide +kernel
theorem dX2_isLit_34 : decode cX2_isLit 34 = .ok (.iconst (-1), 1) := by decide +kernel
theorem dX2_isLit_35 : decode cX2_isLit 35 = .ok (.if_icmp .eq 7, 3) := by decide +kernel
theorem dX2_isLit_38 : decode cX2_isLit 38 = .ok (.iconst 1, 1) := by decide +kernel
theorem dX2_isLit_39 : decode cX2_isLit 39 = .ok (.goto 4, 3) := by decide +kernel
theorem dX2_isLit_42 : decode cX2_isLit 42 = .ok (.iconst 0, 1) := by decide +kernel
theorem dX2_isLit_43 : decode cX2_isLit 43 = .ok (.ireturn, 1) := by decide +kernel
theorem dX2_addLight_0 : decode cX2_addLight 0 = .ok (.aload_n 0, 1) := by decide +kernel
theorem dX2_addLight_1 : decode cX2_addLight 1 = .ok (.iload_n 1, 1) := by decide +kernel
theorem dX2_addLight_2 : decode cX2_addLight 2 = .ok (.invokevirtual 55, 3) := by decide +kernel
theorem dX2_addLight_5 : decode cX2_addLight 5 = .ok (.ifCond .ne 30, 3) := by decide +kernel
theorem dX2_addLight_8 : decode cX2_addLight 8 = .ok (.aload_n 0, 1) := by decide +kernel
theorem dX2_addLight_9 : decode cX2_addLight 9 = .ok (.iload_n 2, 1) := by decide +kernel
theorem dX2_addLight_10 : decode cX2_addLight 10 = .ok (.iload_n 3, 1) := by decide +kernel
theorem dX2_addLight_11 : decode cX2_addLight 11 = .ok (.invokevirtual 51, 3) := by decide +kernel
theorem dX2_addLight_14 : decode cX2_addLight 14 = .ok (.ifCond .eq 21, 3) := by decide +kernel
theorem dX2_addLight_17 : decode cX2_addLight 17 = .ok (.iload 4, 2) := by decide +kernel
theorem dX2_addLight_19 : decode cX2_addLight 19 = .ok (.ifCond .eq 7, 3) := by decide +kernel
theorem dX2_addLight_22 : decode cX2_addLight 22 = .ok (.iload_n 2, 1) := by decide +kernel
theorem dX2_addLight_23 : decode cX2_addLight 23 = .ok (.goto 4, 3) := by decide +kernel
theorem dX2_addLight_26 : decode cX2_addLight 26 = .ok (.iload_n 3, 1) := by decide +kernel
theorem dX2_addLight_27 : decode cX2_addLight 27 = .ok (.iload 5, 2) := by decide +kernel
theorem dX2_addLight_29 : decode cX2_addLight 29 = .ok (.iadd, 1) := by decide +kernel
theorem dX2_addLight_30 : decode cX2_addLight 30 = .ok (.bipush 9, 2) := by decide +kernel
theorem dX2_addLight_32 : decode cX2_addLight 32 = .ok (.if_icmp .le 5, 3) := by decide +kernel
theorem dX2_addLight_35 : decode cX2_addLight 35 = .ok (.iconst 0, 1) := by decide +kernel
theorem dX2_addLight_36 : decode cX2_addLight 36 = .ok (.ireturn, 1) := by decide +kernel
theorem dX2_addLight_37 : decode cX2_addLight 37 = .ok (.iload 4, 2) := by decide +kernel
theorem dX2_addLight_39 : decode cX2_addLight 39 = .ok (.ifCond .eq 10, 3) := by decide +kernel
theorem dX2_addLight_42 : decode cX2_addLight 42 = .ok (.aload_n 0, 1) := by decide +kernel
theorem dX2_addLight_43 : decode cX2_addLight 43 = .ok (.getfield 24, 3) := by decide +kernel
theorem dX2_addLight_46 : decode cX2_addLight 46 = .ok (.goto 7, 3) := by decide +kernel
theorem dX2_addLight_49 : decode cX2_addLight 49 = .ok (.aload_n 0, 1) := by decide +kernel
theorem dX2_addLight_50 : decode cX2_addLight 50 = .ok (.getfield 21, 3) := by decide +kernel
theorem dX2_addLight_53 : decode cX2_addLight 53 = .ok (.astore 6, 2) := by decide +kernel
theorem dX2_addLight_55 : decode cX2_addLight 55 = .ok (.iload_n 2, 1) := by decide +kernel
theorem dX2_addLight_56 : decode cX2_addLight 56 = .ok (.bipush 9, 2) := by decide +kernel
theorem dX2_addLight_58 : decode cX2_addLight 58 = .ok (.imul, 1) := by decide +kernel
theorem dX2_addLight_59 : decode cX2_addLight 59 = .ok (.iload_n 3, 1) := by decide +kernel
theorem dX2_addLight_60 : decode cX2_addLight 60 = .ok (.iadd, 1) := by decide +kernel
theorem dX2_addLight_61 : decode cX2_addLight 61 = .ok (.istore 7, 2) := by decide +kernel
theorem dX2_addLight_63 : decode cX2_addLight 63 = .ok (.iload 4, 2) := by decide +kernel
theorem dX2_addLight_65 : decode cX2_addLight 65 = .ok (.ifCond .eq 8, 3) := by decide +kernel
theorem dX2_addLight_68 : decode cX2_addLight 68 = .ok (.bipush 9, 2) := by decide +kernel
theorem dX2_addLight_70 : decode cX2_addLight 70 = .ok (.goto 4, 3) := by decide +kernel
theorem dX2_addLight_73 : decode cX2_addLight 73 = .ok (.iconst 1, 1) := by decide +kernel
theorem dX2_addLight_74 : decode cX2_addLight 74 = .ok (.istore 8, 2) := by decide +kernel
theorem dX2_addLight_76 : decode cX2_addLight 76 = .ok (.iconst 0, 1) := by decide +kernel
theorem dX2_addLight_77 : decode cX2_addLight 77 = .ok (.istore 9, 2) := by decide +kernel
theorem dX2_addLight_79 : decode cX2_addLight 79 = .ok (.iload 9, 2) := by decide +kernel
theorem dX2_addLight_81 : decode cX2_addLight 81 = .ok (.iload 5, 2) := by decide +kernel
theorem dX2_addLight_83 : decode cX2_addLight 83 = .ok (.if_icmp .ge 26, 3) := by decide +kernel
theorem dX2_addLight_86 : decode cX2_addLight 86 = .ok (.aload 6, 2) := by decide +kernel
theorem dX2_addLight_88 : decode cX2_addLight 88 = .ok (.iload 7, 2) := by decide +kernel
theorem dX2_addLight_90 : decode cX2_addLight 90 = .ok (.iload 9, 2) := by decide +kernel
theorem dX2_addLight_92 : decode cX2_addLight 92 = .ok (.iload 8, 2) := by decide +kernel
theorem dX2_addLight_94 : decode cX2_addLight 94 = .ok (.imul, 1) := by decide +kernel
theorem dX2_addLight_95 : decode cX2_addLight 95 = .ok (.iadd, 1) := by decide +kernel
theorem dX2_addLight_96 : decode cX2_addLight 96 = .ok (.iaload, 1) := by decide +kernel
theorem dX2_addLight_97 : decode cX2_addLight 97 = .ok (.iconst (-1), 1) := by decide +kernel
theorem dX2_addLight_98 : decode cX2_addLight 98 = .ok (.if_icmp .eq 5, 3) := by decide +kernel
theorem dX2_addLight_101 : decode cX2_addLight 101 = .ok (.iconst 0, 1) := by decide +kernel
theorem dX2_addLight_102 : decode cX2_addLight 102 = .ok (.ireturn, 1) := by decide +kernel
theorem dX2_addLight_103 : decode cX2_addLight 103 = .ok (.iinc 9 1, 3) := by decide +kernel
theorem dX2_addLight_106 : decode cX2_addLight 106 = .ok (.goto (-27), 3) := by decide +kernel
theorem dX2_addLight_109 : decode cX2_addLight 109 = .ok (.aload_n 0, 1) := by decide +kernel
theorem dX2_addLight_110 : decode cX2_addLight 110 = .ok (.getfield 9, 3) := by decide +kernel
theorem dX2_addLight_113 : decode cX2_addLight 113 = .ok (.iload_n 1, 1) := by decide +kernel
theorem dX2_addLight_114 : decode cX2_addLight 114 = .ok (.iload 7, 2) := by decide +kernel
theorem dX2_addLight_116 : decode cX2_addLight 116 = .ok (.iastore, 1) := by decide +kernel
theorem dX2_addLight_117 : decode cX2_addLight 117 = .ok (.aload_n 0, 1) := by decide +kernel
theorem dX2_addLight_118 : decode cX2_addLight 118 = .ok (.getfield 15, 3) := by decide +kernel
theorem dX2_addLight_121 : decode cX2_addLight 121 = .ok (.iload_n 1, 1) := by decide +kernel
theorem dX2_addLight_122 : decode cX2_addLight 122 = .ok (.iload 8, 2) := by decide +kernel
theorem dX2_addLight_124 : decode cX2_addLight 124 = .ok (.iastore, 1) := by decide +kernel
theorem dX2_addLight_125 : decode cX2_addLight 125 = .ok (.aload_n 0, 1) := by decide +kernel
theorem dX2_addLight_126 : decode cX2_addLight 126 = .ok (.getfield 18, 3) := by decide +kernel
theorem dX2_addLight_129 : decode cX2_addLight 129 = .ok (.iload_n 1, 1) := by decide +kernel
theorem dX2_addLight_130 : decode cX2_addLight 130 = .ok (.iload 5, 2) := by decide +kernel
theorem dX2_addLight_132 : decode cX2_addLight 132 = .ok (.iastore, 1) := by decide +kernel
theorem dX2_addLight_133 : decode cX2_addLight 133 = .ok (.aload_n 0, 1) := by decide +kernel
theorem dX2_addLight_134 : decode cX2_addLight 134 = .ok (.dup, 1) := by decide +kernel
theorem dX2_addLight_135 : decode cX2_addLight 135 = .ok (.getfield 59, 3) := by decide +kernel
theorem dX2_addLight_138 : decode cX2_addLight 138 = .ok (.iconst 1, 1) := by decide +kernel
theorem dX2_addLight_139 : decode cX2_addLight 139 = .ok (.iadd, 1) := by decide +kernel
theorem dX2_addLight_140 : decode cX2_addLight 140 = .ok (.putfield 59, 3) := by decide +kernel
theorem dX2_addLight_143 : decode cX2_addLight 143 = .ok (.aload_n 0, 1) := by decide +kernel
theorem dX2_addLight_144 : decode cX2_addLight 144 = .ok (.dup, 1) := by decide +kernel
theorem dX2_addLight_145 : decode cX2_addLight 145 = .ok (.getfield 63, 3) := by decide +kernel
theorem dX2_addLight_148 : decode cX2_addLight 148 = .ok (.iload 5, 2) := by decide +kernel
theorem dX2_addLight_150 : decode cX2_addLight 150 = .ok (.iadd, 1) := by decide +kernel
theorem dX2_addLight_151 : decode cX2_addLight 151 = .ok (.putfield 63, 3) := by decide +kernel
theorem dX2_addLight_154 : decode cX2_addLight 154 = .ok (.iconst 0, 1) := by decide +kernel
theorem dX2_addLight_155 : decode cX2_addLight 155 = .ok (.istore 9, 2) := by decide +kernel
theorem dX2_addLight_157 : decode cX2_addLight 157 = .ok (.iload 9, 2) := by decide +kernel
theorem dX2_addLight_159 : decode cX2_addLight 159 = .ok (.iload 5, 2) := by decide +kernel
theorem dX2_addLight_161 : decode cX2_addLight 161 = .ok (.if_icmp .ge 44, 3) := by decide +kernel
theorem dX2_addLight_164 : decode cX2_addLight 164 = .ok (.aload 6, 2) := by decide +kernel
theorem dX2_addLight_166 : decode cX2_addLight 166 = .ok (.iload 7, 2) := by decide +kernel
theorem dX2_addLight_168 : decode cX2_addLight 168 = .ok (.iload 9, 2) := by decide +kernel
theorem dX2_addLight_170 : decode cX2_addLight 170 = .ok (.iload 8, 2) := by decide +kernel
theorem dX2_addLight_172 : decode cX2_addLight 172 = .ok (.imul, 1) := by decide +kernel
theorem dX2_addLight_173 : decode cX2_addLight 173 = .ok (.iadd, 1) := by decide +kernel
theorem dX2_addLight_174 : decode cX2_addLight 174 = .ok (.iload_n 1, 1) := by decide +kernel
theorem dX2_addLight_175 : decode cX2_addLight 175 = .ok (.iastore, 1) := by decide +kernel
theorem dX2_addLight_176 : decode cX2_addLight 176 = .ok (.aload_n 0, 1) := by decide +kernel
theorem dX2_addLight_177 : decode cX2_addLight 177 = .ok (.iload_n 1, 1) := by decide +kernel
theorem dX2_addLight_178 : decode cX2_addLight 178 = .ok (.iload 9, 2) := by decide +kernel
theorem dX2_addLight_180 : decode cX2_addLight 180 = .ok (.iload 4, 2) := by decide +kernel
theorem dX2_addLight_182 : decode cX2_addLight 182 = .ok (.ifCond .eq 10, 3) := by decide +kernel
theorem dX2_addLight_185 : decode cX2_addLight 185 = .ok (.aload_n 0, 1) := by decide +kernel
theorem dX2_addLight_186 : decode cX2_addLight 186 = .ok (.getfield 21, 3) := by decide +kernel
theorem dX2_addLight_189 : decode cX2_addLight 189 = .ok (.goto 7, 3) := by decide +kernel
theorem dX2_addLight_192 : decode cX2_addLight 192 = .ok (.aload_n 0, 1) := by decide +kernel
theorem dX2_addLight_193 : decode cX2_addLight 193 = .ok (.getfield 24, 3) := by decide +kernel
theorem dX2_addLight_196 : decode cX2_addLight 196 = .ok (.invokevirtual 66, 3) := by decide +kernel
theorem dX2_addLight_199 : decode cX2_addLight 199 = .ok (.iinc 9 1, 3) := by decide +kernel
theorem dX2_addLight_202 : decode cX2_addLight 202 = .ok (.goto (-45), 3) := by decide +kernel
theorem dX2_addLight_205 : decode cX2_addLight 205 = .ok (.iconst 1, 1) := by decide +kernel
theorem dX2_addLight_206 : decode cX2_addLight 206 = .ok (.ireturn, 1) := by decide +kernel
theorem dX2_cross_0 : decode cX2_cross 0 = .ok (.aload_n 0, 1) := by decide +kernel
theorem dX2_cross_1 : decode cX2_cross 1 = .ok (.iload_n 1, 1) := by decide +kernel
theorem dX2_cross_2 : decode cX2_cross 2 = .ok (.iload_n 2, 1) := by decide +kernel
theorem dX2_cross_3 : decode cX2_cross 3 = .ok (.invokevirtual 70, 3) := by decide +kernel
theorem dX2_cross_6 : decode cX2_cross 6 = .ok (.istore 4, 2) := by decide +kernel
theorem dX2_cross_8 : decode cX2_cross 8 = .ok (.aload_n 3, 1) := by decide +kernel
theorem dX2_cross_9 : decode cX2_cross 9 = .ok (.iload 4, 2) := by decide +kernel
theorem dX2_cross_11 : decode cX2_cross 11 = .ok (.iaload, 1) := by decide +kernel
theorem dX2_cross_12 : decode cX2_cross 12 = .ok (.istore 5, 2) := by decide +kernel
theorem dX2_cross_14 : decode cX2_cross 14 = .ok (.iload 5, 2) := by decide +kernel
theorem dX2_cross_16 : decode cX2_cross 16 = .ok (.iconst (-1), 1) := by decide +kernel
theorem dX2_cross_17 : decode cX2_cross 17 = .ok (.if_icmp .eq 56, 3) := by decide +kernel
theorem dX2_cross_20 : decode cX2_cross 20 = .ok (.aload_n 0, 1) := by decide +kernel
theorem dX2_cross_21 : decode cX2_cross 21 = .ok (.getfield 15, 3) := by decide +kernel
theorem dX2_cross_24 : decode cX2_cross 24 = .ok (.iload 5, 2) := by decide +kernel
theorem dX2_cross_26 : decode cX2_cross 26 = .ok (.iaload, 1) := by decide +kernel
theorem dX2_cross_27 : decode cX2_cross 27 = .ok (.ifCond .eq 46, 3) := by decide +kernel
theorem dX2_cross_30 : decode cX2_cross 30 = .ok (.aload_n 0, 1) := by decide +kernel
theorem dX2_cross_31 : decode cX2_cross 31 = .ok (.getfield 30, 3) := by decide +kernel
theorem dX2_cross_34 : decode cX2_cross 34 = .ok (.iload_n 1, 1) := by decide +kernel
theorem dX2_cross_35 : decode cX2_cross 35 = .ok (.bipush 16, 2) := by decide +kernel
theorem dX2_cross_37 : decode cX2_cross 37 = .ok (.imul, 1) := by decide +kernel
theorem dX2_cross_38 : decode cX2_cross 38 = .ok (.iload 5, 2) := by decide +kernel
theorem dX2_cross_40 : decode cX2_cross 40 = .ok (.iadd, 1) := by decide +kernel
theorem dX2_cross_41 : decode cX2_cross 41 = .ok (.iload_n 2, 1) := by decide +kernel
theorem dX2_cross_42 : decode cX2_cross 42 = .ok (.iastore, 1) := by decide +kernel
theorem dX2_cross_43 : decode cX2_cross 43 = .ok (.aload_n 0, 1) := by decide +kernel
theorem dX2_cross_44 : decode cX2_cross 44 = .ok (.getfield 30, 3) := by decide +kernel
theorem dX2_cross_47 : decode cX2_cross 47 = .ok (.iload 5, 2) := by decide +kernel
theorem dX2_cross_49 : decode cX2_cross 49 = .ok (.bipush 16, 2) := by decide +kernel
theorem dX2_cross_51 : decode cX2_cross 51 = .ok (.imul, 1) := by decide +kernel
theorem dX2_cross_52 : decode cX2_cross 52 = .ok (.iload_n 1, 1) := by decide +kernel
theorem dX2_cross_53 : decode cX2_cross 53 = .ok (.iadd, 1) := by decide +kernel
theorem dX2_cross_54 : decode cX2_cross 54 = .ok (.iload 4, 2) := by decide +kernel
theorem dX2_cross_56 : decode cX2_cross 56 = .ok (.aload_n 0, 1) := by decide +kernel
theorem dX2_cross_57 : decode cX2_cross 57 = .ok (.getfield 9, 3) := by decide +kernel
theorem dX2_cross_60 : decode cX2_cross 60 = .ok (.iload 5, 2) := by decide +kernel
theorem dX2_cross_62 : decode cX2_cross 62 = .ok (.iaload, 1) := by decide +kernel
theorem dX2_cross_63 : decode cX2_cross 63 = .ok (.isub, 1) := by decide +kernel
theorem dX2_cross_64 : decode cX2_cross 64 = .ok (.aload_n 0, 1) := by decide +kernel
theorem dX2_cross_65 : decode cX2_cross 65 = .ok (.getfield 15, 3) := by decide +kernel
theorem dX2_cross_68 : decode cX2_cross 68 = .ok (.iload 5, 2) := by decide +kernel
theorem dX2_cross_70 : decode cX2_cross 70 = .ok (.iaload, 1) := by decide +kernel
theorem dX2_cross_71 : decode cX2_cross 71 = .ok (.idiv, 1) := by decide +kernel
theorem dX2_cross_72 : decode cX2_cross 72 = .ok (.iastore, 1) := by decide +kernel
theorem dX2_cross_73 : decode cX2_cross 73 = .ok (.return_, 1) := by decide +kernel
theorem dX2_cellOf_0 : decode cX2_cellOf 0 = .ok (.aload_n 0, 1) := by decide +kernel
theorem dX2_cellOf_1 : decode cX2_cellOf 1 = .ok (.getfield 9, 3) := by decide +kernel
theorem dX2_cellOf_4 : decode cX2_cellOf 4 = .ok (.iload_n 1, 1) := by decide +kernel
theorem dX2_cellOf_5 : decode cX2_cellOf 5 = .ok (.iaload, 1) := by decide +kernel
theorem dX2_cellOf_6 : decode cX2_cellOf 6 = .ok (.iload_n 2, 1) := by decide +kernel
theorem dX2_cellOf_7 : decode cX2_cellOf 7 = .ok (.aload_n 0, 1) := by decide +kernel
theorem dX2_cellOf_8 : decode cX2_cellOf 8 = .ok (.getfield 15, 3) := by decide +kernel
theorem dX2_cellOf_11 : decode cX2_cellOf 11 = .ok (.iload_n 1, 1) := by decide +kernel
theorem dX2_cellOf_12 : decode cX2_cellOf 12 = .ok (.iaload, 1) := by decide +kernel
theorem dX2_cellOf_13 : decode cX2_cellOf 13 = .ok (.imul, 1) := by decide +kernel
theorem dX2_cellOf_14 : decode cX2_cellOf 14 = .ok (.iadd, 1) := by decide +kernel
theorem dX2_cellOf_15 : decode cX2_cellOf 15 = .ok (.ireturn, 1) := by decide +kernel
theorem dX2_crossingOf_0 : decode cX2_crossingOf 0 = .ok (.aload_n 0, 1) := by decide +kernel
theorem dX2_crossingOf_1 : decode cX2_crossingOf 1 = .ok (.getfield 30, 3) := by decide +kernel
theorem dX2_crossingOf_4 : decode cX2_crossingOf 4 = .ok (.iload_n 1, 1) := by decide +kernel
theorem dX2_crossingOf_5 : decode cX2_crossingOf 5 = .ok (.bipush 16, 2) := by decide +kernel
theorem dX2_crossingOf_7 : decode cX2_crossingOf 7 = .ok (.imul, 1) := by decide +kernel
theorem dX2_crossingOf_8 : decode cX2_crossingOf 8 = .ok (.iload_n 2, 1) := by decide +kernel
theorem dX2_crossingOf_9 : decode cX2_crossingOf 9 = .ok (.iadd, 1) := by decide +kernel
theorem dX2_crossingOf_10 : decode cX2_crossingOf 10 = .ok (.iaload, 1) := by decide +kernel
theorem dX2_crossingOf_11 : decode cX2_crossingOf 11 = .ok (.ireturn, 1) := by decide +kernel
theorem dX2_addSolution_0 : decode cX2_addSolution 0 = .ok (.aload_n 0, 1) := by decide +kernel
theorem dX2_addSolution_1 : decode cX2_addSolution 1 = .ok (.getfield 38, 3) := by decide +kernel
theorem dX2_addSolution_4 : decode cX2_addSolution 4 = .ok (.iload_n 1, 1) := by decide +kernel
theorem dX2_addSolution_5 : decode cX2_addSolution 5 = .ok (.iload_n 3, 1) := by decide +kernel
theorem dX2_addSolution_6 : decode cX2_addSolution 6 = .ok (.invokevirtual 74, 3) := by decide +kernel
theorem dX2_addSolution_9 : decode cX2_addSolution 9 = .ok (.istore 4, 2) := by decide +kernel
theorem dX2_addSolution_11 : decode cX2_addSolution 11 = .ok (.iload 4, 2) := by decide +kernel
theorem dX2_addSolution_13 : decode cX2_addSolution 13 = .ok (.iconst (-1), 1) := by decide +kernel
theorem dX2_addSolution_14 : decode cX2_addSolution 14 = .ok (.if_icmp .ne 5, 3) := by decide +kernel
theorem dX2_addSolution_17 : decode cX2_addSolution 17 = .ok (.iconst 0, 1) := by decide +kernel
theorem dX2_addSolution_18 : decode cX2_addSolution 18 = .ok (.ireturn, 1) := by decide +kernel
theorem dX2_addSolution_19 : decode cX2_addSolution 19 = .ok (.aload_n 0, 1) := by decide +kernel
theorem dX2_addSolution_20 : decode cX2_addSolution 20 = .ok (.getfield 42, 3) := by decide +kernel
theorem dX2_addSolution_23 : decode cX2_addSolution 23 = .ok (.iload 4, 2) := by decide +kernel
theorem dX2_addSolution_25 : decode cX2_addSolution 25 = .ok (.iload_n 2, 1) := by decide +kernel
theorem dX2_addSolution_26 : decode cX2_addSolution 26 = .ok (.iastore, 1) := by decide +kernel
theorem dX2_addSolution_27 : decode cX2_addSolution 27 = .ok (.iconst 1, 1) := by decide +kernel
theorem dX2_addSolution_28 : decode cX2_addSolution 28 = .ok (.ireturn, 1) := by decide +kernel
theorem dX2_solutionOf_0 : decode cX2_solutionOf 0 = .ok (.aload_n 0, 1) := by decide +kernel
theorem dX2_solutionOf_1 : decode cX2_solutionOf 1 = .ok (.getfield 38, 3) := by decide +kernel
theorem dX2_solutionOf_4 : decode cX2_solutionOf 4 = .ok (.iload_n 1, 1) := by decide +kernel
theorem dX2_solutionOf_5 : decode cX2_solutionOf 5 = .ok (.iload_n 2, 1) := by decide +kernel
theorem dX2_solutionOf_6 : decode cX2_solutionOf 6 = .ok (.invokevirtual 77, 3) := by decide +kernel
theorem dX2_solutionOf_9 : decode cX2_solutionOf 9 = .ok (.istore_n 3, 1) := by decide +kernel
theorem dX2_solutionOf_10 : decode cX2_solutionOf 10 = .ok (.iload_n 3, 1) := by decide +kernel
theorem dX2_solutionOf_11 : decode cX2_solutionOf 11 = .ok (.iconst (-1), 1) := by decide +kernel
theorem dX2_solutionOf_12 : decode cX2_solutionOf 12 = .ok (.if_icmp .ne 7, 3) := by decide +kernel
theorem dX2_solutionOf_15 : decode cX2_solutionOf 15 = .ok (.iconst (-1), 1) := by decide +kernel
theorem dX2_solutionOf_16 : decode cX2_solutionOf 16 = .ok (.goto 9, 3) := by decide +kernel
theorem dX2_solutionOf_19 : decode cX2_solutionOf 19 = .ok (.aload_n 0, 1) := by decide +kernel
theorem dX2_solutionOf_20 : decode cX2_solutionOf 20 = .ok (.getfield 42, 3) := by decide +kernel
theorem dX2_solutionOf_23 : decode cX2_solutionOf 23 = .ok (.iload_n 3, 1) := by decide +kernel
theorem dX2_solutionOf_24 : decode cX2_solutionOf 24 = .ok (.iaload, 1) := by decide +kernel
theorem dX2_solutionOf_25 : decode cX2_solutionOf 25 = .ok (.ireturn, 1) := by decide +kernel
theorem dX3_init_0 : decode cX3_init 0 = .ok (.aload_n 0, 1) := by decide +kernel
theorem dX3_init_1 : decode cX3_init 1 = .ok (.invokespecial 3, 3) := by decide +kernel
theorem dX3_init_4 : decode cX3_init 4 = .ok (.aload_n 0, 1) := by decide +kernel
theorem dX3_init_5 : decode cX3_init 5 = .ok (.new 9, 3) := by decide +kernel
theorem dX3_init_8 : decode cX3_init 8 = .ok (.dup, 1) := by decide +kernel
theorem dX3_init_9 : decode cX3_init 9 = .ok (.bipush 120, 2) := by decide +kernel
theorem dX3_init_11 : decode cX3_init 11 = .ok (.invokespecial 11, 3) := by decide +kernel
theorem dX3_init_14 : decode cX3_init 14 = .ok (.putfield 14, 3) := by decide +kernel
theorem dX3_init_17 : decode cX3_init 17 = .ok (.aload_n 0, 1) := by decide +kernel
theorem dX3_init_18 : decode cX3_init 18 = .ok (.new 9, 3) := by decide +kernel
theorem dX3_init_21 : decode cX3_init 21 = .ok (.dup, 1) := by decide +kernel
theorem dX3_init_22 : decode cX3_init 22 = .ok (.sipush 240, 3) := by decide +kernel
theorem dX3_init_25 : decode cX3_init 25 = .ok (.invokespecial 11, 3) := by decide +kernel
theorem dX3_init_28 : decode cX3_init 28 = .ok (.putfield 20, 3) := by decide +kernel
theorem dX3_init_31 : decode cX3_init 31 = .ok (.aload_n 0, 1) := by decide +kernel
theorem dX3_init_32 : decode cX3_init 32 = .ok (.new 9, 3) := by decide +kernel
theorem dX3_init_35 : decode cX3_init 35 = .ok (.dup, 1) := by decide +kernel
theorem dX3_init_36 : decode cX3_init 36 = .ok (.bipush 120, 2) := by decide +kernel
theorem dX3_init_38 : decode cX3_init 38 = .ok (.invokespecial 11, 3) := by decide +kernel
theorem dX3_init_41 : decode cX3_init 41 = .ok (.putfield 23, 3) := by decide +kernel
theorem dX3_init_44 : decode cX3_init 44 = .ok (.aload_n 0, 1) := by decide +kernel
theorem dX3_init_45 : decode cX3_init 45 = .ok (.sipush 1200, 3) := by decide +kernel
theorem dX3_init_48 : decode cX3_init 48 = .ok (.newarray .int, 2) := by decide +kernel
theorem dX3_init_50 : decode cX3_init 50 = .ok (.putfield 26, 3) := by decide +kernel
theorem dX3_init_53 : decode cX3_init 53 = .ok (.aload_n 0, 1) := by decide +kernel
theorem dX3_init_54 : decode cX3_init 54 = .ok (.bipush 120, 2) := by decide +kernel
theorem dX3_init_56 : decode cX3_init 56 = .ok (.newarray .int, 2) := by decide +kernel
theorem dX3_init_58 : decode cX3_init 58 = .ok (.putfield 30, 3) := by decide +kernel
theorem dX3_init_61 : decode cX3_init 61 = .ok (.aload_n 0, 1) := by decide +kernel
theorem dX3_init_62 : decode cX3_init 62 = .ok (.sipush 1320, 3) := by decide +kernel
theorem dX3_init_65 : decode cX3_init 65 = .ok (.newarray .int, 2) := by decide +kernel
theorem dX3_init_67 : decode cX3_init 67 = .ok (.putfield 33, 3) := by decide +kernel
theorem dX3_init_70 : decode cX3_init 70 = .ok (.aload_n 0, 1) := by decide +kernel
theorem dX3_init_71 : decode cX3_init 71 = .ok (.sipush 240, 3) := by decide +kernel
theorem dX3_init_74 : decode cX3_init 74 = .ok (.newarray .int, 2) := by decide +kernel
theorem dX3_init_76 : decode cX3_init 76 = .ok (.putfield 36, 3) := by decide +kernel
theorem dX3_init_79 : decode cX3_init 79 = .ok (.aload_n 0, 1) := by decide +kernel
theorem dX3_init_80 : decode cX3_init 80 = .ok (.sipush 240, 3) := by decide +kernel
theorem dX3_init_83 : decode cX3_init 83 = .ok (.newarray .int, 2) := by decide +kernel
theorem dX3_init_85 : decode cX3_init 85 = .ok (.putfield 39, 3) := by decide +kernel
theorem dX3_init_88 : decode cX3_init 88 = .ok (.aload_n 0, 1) := by decide +kernel
theorem dX3_init_89 : decode cX3_init 89 = .ok (.sipush 1200, 3) := by decide +kernel
theorem dX3_init_92 : decode cX3_init 92 = .ok (.newarray .int, 2) := by decide +kernel
theorem dX3_init_94 : decode cX3_init 94 = .ok (.putfield 42, 3) := by decide +kernel
theorem dX3_init_97 : decode cX3_init 97 = .ok (.aload_n 0, 1) := by decide +kernel
theorem dX3_init_98 : decode cX3_init 98 = .ok (.getfield 33, 3) := by decide +kernel
theorem dX3_init_101 : decode cX3_init 101 = .ok (.iconst (-1), 1) := by decide +kernel
theorem dX3_init_102 : decode cX3_init 102 = .ok (.invokestatic 45, 3) := by decide +kernel
theorem dX3_init_105 : decode cX3_init 105 = .ok (.aload_n 0, 1) := by decide +kernel
theorem dX3_init_106 : decode cX3_init 106 = .ok (.getfield 42, 3) := by decide +kernel
theorem dX3_init_109 : decode cX3_init 109 = .ok (.iconst (-1), 1) := by decide +kernel
theorem dX3_init_110 : decode cX3_init 110 = .ok (.invokestatic 45, 3) := by decide +kernel
theorem dX3_init_113 : decode cX3_init 113 = .ok (.return_, 1) := by decide +kernel
theorem dX3_hasWord_0 : decode cX3_hasWord 0 = .ok (.iload_n 1, 1) := by decide +kernel
theorem dX3_hasWord_1 : decode cX3_hasWord 1 = .ok (.ifCond .lt 18, 3) := by decide +kernel
theorem dX3_hasWord_4 : decode cX3_hasWord 4 = .ok (.iload_n 1, 1) := by decide +kernel
theorem dX3_hasWord_5 : decode cX3_hasWord 5 = .ok (.aload_n 0, 1) := by decide +kernel
theorem dX3_hasWord_6 : decode cX3_hasWord 6 = .ok (.getfield 14, 3) := by decide +kernel
theorem dX3_hasWord_9 : decode cX3_hasWord 9 = .ok (.getfield 51, 3) := by decide +kernel
theorem dX3_hasWord_12 : decode cX3_hasWord 12 = .ok (.if_icmp .ge 7, 3) := by decide +kernel
theorem dX3_hasWord_15 : decode cX3_hasWord 15 = .ok (.iconst 1, 1) := by decide +kernel
theorem dX3_hasWord_16 : decode cX3_hasWord 16 = .ok (.goto 4, 3) := by decide +kernel
theorem dX3_hasWord_19 : decode cX3_hasWord 19 = .ok (.iconst 0, 1) := by decide +kernel
theorem dX3_hasWord_20 : decode cX3_hasWord 20 = .ok (.ireturn, 1) := by decide +kernel
theorem dX3_isKnown_0 : decode cX3_isKnown 0 = .ok (.aload_n 0, 1) := by decide +kernel
theorem dX3_isKnown_1 : decode cX3_isKnown 1 = .ok (.iload_n 1, 1) := by decide +kernel
theorem dX3_isKnown_2 : decode cX3_isKnown 2 = .ok (.invokevirtual 55, 3) := by decide +kernel
theorem dX3_isKnown_5 : decode cX3_isKnown 5 = .ok (.ifCond .eq 20, 3) := by decide +kernel
theorem dX3_isKnown_8 : decode cX3_isKnown 8 = .ok (.aload_n 0, 1) := by decide +kernel
theorem dX3_isKnown_9 : decode cX3_isKnown 9 = .ok (.getfield 14, 3) := by decide +kernel
theorem dX3_isKnown_12 : decode cX3_isKnown 12 = .ok (.getfield 59, 3) := by decide +kernel
theorem dX3_isKnown_15 : decode cX3_isKnown 15 = .ok (.iload_n 1, 1) := by decide +kernel
theorem dX3_isKnown_16 : decode cX3_isKnown 16 = .ok (.iaload, 1) := by decide +kernel
theorem dX3_isKnown_17 : decode cX3_isKnown 17 = .ok (.iload_n 2, 1) := by decide +kernel
theorem dX3_isKnown_18 : decode cX3_isKnown 18 = .ok (.if_icmp .gt 7, 3) := by decide +kernel
theorem dX3_isKnown_21 : decode cX3_isKnown 21 = .ok (.iconst 1, 1) := by decide +kernel
theorem dX3_isKnown_22 : decode cX3_isKnown 22 = .ok (.goto 4, 3) := by decide +kernel
theorem dX3_isKnown_25 : decode cX3_isKnown 25 = .ok (.iconst 0, 1) := by decide +kernel
theorem dX3_isKnown_26 : decode cX3_isKnown 26 = .ok (.ireturn, 1) := by decide +kernel
theorem dX3_letterAt_0 : decode cX3_letterAt 0 = .ok (.aload_n 0, 1) := by decide +kernel
theorem dX3_letterAt_1 : decode cX3_letterAt 1 = .ok (.getfield 26, 3) := by decide +kernel
theorem dX3_letterAt_4 : decode cX3_letterAt 4 = .ok (.iload_n 1, 1) := by decide +kernel
theorem dX3_letterAt_5 : decode cX3_letterAt 5 = .ok (.bipush 10, 2) := by decide +kernel
theorem dX3_letterAt_7 : decode cX3_letterAt 7 = .ok (.imul, 1) := by decide +kernel
theorem dX3_letterAt_8 : decode cX3_letterAt 8 = .ok (.iload_n 2, 1) := by decide +kernel
theorem dX3_letterAt_9 : decode cX3_letterAt 9 = .ok (.iadd, 1) := by decide +kernel
theorem dX3_letterAt_10 : decode cX3_letterAt 10 = .ok (.iaload, 1) := by decide +kernel
theorem dX3_letterAt_11 : decode cX3_letterAt 11 = .ok (.ireturn, 1) := by decide +kernel
theorem dX3_addWord_0 : decode cX3_addWord 0 = .ok (.iload_n 2, 1) := by decide +kernel
theorem dX3_addWord_1 : decode cX3_addWord 1 = .ok (.iconst 1, 1) := by decide +kernel
theorem dX3_addWord_2 : decode cX3_addWord 2 = .ok (.if_icmp .lt 19, 3) := by decide +kernel
theorem dX3_addWord_5 : decode cX3_addWord 5 = .ok (.iload_n 2, 1) := by decide +kernel
theorem dX3_addWord_6 : decode cX3_addWord 6 = .ok (.bipush 10, 2) := by decide +kernel
theorem dX3_addWord_8 : decode cX3_addWord 8 = .ok (.if_icmp .gt 13, 3) := by decide +kernel
theorem dX3_addWord_11 : decode cX3_addWord 11 = .ok (.aload_n 0, 1) := by decide +kernel
theorem dX3_addWord_12 : decode cX3_addWord 12 = .ok (.getfield 14, 3) := by decide +kernel
theorem dX3_addWord_15 : decode cX3_addWord 15 = .ok (.invokevirtual 62, 3) := by decide +kernel
theorem dX3_addWord_18 : decode cX3_addWord 18 = .ok (.ifCond .eq 5, 3) := by decide +kernel
theorem dX3_addWord_21 : decode cX3_addWord 21 = .ok (.iconst (-1), 1) := by decide +kernel
theorem dX3_addWord_22 : decode cX3_addWord 22 = .ok (.ireturn, 1) := by decide +kernel
theorem dX3_addWord_23 : decode cX3_addWord 23 = .ok (.iconst 0, 1) := by decide +kernel
theorem dX3_addWord_24 : decode cX3_addWord 24 = .ok (.istore 4, 2) := by decide +kernel
theorem dX3_addWord_26 : decode cX3_addWord 26 = .ok (.iload 4, 2) := by decide +kernel
theorem dX3_addWord_28 : decode cX3_addWord 28 = .ok (.iload_n 2, 1) := by decide +kernel
theorem dX3_addWord_29 : decode cX3_addWord 29 = .ok (.if_icmp .ge 21, 3) := by decide +kernel
theorem dX3_addWord_32 : decode cX3_addWord 32 = .ok (.aload_n 1, 1) := by decide +kernel
theorem dX3_addWord_33 : decode cX3_addWord 33 = .ok (.iload 4, 2) := by decide +kernel
theorem dX3_addWord_35 : decode cX3_addWord 35 = .ok (.iaload, 1) := by decide +kernel
theorem dX3_addWord_36 : decode cX3_addWord 36 = .ok (.invokestatic 66, 3) := by decide +kernel
theorem dX3_addWord_39 : decode cX3_addWord 39 = .ok (.ifCond .ne 5, 3) := by decide +kernel
theorem dX3_addWord_42 : decode cX3_addWord 42 = .ok (.iconst (-1), 1) := by decide +kernel
theorem dX3_addWord_43 : decode cX3_addWord 43 = .ok (.ireturn, 1) := by decide +kernel
theorem dX3_addWord_44 : decode cX3_addWord 44 = .ok (.iinc 4 1, 3) := by decide +kernel
theorem dX3_addWord_47 : decode cX3_addWord 47 = .ok (.goto (-21), 3) := by decide +kernel
theorem dX3_addWord_50 : decode cX3_addWord 50 = .ok (.aload_n 0, 1) := by decide +kernel
theorem dX3_addWord_51 : decode cX3_addWord 51 = .ok (.aload_n 1, 1) := by decide +kernel
theorem dX3_addWord_52 : decode cX3_addWord 52 = .ok (.iconst 0, 1) := by decide +kernel
theorem dX3_addWord_53 : decode cX3_addWord 53 = .ok (.iload_n 2, 1) := by decide +kernel
theorem dX3_addWord_54 : decode cX3_addWord 54 = .ok (.invokevirtual 69, 3) := by decide +kernel
theorem dX3_addWord_57 : decode cX3_addWord 57 = .ok (.iconst (-1), 1) := by decide +kernel
theorem dX3_addWord_58 : decode cX3_addWord 58 = .ok (.if_icmp .eq 5, 3) := by decide +kernel
theorem dX3_addWord_61 : decode cX3_addWord 61 = .ok (.iconst (-1), 1) := by decide +kernel
theorem dX3_addWord_62 : decode cX3_addWord 62 = .ok (.ireturn, 1) := by decide +kernel
theorem dX3_addWord_63 : decode cX3_addWord 63 = .ok (.aload_n 0, 1) := by decide +kernel
theorem dX3_addWord_64 : decode cX3_addWord 64 = .ok (.getfield 14, 3) := by decide +kernel
theorem dX3_addWord_67 : decode cX3_addWord 67 = .ok (.iconst 0, 1) := by decide +kernel
theorem dX3_addWord_68 : decode cX3_addWord 68 = .ok (.iload_n 3, 1) := by decide +kernel
theorem dX3_addWord_69 : decode cX3_addWord 69 = .ok (.invokevirtual 73, 3) := by decide +kernel
theorem dX3_addWord_72 : decode cX3_addWord 72 = .ok (.istore 4, 2) := by decide +kernel
theorem dX3_addWord_74 : decode cX3_addWord 74 = .ok (.aload_n 0, 1) := by decide +kernel
theorem dX3_addWord_75 : decode cX3_addWord 75 = .ok (.getfield 30, 3) := by decide +kernel
theorem dX3_addWord_78 : decode cX3_addWord 78 = .ok (.iload 4, 2) := by decide +kernel
theorem dX3_addWord_80 : decode cX3_addWord 80 = .ok (.iload_n 2, 1) := by decide +kernel
theorem dX3_addWord_81 : decode cX3_addWord 81 = .ok (.iastore, 1) := by decide +kernel
theorem dX3_addWord_82 : decode cX3_addWord 82 = .ok (.aload_n 1, 1) := by decide +kernel
theorem dX3_addWord_83 : decode cX3_addWord 83 = .ok (.iconst 0, 1) := by decide +kernel
theorem dX3_addWord_84 : decode cX3_addWord 84 = .ok (.aload_n 0, 1) := by decide +kernel
theorem dX3_addWord_85 : decode cX3_addWord 85 = .ok (.getfield 26, 3) := by decide +kernel
theorem dX3_addWord_88 : decode cX3_addWord 88 = .ok (.iload 4, 2) := by decide +kernel
theorem dX3_addWord_90 : decode cX3_addWord 90 = .ok (.bipush 10, 2) := by decide +kernel
theorem dX3_addWord_92 : decode cX3_addWord 92 = .ok (.imul, 1) := by decide +kernel
theorem dX3_addWord_93 : decode cX3_addWord 93 = .ok (.iload_n 2, 1) := by decide +kernel
theorem dX3_addWord_94 : decode cX3_addWord 94 = .ok (.invokestatic 77, 3) := by decide +kernel
theorem dX3_addWord_97 : decode cX3_addWord 97 = .ok (.iload 4, 2) := by decide +kernel
theorem dX3_addWord_99 : decode cX3_addWord 99 = .ok (.ireturn, 1) := by decide +kernel
theorem dX3_addMeaning_0 : decode cX3_addMeaning 0 = .ok (.aload_n 0, 1) := by decide +kernel
theorem dX3_addMeaning_1 : decode cX3_addMeaning 1 = .ok (.iload_n 1, 1) := by decide +kernel
theorem dX3_addMeaning_2 : decode cX3_addMeaning 2 = .ok (.invokevirtual 55, 3) := by decide +kernel
theorem dX3_addMeaning_5 : decode cX3_addMeaning 5 = .ok (.ifCond .eq 26, 3) := by decide +kernel
theorem dX3_addMeaning_8 : decode cX3_addMeaning 8 = .ok (.aload_n 0, 1) := by decide +kernel
theorem dX3_addMeaning_9 : decode cX3_addMeaning 9 = .ok (.iload_n 2, 1) := by decide +kernel
theorem dX3_addMeaning_10 : decode cX3_addMeaning 10 = .ok (.invokevirtual 55, 3) := by decide +kernel
theorem dX3_addMeaning_13 : decode cX3_addMeaning 13 = .ok (.ifCond .eq 18, 3) := by decide +kernel
theorem dX3_addMeaning_16 : decode cX3_addMeaning 16 = .ok (.iload_n 1, 1) := by decide +kernel
theorem dX3_addMeaning_17 : decode cX3_addMeaning 17 = .ok (.iload_n 2, 1) := by decide +kernel
theorem dX3_addMeaning_18 : decode cX3_addMeaning 18 = .ok (.if_icmp .eq 13, 3) := by decide +kernel
theorem dX3_addMeaning_21 : decode cX3_addMeaning 21 = .ok (.aload_n 0, 1) := by decide +kernel
theorem dX3_addMeaning_22 : decode cX3_addMeaning 22 = .ok (.getfield 20, 3) := by decide +kernel
theorem dX3_addMeaning_25 : decode cX3_addMeaning 25 = .ok (.invokevirtual 62, 3) := by decide +kernel
theorem dX3_addMeaning_28 : decode cX3_addMeaning 28 = .ok (.ifCond .eq 5, 3) := by decide +kernel
theorem dX3_addMeaning_31 : decode cX3_addMeaning 31 = .ok (.iconst 0, 1) := by decide +kernel
theorem dX3_addMeaning_32 : decode cX3_addMeaning 32 = .ok (.ireturn, 1) := by decide +kernel
theorem dX3_addMeaning_33 : decode cX3_addMeaning 33 = .ok (.aload_n 0, 1) := by decide +kernel
theorem dX3_addMeaning_34 : decode cX3_addMeaning 34 = .ok (.iload_n 1, 1) := by decide +kernel
theorem dX3_addMeaning_35 : decode cX3_addMeaning 35 = .ok (.iload_n 2, 1) := by decide +kernel
theorem dX3_addMeaning_36 : decode cX3_addMeaning 36 = .ok (.aload_n 0, 1) := by decide +kernel
theorem dX3_addMeaning_37 : decode cX3_addMeaning 37 = .ok (.getfield 20, 3) := by decide +kernel
theorem dX3_addMeaning_40 : decode cX3_addMeaning 40 = .ok (.getfield 51, 3) := by decide +kernel
theorem dX3_addMeaning_43 : decode cX3_addMeaning 43 = .ok (.invokevirtual 83, 3) := by decide +kernel
theorem dX3_addMeaning_46 : decode cX3_addMeaning 46 = .ok (.ifCond .eq 5, 3) := by decide +kernel
theorem dX3_addMeaning_49 : decode cX3_addMeaning 49 = .ok (.iconst 0, 1) := by decide +kernel
theorem dX3_addMeaning_50 : decode cX3_addMeaning 50 = .ok (.ireturn, 1) := by decide +kernel
theorem dX3_addMeaning_51 : decode cX3_addMeaning 51 = .ok (.aload_n 0, 1) := by decide +kernel
theorem dX3_addMeaning_52 : decode cX3_addMeaning 52 = .ok (.getfield 20, 3) := by decide +kernel
theorem dX3_addMeaning_55 : decode cX3_addMeaning 55 = .ok (.iload_n 1, 1) := by decide +kernel
theorem dX3_addMeaning_56 : decode cX3_addMeaning 56 = .ok (.iload_n 3, 1) := by decide +kernel
theorem dX3_addMeaning_57 : decode cX3_addMeaning 57 = .ok (.invokevirtual 73, 3) := by decide +kernel
theorem dX3_addMeaning_60 : decode cX3_addMeaning 60 = .ok (.istore 4, 2) := by decide +kernel
theorem dX3_addMeaning_62 : decode cX3_addMeaning 62 = .ok (.aload_n 0, 1) := by decide +kernel
theorem dX3_addMeaning_63 : decode cX3_addMeaning 63 = .ok (.iload_n 1, 1) := by decide +kernel
theorem dX3_addMeaning_64 : decode cX3_addMeaning 64 = .ok (.aload_n 0, 1) := by decide +kernel
theorem dX3_addMeaning_65 : decode cX3_addMeaning 65 = .ok (.getfield 30, 3) := by decide +kernel
theorem dX3_addMeaning_68 : decode cX3_addMeaning 68 = .ok (.iload_n 2, 1) := by decide +kernel
theorem dX3_addMeaning_69 : decode cX3_addMeaning 69 = .ok (.iaload, 1) := by decide +kernel
theorem dX3_addMeaning_70 : decode cX3_addMeaning 70 = .ok (.invokevirtual 87, 3) := by decide +kernel
theorem dX3_addMeaning_73 : decode cX3_addMeaning 73 = .ok (.istore 5, 2) := by decide +kernel
theorem dX3_addMeaning_75 : decode cX3_addMeaning 75 = .ok (.aload_n 0, 1) := by decide +kernel
theorem dX3_addMeaning_76 : decode cX3_addMeaning 76 = .ok (.getfield 39, 3) := by decide +kernel
theorem dX3_addMeaning_79 : decode cX3_addMeaning 79 = .ok (.iload 4, 2) := by decide +kernel
theorem dX3_addMeaning_81 : decode cX3_addMeaning 81 = .ok (.iload_n 2, 1) := by decide +kernel
theorem dX3_addMeaning_82 : decode cX3_addMeaning 82 = .ok (.iastore, 1) := by decide +kernel
theorem dX3_addMeaning_83 : decode cX3_addMeaning 83 = .ok (.aload_n 0, 1) := by decide +kernel
theorem dX3_addMeaning_84 : decode cX3_addMeaning 84 = .ok (.getfield 36, 3) := by decide +kernel
theorem dX3_addMeaning_87 : decode cX3_addMeaning 87 = .ok (.iload 4, 2) := by decide +kernel
theorem dX3_addMeaning_89 : decode cX3_addMeaning 89 = .ok (.aload_n 0, 1) := by decide +kernel
theorem dX3_addMeaning_90 : decode cX3_addMeaning 90 = .ok (.getfield 33, 3) := by decide +kernel
theorem dX3_addMeaning_93 : decode cX3_addMeaning 93 = .ok (.iload 5, 2) := by decide +kernel
theorem dX3_addMeaning_95 : decode cX3_addMeaning 95 = .ok (.iaload, 1) := by decide +kernel
theorem dX3_addMeaning_96 : decode cX3_addMeaning 96 = .ok (.iastore, 1) := by decide +kernel
theorem dX3_addMeaning_97 : decode cX3_addMeaning 97 = .ok (.aload_n 0, 1) := by decide +kernel
theorem dX3_addMeaning_98 : decode cX3_addMeaning 98 = .ok (.getfield 33, 3) := by decide +kernel
theorem dX3_addMeaning_101 : decode cX3_addMeaning 101 = .ok (.iload 5, 2) := by decide +kernel
theorem dX3_addMeaning_103 : decode cX3_addMeaning 103 = .ok (.iload 4, 2) := by decide +kernel
theorem dX3_addMeaning_105 : decode cX3_addMeaning 105 = .ok (.iastore, 1) := by decide +kernel
theorem dX3_addMeaning_106 : decode cX3_addMeaning 106 = .ok (.iconst 1, 1) := by decide +kernel
theorem dX3_addMeaning_107 : decode cX3_addMeaning 107 = .ok (.ireturn, 1) := by decide +kernel
theorem dX3_addSign_0 : decode cX3_addSign 0 = .ok (.aload_n 0, 1) := by decide +kernel
theorem dX3_addSign_1 : decode cX3_addSign 1 = .ok (.iload_n 1, 1) := by decide +kernel
theorem dX3_addSign_2 : decode cX3_addSign 2 = .ok (.invokevirtual 55, 3) := by decide +kernel
theorem dX3_addSign_5 : decode cX3_addSign 5 = .ok (.ifCond .eq 23, 3) := by decide +kernel
theorem dX3_addSign_8 : decode cX3_addSign 8 = .ok (.iload_n 2, 1) := by decide +kernel
theorem dX3_addSign_9 : decode cX3_addSign 9 = .ok (.ifCond .lt 19, 3) := by decide +kernel
theorem dX3_addSign_12 : decode cX3_addSign 12 = .ok (.iload_n 2, 1) := by decide +kernel
theorem dX3_addSign_13 : decode cX3_addSign 13 = .ok (.bipush 10, 2) := by decide +kernel
theorem dX3_addSign_15 : decode cX3_addSign 15 = .ok (.if_icmp .ge 13, 3) := by decide +kernel
theorem dX3_addSign_18 : decode cX3_addSign 18 = .ok (.aload_n 0, 1) := by decide +kernel
theorem dX3_addSign_19 : decode cX3_addSign 19 = .ok (.getfield 23, 3) := by decide +kernel
theorem dX3_addSign_22 : decode cX3_addSign 22 = .ok (.invokevirtual 62, 3) := by decide +kernel
theorem dX3_addSign_25 : decode cX3_addSign 25 = .ok (.ifCond .eq 5, 3) := by decide +kernel
theorem dX3_addSign_28 : decode cX3_addSign 28 = .ok (.iconst 0, 1) := by decide +kernel
theorem dX3_addSign_29 : decode cX3_addSign 29 = .ok (.ireturn, 1) := by decide +kernel
theorem dX3_addSign_30 : decode cX3_addSign 30 = .ok (.aload_n 0, 1) := by decide +kernel
theorem dX3_addSign_31 : decode cX3_addSign 31 = .ok (.getfield 42, 3) := by decide +kernel
theorem dX3_addSign_34 : decode cX3_addSign 34 = .ok (.iload_n 1, 1) := by decide +kernel
theorem dX3_addSign_35 : decode cX3_addSign 35 = .ok (.bipush 10, 2) := by decide +kernel
theorem dX3_addSign_37 : decode cX3_addSign 37 = .ok (.imul, 1) := by decide +kernel
theorem dX3_addSign_38 : decode cX3_addSign 38 = .ok (.iload_n 2, 1) := by decide +kernel
theorem dX3_addSign_39 : decode cX3_addSign 39 = .ok (.iadd, 1) := by decide +kernel
theorem dX3_addSign_40 : decode cX3_addSign 40 = .ok (.iaload, 1) := by decide +kernel
theorem dX3_addSign_41 : decode cX3_addSign 41 = .ok (.iconst (-1), 1) := by decide +kernel
theorem dX3_addSign_42 : decode cX3_addSign 42 = .ok (.if_icmp .eq 5, 3) := by decide +kernel
theorem dX3_addSign_45 : decode cX3_addSign 45 = .ok (.iconst 0, 1) := by decide +kernel
theorem dX3_addSign_46 : decode cX3_addSign 46 = .ok (.ireturn, 1) := by decide +kernel
theorem dX3_addSign_47 : decode cX3_addSign 47 = .ok (.aload_n 0, 1) := by decide +kernel
theorem dX3_addSign_48 : decode cX3_addSign 48 = .ok (.getfield 42, 3) := by decide +kernel
theorem dX3_addSign_51 : decode cX3_addSign 51 = .ok (.iload_n 1, 1) := by decide +kernel
theorem dX3_addSign_52 : decode cX3_addSign 52 = .ok (.bipush 10, 2) := by decide +kernel
theorem dX3_addSign_54 : decode cX3_addSign 54 = .ok (.imul, 1) := by decide +kernel
theorem dX3_addSign_55 : decode cX3_addSign 55 = .ok (.iload_n 2, 1) := by decide +kernel
theorem dX3_addSign_56 : decode cX3_addSign 56 = .ok (.iadd, 1) := by decide +kernel
theorem dX3_addSign_57 : decode cX3_addSign 57 = .ok (.aload_n 0, 1) := by decide +kernel
theorem dX3_addSign_58 : decode cX3_addSign 58 = .ok (.getfield 23, 3) := by decide +kernel
theorem dX3_addSign_61 : decode cX3_addSign 61 = .ok (.iload_n 1, 1) := by decide +kernel
theorem dX3_addSign_62 : decode cX3_addSign 62 = .ok (.iload_n 3, 1) := by decide +kernel
theorem dX3_addSign_63 : decode cX3_addSign 63 = .ok (.invokevirtual 73, 3) := by decide +kernel
theorem dX3_addSign_66 : decode cX3_addSign 66 = .ok (.iastore, 1) := by decide +kernel
theorem dX3_addSign_67 : decode cX3_addSign 67 = .ok (.iconst 1, 1) := by decide +kernel
theorem dX3_addSign_68 : decode cX3_addSign 68 = .ok (.ireturn, 1) := by decide +kernel
theorem dX3_playsOf_0 : decode cX3_playsOf 0 = .ok (.iconst 0, 1) := by decide +kernel
theorem dX3_playsOf_1 : decode cX3_playsOf 1 = .ok (.istore_n 3, 1) := by decide +kernel
theorem dX3_playsOf_2 : decode cX3_playsOf 2 = .ok (.iconst 0, 1) := by decide +kernel
theorem dX3_playsOf_3 : decode cX3_playsOf 3 = .ok (.istore 4, 2) := by decide +kernel
theorem dX3_playsOf_5 : decode cX3_playsOf 5 = .ok (.iload 4, 2) := by decide +kernel
theorem dX3_playsOf_7 : decode cX3_playsOf 7 = .ok (.bipush 10, 2) := by decide +kernel
theorem dX3_playsOf_9 : decode cX3_playsOf 9 = .ok (.if_icmp .ge 42, 3) := by decide +kernel
theorem dX3_playsOf_12 : decode cX3_playsOf 12 = .ok (.aload_n 0, 1) := by decide +kernel
theorem dX3_playsOf_13 : decode cX3_playsOf 13 = .ok (.getfield 42, 3) := by decide +kernel
theorem dX3_playsOf_16 : decode cX3_playsOf 16 = .ok (.iload_n 1, 1) := by decide +kernel
theorem dX3_playsOf_17 : decode cX3_playsOf 17 = .ok (.bipush 10, 2) := by decide +kernel
theorem dX3_playsOf_19 : decode cX3_playsOf 19 = .ok (.imul, 1) := by decide +kernel
theorem dX3_playsOf_20 : decode cX3_playsOf 20 = .ok (.iload 4, 2) := by decide +kernel
theorem dX3_playsOf_22 : decode cX3_playsOf 22 = .ok (.iadd, 1) := by decide +kernel
theorem dX3_playsOf_23 : decode cX3_playsOf 23 = .ok (.iaload, 1) := by decide +kernel
theorem dX3_playsOf_24 : decode cX3_playsOf 24 = .ok (.istore 5, 2) := by decide +kernel
theorem dX3_playsOf_26 : decode cX3_playsOf 26 = .ok (.iload 5, 2) := by decide +kernel
theorem dX3_playsOf_28 : decode cX3_playsOf 28 = .ok (.iconst (-1), 1) := by decide +kernel
theorem dX3_playsOf_29 : decode cX3_playsOf 29 = .ok (.if_icmp .eq 16, 3) := by decide +kernel
theorem dX3_playsOf_32 : decode cX3_playsOf 32 = .ok (.iload 5, 2) := by decide +kernel
theorem dX3_playsOf_34 : decode cX3_playsOf 34 = .ok (.iload_n 2, 1) := by decide +kernel
theorem dX3_playsOf_35 : decode cX3_playsOf 35 = .ok (.if_icmp .ge 10, 3) := by decide +kernel
theorem dX3_playsOf_38 : decode cX3_playsOf 38 = .ok (.iload_n 3, 1) := by decide +kernel
theorem dX3_playsOf_39 : decode cX3_playsOf 39 = .ok (.iconst 1, 1) := by decide +kernel
theorem dX3_playsOf_40 : decode cX3_playsOf 40 = .ok (.iload 4, 2) := by decide +kernel
theorem dX3_playsOf_42 : decode cX3_playsOf 42 = .ok (.ishl, 1) := by decide +kernel
theorem dX3_playsOf_43 : decode cX3_playsOf 43 = .ok (.ior, 1) := by decide +kernel
theorem dX3_playsOf_44 : decode cX3_playsOf 44 = .ok (.istore_n 3, 1) := by decide +kernel
theorem dX3_playsOf_45 : decode cX3_playsOf 45 = .ok (.iinc 4 1, 3) := by decide +kernel
theorem dX3_playsOf_48 : decode cX3_playsOf 48 = .ok (.goto (-43), 3) := by decide +kernel
theorem dX3_playsOf_51 : decode cX3_playsOf 51 = .ok (.iload_n 3, 1) := by decide +kernel
theorem dX3_playsOf_52 : decode cX3_playsOf 52 = .ok (.ireturn, 1) := by decide +kernel
theorem dX3_chainOf_0 : decode cX3_chainOf 0 = .ok (.iload_n 1, 1) := by decide +kernel
theorem dX3_chainOf_1 : decode cX3_chainOf 1 = .ok (.bipush 11, 2) := by decide +kernel
theorem dX3_chainOf_3 : decode cX3_chainOf 3 = .ok (.imul, 1) := by decide +kernel
theorem dX3_chainOf_4 : decode cX3_chainOf 4 = .ok (.iload_n 2, 1) := by decide +kernel
theorem dX3_chainOf_5 : decode cX3_chainOf 5 = .ok (.iadd, 1) := by decide +kernel
theorem dX3_chainOf_6 : decode cX3_chainOf 6 = .ok (.ireturn, 1) := by decide +kernel
theorem dX3_isMeant_0 : decode cX3_isMeant 0 = .ok (.aload_n 0, 1) := by decide +kernel
theorem dX3_isMeant_1 : decode cX3_isMeant 1 = .ok (.getfield 33, 3) := by decide +kernel
theorem dX3_isMeant_4 : decode cX3_isMeant 4 = .ok (.aload_n 0, 1) := by decide +kernel
theorem dX3_isMeant_5 : decode cX3_isMeant 5 = .ok (.iload_n 1, 1) := by decide +kernel
theorem dX3_isMeant_6 : decode cX3_isMeant 6 = .ok (.aload_n 0, 1) := by decide +kernel
theorem dX3_isMeant_7 : decode cX3_isMeant 7 = .ok (.getfield 30, 3) := by decide +kernel
theorem dX3_isMeant_10 : decode cX3_isMeant 10 = .ok (.iload_n 2, 1) := by decide +kernel
theorem dX3_isMeant_11 : decode cX3_isMeant 11 = .ok (.iaload, 1) := by decide +kernel
theorem dX3_isMeant_12 : decode cX3_isMeant 12 = .ok (.invokevirtual 87, 3) := by decide +kernel
theorem dX3_isMeant_15 : decode cX3_isMeant 15 = .ok (.iaload, 1) := by decide +kernel
theorem dX3_isMeant_16 : decode cX3_isMeant 16 = .ok (.istore 4, 2) := by decide +kernel
theorem dX3_isMeant_18 : decode cX3_isMeant 18 = .ok (.iconst 0, 1) := by decide +kernel
theorem dX3_isMeant_19 : decode cX3_isMeant 19 = .ok (.istore 5, 2) := by decide +kernel
theorem dX3_isMeant_21 : decode cX3_isMeant 21 = .ok (.iload 5, 2) := by decide +kernel
theorem dX3_isMeant_23 : decode cX3_isMeant 23 = .ok (.sipush 240, 3) := by decide +kernel
theorem dX3_isMeant_26 : decode cX3_isMeant 26 = .ok (.if_icmp .ge 47, 3) := by decide +kernel
theorem dX3_isMeant_29 : decode cX3_isMeant 29 = .ok (.iload 4, 2) := by decide +kernel
theorem dX3_isMeant_31 : decode cX3_isMeant 31 = .ok (.iconst (-1), 1) := by decide +kernel
theorem dX3_isMeant_32 : decode cX3_isMeant 32 = .ok (.if_icmp .eq 41, 3) := by decide +kernel
theorem dX3_isMeant_35 : decode cX3_isMeant 35 = .ok (.aload_n 0, 1) := by decide +kernel
theorem dX3_isMeant_36 : decode cX3_isMeant 36 = .ok (.getfield 39, 3) := by decide +kernel
theorem dX3_isMeant_39 : decode cX3_isMeant 39 = .ok (.iload 4, 2) := by decide +kernel
theorem dX3_isMeant_41 : decode cX3_isMeant 41 = .ok (.iaload, 1) := by decide +kernel
theorem dX3_isMeant_42 : decode cX3_isMeant 42 = .ok (.iload_n 2, 1) := by decide +kernel
theorem dX3_isMeant_43 : decode cX3_isMeant 43 = .ok (.if_icmp .ne 15, 3) := by decide +kernel
theorem dX3_isMeant_46 : decode cX3_isMeant 46 = .ok (.iload 4, 2) := by decide +kernel
theorem dX3_isMeant_48 : decode cX3_isMeant 48 = .ok (.iload_n 3, 1) := by decide +kernel
theorem dX3_isMeant_49 : decode cX3_isMeant 49 = .ok (.if_icmp .ge 7, 3) := by decide +kernel
theorem dX3_isMeant_52 : decode cX3_isMeant 52 = .ok (.iconst 1, 1) := by decide +kernel
theorem dX3_isMeant_53 : decode cX3_isMeant 53 = .ok (.goto 4, 3) := by decide +kernel
theorem dX3_isMeant_56 : decode cX3_isMeant 56 = .ok (.iconst 0, 1) := by decide +kernel
theorem dX3_isMeant_57 : decode cX3_isMeant 57 = .ok (.ireturn, 1) := by decide +kernel
theorem dX3_isMeant_58 : decode cX3_isMeant 58 = .ok (.aload_n 0, 1) := by decide +kernel
theorem dX3_isMeant_59 : decode cX3_isMeant 59 = .ok (.getfield 36, 3) := by decide +kernel
theorem dX3_isMeant_62 : decode cX3_isMeant 62 = .ok (.iload 4, 2) := by decide +kernel
theorem dX3_isMeant_64 : decode cX3_isMeant 64 = .ok (.iaload, 1) := by decide +kernel
theorem dX3_isMeant_65 : decode cX3_isMeant 65 = .ok (.istore 4, 2) := by decide +kernel
theorem dX3_isMeant_67 : decode cX3_isMeant 67 = .ok (.iinc 5 1, 3) := by decide +kernel
theorem dX3_isMeant_70 : decode cX3_isMeant 70 = .ok (.goto (-49), 3) := by decide +kernel
theorem dX3_isMeant_73 : decode cX3_isMeant 73 = .ok (.iconst 0, 1) := by decide +kernel
theorem dX3_isMeant_74 : decode cX3_isMeant 74 = .ok (.ireturn, 1) := by decide +kernel
theorem dX3_find_0 : decode cX3_find 0 = .ok (.iconst 0, 1) := by decide +kernel
theorem dX3_find_1 : decode cX3_find 1 = .ok (.istore 4, 2) := by decide +kernel
theorem dX3_find_3 : decode cX3_find 3 = .ok (.iload 4, 2) := by decide +kernel
theorem dX3_find_5 : decode cX3_find 5 = .ok (.aload_n 0, 1) := by decide +kernel
theorem dX3_find_6 : decode cX3_find 6 = .ok (.getfield 14, 3) := by decide +kernel
theorem dX3_find_9 : decode cX3_find 9 = .ok (.getfield 51, 3) := by decide +kernel
theorem dX3_find_12 : decode cX3_find 12 = .ok (.if_icmp .ge 36, 3) := by decide +kernel
theorem dX3_find_15 : decode cX3_find 15 = .ok (.aload_n 0, 1) := by decide +kernel
theorem dX3_find_16 : decode cX3_find 16 = .ok (.getfield 30, 3) := by decide +kernel
theorem dX3_find_19 : decode cX3_find 19 = .ok (.iload 4, 2) := by decide +kernel
theorem dX3_find_21 : decode cX3_find 21 = .ok (.iaload, 1) := by decide +kernel
theorem dX3_find_22 : decode cX3_find 22 = .ok (.iload_n 3, 1) := by decide +kernel
theorem dX3_find_23 : decode cX3_find 23 = .ok (.if_icmp .ne 19, 3) := by decide +kernel
theorem dX3_find_26 : decode cX3_find 26 = .ok (.aload_n 0, 1) := by decide +kernel
theorem dX3_find_27 : decode cX3_find 27 = .ok (.iload 4, 2) := by decide +kernel
theorem dX3_find_29 : decode cX3_find 29 = .ok (.iconst 0, 1) := by decide +kernel
theorem dX3_find_30 : decode cX3_find 30 = .ok (.aload_n 1, 1) := by decide +kernel
theorem dX3_find_31 : decode cX3_find 31 = .ok (.iload_n 2, 1) := by decide +kernel
theorem dX3_find_32 : decode cX3_find 32 = .ok (.iload_n 3, 1) := by decide +kernel
theorem dX3_find_33 : decode cX3_find 33 = .ok (.invokevirtual 90, 3) := by decide +kernel
theorem dX3_find_36 : decode cX3_find 36 = .ok (.ifCond .eq 6, 3) := by decide +kernel
theorem dX3_find_39 : decode cX3_find 39 = .ok (.iload 4, 2) := by decide +kernel
theorem dX3_find_41 : decode cX3_find 41 = .ok (.ireturn, 1) := by decide +kernel
theorem dX3_find_42 : decode cX3_find 42 = .ok (.iinc 4 1, 3) := by decide +kernel
theorem dX3_find_45 : decode cX3_find 45 = .ok (.goto (-42), 3) := by decide +kernel
theorem dX3_find_48 : decode cX3_find 48 = .ok (.iconst (-1), 1) := by decide +kernel
theorem dX3_find_49 : decode cX3_find 49 = .ok (.ireturn, 1) := by decide +kernel
theorem dX3_isSpelled_0 : decode cX3_isSpelled 0 = .ok (.iload_n 1, 1) := by decide +kernel
theorem dX3_isSpelled_1 : decode cX3_isSpelled 1 = .ok (.bipush 10, 2) := by decide +kernel
theorem dX3_isSpelled_3 : decode cX3_isSpelled 3 = .ok (.imul, 1) := by decide +kernel
theorem dX3_isSpelled_4 : decode cX3_isSpelled 4 = .ok (.iload_n 2, 1) := by decide +kernel
theorem dX3_isSpelled_5 : decode cX3_isSpelled 5 = .ok (.iadd, 1) := by decide +kernel
theorem dX3_isSpelled_6 : decode cX3_isSpelled 6 = .ok (.istore 6, 2) := by decide +kernel
theorem dX3_isSpelled_8 : decode cX3_isSpelled 8 = .ok (.iconst 0, 1) := by decide +kernel
theorem dX3_isSpelled_9 : decode cX3_isSpelled 9 = .ok (.istore 7, 2) := by decide +kernel
theorem dX3_isSpelled_11 : decode cX3_isSpelled 11 = .ok (.iload 7, 2) := by decide +kernel
theorem dX3_isSpelled_13 : decode cX3_isSpelled 13 = .ok (.iload 5, 2) := by decide +kernel
theorem dX3_isSpelled_15 : decode cX3_isSpelled 15 = .ok (.if_icmp .ge 31, 3) := by decide +kernel
theorem dX3_isSpelled_18 : decode cX3_isSpelled 18 = .ok (.aload_n 0, 1) := by decide +kernel
theorem dX3_isSpelled_19 : decode cX3_isSpelled 19 = .ok (.getfield 26, 3) := by decide +kernel
theorem dX3_isSpelled_22 : decode cX3_isSpelled 22 = .ok (.iload 6, 2) := by decide +kernel
theorem dX3_isSpelled_24 : decode cX3_isSpelled 24 = .ok (.iload 7, 2) := by decide +kernel
theorem dX3_isSpelled_26 : decode cX3_isSpelled 26 = .ok (.iadd, 1) := by decide +kernel
theorem dX3_isSpelled_27 : decode cX3_isSpelled 27 = .ok (.iaload, 1) := by decide +kernel
theorem dX3_isSpelled_28 : decode cX3_isSpelled 28 = .ok (.aload_n 3, 1) := by decide +kernel
theorem dX3_isSpelled_29 : decode cX3_isSpelled 29 = .ok (.iload 4, 2) := by decide +kernel
theorem dX3_isSpelled_31 : decode cX3_isSpelled 31 = .ok (.iload 7, 2) := by decide +kernel
theorem dX3_isSpelled_33 : decode cX3_isSpelled 33 = .ok (.iadd, 1) := by decide +kernel
theorem dX3_isSpelled_34 : decode cX3_isSpelled 34 = .ok (.iaload, 1) := by decide +kernel
theorem dX3_isSpelled_35 : decode cX3_isSpelled 35 = .ok (.if_icmp .eq 5, 3) := by decide +kernel
theorem dX3_isSpelled_38 : decode cX3_isSpelled 38 = .ok (.iconst 0, 1) := by decide +kernel
theorem dX3_isSpelled_39 : decode cX3_isSpelled 39 = .ok (.ireturn, 1) := by decide +kernel
theorem dX3_isSpelled_40 : decode cX3_isSpelled 40 = .ok (.iinc 7 1, 3) := by decide +kernel
theorem dX3_isSpelled_43 : decode cX3_isSpelled 43 = .ok (.goto (-32), 3) := by decide +kernel
theorem dX3_isSpelled_46 : decode cX3_isSpelled 46 = .ok (.iconst 1, 1) := by decide +kernel
theorem dX3_isSpelled_47 : decode cX3_isSpelled 47 = .ok (.ireturn, 1) := by decide +kernel
theorem dX4_init_0 : decode cX4_init 0 = .ok (.aload_n 0, 1) := by decide +kernel
theorem dX4_init_1 : decode cX4_init 1 = .ok (.invokespecial 3, 3) := by decide +kernel
theorem dX4_init_4 : decode cX4_init 4 = .ok (.iconst 0, 1) := by decide +kernel
theorem dX4_init_5 : decode cX4_init 5 = .ok (.iload_n 1, 1) := by decide +kernel
theorem dX4_init_6 : decode cX4_init 6 = .ok (.invokestatic 9, 3) := by decide +kernel
theorem dX4_init_9 : decode cX4_init 9 = .ok (.istore_n 2, 1) := by decide +kernel
theorem dX4_init_10 : decode cX4_init 10 = .ok (.aload_n 0, 1) := by decide +kernel
theorem dX4_init_11 : decode cX4_init 11 = .ok (.iload_n 2, 1) := by decide +kernel
theorem dX4_init_12 : decode cX4_init 12 = .ok (.newarray .int, 2) := by decide +kernel
theorem dX4_init_14 : decode cX4_init 14 = .ok (.putfield 15, 3) := by decide +kernel
theorem dX4_init_17 : decode cX4_init 17 = .ok (.aload_n 0, 1) := by decide +kernel
theorem dX4_init_18 : decode cX4_init 18 = .ok (.iload_n 2, 1) := by decide +kernel
theorem dX4_init_19 : decode cX4_init 19 = .ok (.newarray .int, 2) := by decide +kernel
theorem dX4_init_21 : decode cX4_init 21 = .ok (.putfield 21, 3) := by decide +kernel
theorem dX4_init_24 : decode cX4_init 24 = .ok (.return_, 1) := by decide +kernel
theorem dX4_isFull_0 : decode cX4_isFull 0 = .ok (.aload_n 0, 1) := by decide +kernel
theorem dX4_isFull_1 : decode cX4_isFull 1 = .ok (.getfield 24, 3) := by decide +kernel
theorem dX4_isFull_4 : decode cX4_isFull 4 = .ok (.aload_n 0, 1) := by decide +kernel
theorem dX4_isFull_5 : decode cX4_isFull 5 = .ok (.getfield 15, 3) := by decide +kernel
theorem dX4_isFull_8 : decode cX4_isFull 8 = .ok (.arraylength, 1) := by decide +kernel
theorem dX4_isFull_9 : decode cX4_isFull 9 = .ok (.if_icmp .lt 7, 3) := by decide +kernel
theorem dX4_isFull_12 : decode cX4_isFull 12 = .ok (.iconst 1, 1) := by decide +kernel
theorem dX4_isFull_13 : decode cX4_isFull 13 = .ok (.goto 4, 3) := by decide +kernel
theorem dX4_isFull_16 : decode cX4_isFull 16 = .ok (.iconst 0, 1) := by decide +kernel
theorem dX4_isFull_17 : decode cX4_isFull 17 = .ok (.ireturn, 1) := by decide +kernel
theorem dX4_add_0 : decode cX4_add 0 = .ok (.aload_n 0, 1) := by decide +kernel
theorem dX4_add_1 : decode cX4_add 1 = .ok (.invokevirtual 28, 3) := by decide +kernel
theorem dX4_add_4 : decode cX4_add 4 = .ok (.ifCond .eq 5, 3) := by decide +kernel
theorem dX4_add_7 : decode cX4_add 7 = .ok (.iconst (-1), 1) := by decide +kernel
theorem dX4_add_8 : decode cX4_add 8 = .ok (.ireturn, 1) := by decide +kernel
theorem dX4_add_9 : decode cX4_add 9 = .ok (.aload_n 0, 1) := by decide +kernel
theorem dX4_add_10 : decode cX4_add 10 = .ok (.getfield 15, 3) := by decide +kernel
theorem dX4_add_13 : decode cX4_add 13 = .ok (.aload_n 0, 1) := by decide +kernel
theorem dX4_add_14 : decode cX4_add 14 = .ok (.getfield 24, 3) := by decide +kernel
theorem dX4_add_17 : decode cX4_add 17 = .ok (.iload_n 2, 1) := by decide +kernel
theorem dX4_add_18 : decode cX4_add 18 = .ok (.iastore, 1) := by decide +kernel
theorem dX4_add_19 : decode cX4_add 19 = .ok (.aload_n 0, 1) := by decide +kernel
theorem dX4_add_20 : decode cX4_add 20 = .ok (.getfield 21, 3) := by decide +kernel
theorem dX4_add_23 : decode cX4_add 23 = .ok (.aload_n 0, 1) := by decide +kernel
theorem dX4_add_24 : decode cX4_add 24 = .ok (.getfield 24, 3) := by decide +kernel
theorem dX4_add_27 : decode cX4_add 27 = .ok (.iload_n 1, 1) := by decide +kernel
theorem dX4_add_28 : decode cX4_add 28 = .ok (.iastore, 1) := by decide +kernel
theorem dX4_add_29 : decode cX4_add 29 = .ok (.aload_n 0, 1) := by decide +kernel
theorem dX4_add_30 : decode cX4_add 30 = .ok (.dup, 1) := by decide +kernel
theorem dX4_add_31 : decode cX4_add 31 = .ok (.getfield 24, 3) := by decide +kernel
theorem dX4_add_34 : decode cX4_add 34 = .ok (.iconst 1, 1) := by decide +kernel
theorem dX4_add_35 : decode cX4_add 35 = .ok (.iadd, 1) := by decide +kernel
theorem dX4_add_36 : decode cX4_add 36 = .ok (.putfield 24, 3) := by decide +kernel
theorem dX4_add_39 : decode cX4_add 39 = .ok (.aload_n 0, 1) := by decide +kernel
theorem dX4_add_40 : decode cX4_add 40 = .ok (.getfield 24, 3) := by decide +kernel
theorem dX4_add_43 : decode cX4_add 43 = .ok (.iconst 1, 1) := by decide +kernel
theorem dX4_add_44 : decode cX4_add 44 = .ok (.isub, 1) := by decide +kernel
theorem dX4_add_45 : decode cX4_add 45 = .ok (.ireturn, 1) := by decide +kernel
theorem dX4_knownOn_0 : decode cX4_knownOn 0 = .ok (.aload_n 0, 1) := by decide +kernel
theorem dX4_knownOn_1 : decode cX4_knownOn 1 = .ok (.getfield 24, 3) := by decide +kernel
theorem dX4_knownOn_4 : decode cX4_knownOn 4 = .ok (.istore_n 2, 1) := by decide +kernel
theorem dX4_knownOn_5 : decode cX4_knownOn 5 = .ok (.iload_n 2, 1) := by decide +kernel
theorem dX4_knownOn_6 : decode cX4_knownOn 6 = .ok (.ifCond .le 21, 3) := by decide +kernel
theorem dX4_knownOn_9 : decode cX4_knownOn 9 = .ok (.aload_n 0, 1) := by decide +kernel
theorem dX4_knownOn_10 : decode cX4_knownOn 10 = .ok (.getfield 15, 3) := by decide +kernel
theorem dX4_knownOn_13 : decode cX4_knownOn 13 = .ok (.iload_n 2, 1) := by decide +kernel
theorem dX4_knownOn_14 : decode cX4_knownOn 14 = .ok (.iconst 1, 1) := by decide +kernel
theorem dX4_knownOn_15 : decode cX4_knownOn 15 = .ok (.isub, 1) := by decide +kernel
theorem dX4_knownOn_16 : decode cX4_knownOn 16 = .ok (.iaload, 1) := by decide +kernel
theorem dX4_knownOn_17 : decode cX4_knownOn 17 = .ok (.iload_n 1, 1) := by decide +kernel
theorem dX4_knownOn_18 : decode cX4_knownOn 18 = .ok (.if_icmp .le 9, 3) := by decide +kernel
theorem dX4_knownOn_21 : decode cX4_knownOn 21 = .ok (.iinc 2 (-1), 3) := by decide +kernel
theorem dX4_knownOn_24 : decode cX4_knownOn 24 = .ok (.goto (-19), 3) := by decide +kernel
theorem dX4_knownOn_27 : decode cX4_knownOn 27 = .ok (.iload_n 2, 1) := by decide +kernel
theorem dX4_knownOn_28 : decode cX4_knownOn 28 = .ok (.ireturn, 1) := by decide +kernel
theorem dX4_latest_0 : decode cX4_latest 0 = .ok (.aload_n 0, 1) := by decide +kernel
theorem dX4_latest_1 : decode cX4_latest 1 = .ok (.iload_n 2, 1) := by decide +kernel
theorem dX4_latest_2 : decode cX4_latest 2 = .ok (.invokevirtual 32, 3) := by decide +kernel
theorem dX4_latest_5 : decode cX4_latest 5 = .ok (.iconst 1, 1) := by decide +kernel
theorem dX4_latest_6 : decode cX4_latest 6 = .ok (.isub, 1) := by decide +kernel
theorem dX4_latest_7 : decode cX4_latest 7 = .ok (.istore_n 3, 1) := by decide +kernel
theorem dX4_latest_8 : decode cX4_latest 8 = .ok (.iload_n 3, 1) := by decide +kernel
theorem dX4_latest_9 : decode cX4_latest 9 = .ok (.ifCond .lt 21, 3) := by decide +kernel
theorem dX4_latest_12 : decode cX4_latest 12 = .ok (.aload_n 0, 1) := by decide +kernel
theorem dX4_latest_13 : decode cX4_latest 13 = .ok (.getfield 21, 3) := by decide +kernel
theorem dX4_latest_16 : decode cX4_latest 16 = .ok (.iload_n 3, 1) := by decide +kernel
theorem dX4_latest_17 : decode cX4_latest 17 = .ok (.iaload, 1) := by decide +kernel
theorem dX4_latest_18 : decode cX4_latest 18 = .ok (.iload_n 1, 1) := by decide +kernel
theorem dX4_latest_19 : decode cX4_latest 19 = .ok (.if_icmp .ne 5, 3) := by decide +kernel
theorem dX4_latest_22 : decode cX4_latest 22 = .ok (.iload_n 3, 1) := by decide +kernel
theorem dX4_latest_23 : decode cX4_latest 23 = .ok (.ireturn, 1) := by decide +kernel
theorem dX4_latest_24 : decode cX4_latest 24 = .ok (.iinc 3 (-1), 3) := by decide +kernel
theorem dX4_latest_27 : decode cX4_latest 27 = .ok (.goto (-19), 3) := by decide +kernel
theorem dX4_latest_30 : decode cX4_latest 30 = .ok (.iconst (-1), 1) := by decide +kernel
theorem dX4_latest_31 : decode cX4_latest 31 = .ok (.ireturn, 1) := by decide +kernel
theorem dX5_init_0 : decode cX5_init 0 = .ok (.aload_n 0, 1) := by decide +kernel
theorem dX5_init_1 : decode cX5_init 1 = .ok (.invokespecial 3, 3) := by decide +kernel
theorem dX5_init_4 : decode cX5_init 4 = .ok (.aload_n 0, 1) := by decide +kernel
theorem dX5_init_5 : decode cX5_init 5 = .ok (.sipush 7922, 3) := by decide +kernel
theorem dX5_init_8 : decode cX5_init 8 = .ok (.newarray .int, 2) := by decide +kernel
theorem dX5_init_10 : decode cX5_init 10 = .ok (.putfield 9, 3) := by decide +kernel
theorem dX5_init_13 : decode cX5_init 13 = .ok (.aload_n 0, 1) := by decide +kernel
theorem dX5_init_14 : decode cX5_init 14 = .ok (.sipush 7922, 3) := by decide +kernel
theorem dX5_init_17 : decode cX5_init 17 = .ok (.newarray .int, 2) := by decide +kernel
theorem dX5_init_19 : decode cX5_init 19 = .ok (.putfield 15, 3) := by decide +kernel
theorem dX5_init_22 : decode cX5_init 22 = .ok (.aload_n 0, 1) := by decide +kernel
theorem dX5_init_23 : decode cX5_init 23 = .ok (.sipush 7922, 3) := by decide +kernel
theorem dX5_init_26 : decode cX5_init 26 = .ok (.newarray .int, 2) := by decide +kernel
theorem dX5_init_28 : decode cX5_init 28 = .ok (.putfield 18, 3) := by decide +kernel
theorem dX5_init_31 : decode cX5_init 31 = .ok (.aload_n 0, 1) := by decide +kernel
theorem dX5_init_32 : decode cX5_init 32 = .ok (.sipush 23766, 3) := by decide +kernel
theorem dX5_init_35 : decode cX5_init 35 = .ok (.newarray .long, 2) := by decide +kernel
theorem dX5_init_37 : decode cX5_init 37 = .ok (.putfield 21, 3) := by decide +kernel
theorem dX5_init_40 : decode cX5_init 40 = .ok (.aload_n 0, 1) := by decide +kernel
theorem dX5_init_41 : decode cX5_init 41 = .ok (.iconst 3, 1) := by decide +kernel
theorem dX5_init_42 : decode cX5_init 42 = .ok (.newarray .long, 2) := by decide +kernel
theorem dX5_init_44 : decode cX5_init 44 = .ok (.putfield 25, 3) := by decide +kernel
theorem dX5_init_47 : decode cX5_init 47 = .ok (.return_, 1) := by decide +kernel
theorem dX5_restart_0 : decode cX5_restart 0 = .ok (.aload_n 0, 1) := by decide +kernel
theorem dX5_restart_1 : decode cX5_restart 1 = .ok (.dup, 1) := by decide +kernel
theorem dX5_restart_2 : decode cX5_restart 2 = .ok (.getfield 28, 3) := by decide +kernel
theorem dX5_restart_5 : decode cX5_restart 5 = .ok (.iconst 1, 1) := by decide +kernel
theorem dX5_restart_6 : decode cX5_restart 6 = .ok (.iadd, 1) := by decide +kernel
theorem dX5_restart_7 : decode cX5_restart 7 = .ok (.putfield 28, 3) := by decide +kernel
theorem dX5_restart_10 : decode cX5_restart 10 = .ok (.aload_n 0, 1) := by decide +kernel
theorem dX5_restart_11 : decode cX5_restart 11 = .ok (.iload_n 1, 1) := by decide +kernel
theorem dX5_restart_12 : decode cX5_restart 12 = .ok (.putfield 32, 3) := by decide +kernel
theorem dX5_restart_15 : decode cX5_restart 15 = .ok (.aload_n 0, 1) := by decide +kernel
theorem dX5_restart_16 : decode cX5_restart 16 = .ok (.iload_n 2, 1) := by decide +kernel
theorem dX5_restart_17 : decode cX5_restart 17 = .ok (.putfield 35, 3) := by decide +kernel
theorem dX5_restart_20 : decode cX5_restart 20 = .ok (.aload_n 0, 1) := by decide +kernel
theorem dX5_restart_21 : decode cX5_restart 21 = .ok (.sipush 7920, 3) := by decide +kernel
theorem dX5_restart_24 : decode cX5_restart 24 = .ok (.invokevirtual 39, 3) := by decide +kernel
theorem dX5_restart_27 : decode cX5_restart 27 = .ok (.aload_n 0, 1) := by decide +kernel
theorem dX5_restart_28 : decode cX5_restart 28 = .ok (.sipush 7921, 3) := by decide +kernel
theorem dX5_restart_31 : decode cX5_restart 31 = .ok (.invokevirtual 39, 3) := by decide +kernel
theorem dX5_restart_34 : decode cX5_restart 34 = .ok (.return_, 1) := by decide +kernel
theorem dX5_placeOf_0 : decode cX5_placeOf 0 = .ok (.iload_n 3, 1) := by decide +kernel
theorem dX5_placeOf_1 : decode cX5_placeOf 1 = .ok (.iload_n 3, 1) := by decide +kernel
theorem dX5_placeOf_2 : decode cX5_placeOf 2 = .ok (.iconst 1, 1) := by decide +kernel
theorem dX5_placeOf_3 : decode cX5_placeOf 3 = .ok (.iadd, 1) := by decide +kernel
theorem dX5_placeOf_4 : decode cX5_placeOf 4 = .ok (.imul, 1) := by decide +kernel
theorem dX5_placeOf_5 : decode cX5_placeOf 5 = .ok (.iconst 2, 1) := by decide +kernel
theorem dX5_placeOf_6 : decode cX5_placeOf 6 = .ok (.idiv, 1) := by decide +kernel
theorem dX5_placeOf_7 : decode cX5_placeOf 7 = .ok (.iload_n 2, 1) := by decide +kernel
theorem dX5_placeOf_8 : decode cX5_placeOf 8 = .ok (.iadd, 1) := by decide +kernel
theorem dX5_placeOf_9 : decode cX5_placeOf 9 = .ok (.istore 6, 2) := by decide +kernel
theorem dX5_placeOf_11 : decode cX5_placeOf 11 = .ok (.iload 5, 2) := by decide +kernel
theorem dX5_placeOf_13 : decode cX5_placeOf 13 = .ok (.iload 5, 2) := by decide +kernel
theorem dX5_placeOf_15 : decode cX5_placeOf 15 = .ok (.iconst 1, 1) := by decide +kernel
theorem dX5_placeOf_16 : decode cX5_placeOf 16 = .ok (.isub, 1) := by decide +kernel
theorem dX5_placeOf_17 : decode cX5_placeOf 17 = .ok (.imul, 1) := by decide +kernel
theorem dX5_placeOf_18 : decode cX5_placeOf 18 = .ok (.iconst 2, 1) := by decide +kernel
theorem dX5_placeOf_19 : decode cX5_placeOf 19 = .ok (.idiv, 1) := by decide +kernel
theorem dX5_placeOf_20 : decode cX5_placeOf 20 = .ok (.iload 4, 2) := by decide +kernel
theorem dX5_placeOf_22 : decode cX5_placeOf 22 = .ok (.iadd, 1) := by decide +kernel
theorem dX5_placeOf_23 : decode cX5_placeOf 23 = .ok (.istore 7, 2) := by decide +kernel
theorem dX5_placeOf_25 : decode cX5_placeOf 25 = .ok (.iload_n 1, 1) := by decide +kernel
theorem dX5_placeOf_26 : decode cX5_placeOf 26 = .ok (.bipush 36, 2) := by decide +kernel
theorem dX5_placeOf_28 : decode cX5_placeOf 28 = .ok (.imul, 1) := by decide +kernel
theorem dX5_placeOf_29 : decode cX5_placeOf 29 = .ok (.iload 6, 2) := by decide +kernel
theorem dX5_placeOf_31 : decode cX5_placeOf 31 = .ok (.iadd, 1) := by decide +kernel
theorem dX5_placeOf_32 : decode cX5_placeOf 32 = .ok (.bipush 55, 2) := by decide +kernel
theorem dX5_placeOf_34 : decode cX5_placeOf 34 = .ok (.imul, 1) := by decide +kernel
theorem dX5_placeOf_35 : decode cX5_placeOf 35 = .ok (.iload 7, 2) := by decide +kernel
theorem dX5_placeOf_37 : decode cX5_placeOf 37 = .ok (.iadd, 1) := by decide +kernel
theorem dX5_placeOf_38 : decode cX5_placeOf 38 = .ok (.ireturn, 1) := by decide +kernel
theorem dX5_isOpen_0 : decode cX5_isOpen 0 = .ok (.aload_n 0, 1) := by decide +kernel
theorem dX5_isOpen_1 : decode cX5_isOpen 1 = .ok (.getfield 9, 3) := by decide +kernel
theorem dX5_isOpen_4 : decode cX5_isOpen 4 = .ok (.iload_n 1, 1) := by decide +kernel
theorem dX5_isOpen_5 : decode cX5_isOpen 5 = .ok (.iaload, 1) := by decide +kernel
theorem dX5_isOpen_6 : decode cX5_isOpen 6 = .ok (.aload_n 0, 1) := by decide +kernel
theorem dX5_isOpen_7 : decode cX5_isOpen 7 = .ok (.getfield 28, 3) := by decide +kernel
theorem dX5_isOpen_10 : decode cX5_isOpen 10 = .ok (.if_icmp .ne 7, 3) := by decide +kernel
theorem dX5_isOpen_13 : decode cX5_isOpen 13 = .ok (.iconst 1, 1) := by decide +kernel
theorem dX5_isOpen_14 : decode cX5_isOpen 14 = .ok (.goto 4, 3) := by decide +kernel
theorem dX5_isOpen_17 : decode cX5_isOpen 17 = .ok (.iconst 0, 1) := by decide +kernel
theorem dX5_isOpen_18 : decode cX5_isOpen 18 = .ok (.ireturn, 1) := by decide +kernel
theorem dX5_open_0 : decode cX5_open 0 = .ok (.aload_n 0, 1) := by decide +kernel
theorem dX5_open_1 : decode cX5_open 1 = .ok (.getfield 9, 3) := by decide +kernel
theorem dX5_open_4 : decode cX5_open 4 = .ok (.iload_n 1, 1) := by decide +kernel
theorem dX5_open_5 : decode cX5_open 5 = .ok (.aload_n 0, 1) := by decide +kernel
theorem dX5_open_6 : decode cX5_open 6 = .ok (.getfield 28, 3) := by decide +kernel
theorem dX5_open_9 : decode cX5_open 9 = .ok (.iastore, 1) := by decide +kernel
theorem dX5_open_10 : decode cX5_open 10 = .ok (.aload_n 0, 1) := by decide +kernel
theorem dX5_open_11 : decode cX5_open 11 = .ok (.getfield 15, 3) := by decide +kernel
theorem dX5_open_14 : decode cX5_open 14 = .ok (.iload_n 1, 1) := by decide +kernel
theorem dX5_open_15 : decode cX5_open 15 = .ok (.iconst 0, 1) := by decide +kernel
theorem dX5_open_16 : decode cX5_open 16 = .ok (.iastore, 1) := by decide +kernel
theorem dX5_open_17 : decode cX5_open 17 = .ok (.aload_n 0, 1) := by decide +kernel
theorem dX5_open_18 : decode cX5_open 18 = .ok (.getfield 18, 3) := by decide +kernel
theorem dX5_open_21 : decode cX5_open 21 = .ok (.iload_n 1, 1) := by decide +kernel
theorem dX5_open_22 : decode cX5_open 22 = .ok (.sipush 1000, 3) := by decide +kernel
theorem dX5_open_25 : decode cX5_open 25 = .ok (.iastore, 1) := by decide +kernel
theorem dX5_open_26 : decode cX5_open 26 = .ok (.return_, 1) := by decide +kernel
theorem dX5_hasEnough_0 : decode cX5_hasEnough 0 = .ok (.aload_n 0, 1) := by decide +kernel
theorem dX5_hasEnough_1 : decode cX5_hasEnough 1 = .ok (.getfield 35, 3) := by decide +kernel
theorem dX5_hasEnough_4 : decode cX5_hasEnough 4 = .ok (.ifCond .ne 20, 3) := by decide +kernel
theorem dX5_hasEnough_7 : decode cX5_hasEnough 7 = .ok (.aload_n 0, 1) := by decide +kernel
theorem dX5_hasEnough_8 : decode cX5_hasEnough 8 = .ok (.getfield 15, 3) := by decide +kernel
theorem dX5_hasEnough_11 : decode cX5_hasEnough 11 = .ok (.iload_n 1, 1) := by decide +kernel
theorem dX5_hasEnough_12 : decode cX5_hasEnough 12 = .ok (.iaload, 1) := by decide +kernel
theorem dX5_hasEnough_13 : decode cX5_hasEnough 13 = .ok (.aload_n 0, 1) := by decide +kernel
theorem dX5_hasEnough_14 : decode cX5_hasEnough 14 = .ok (.getfield 32, 3) := by decide +kernel
theorem dX5_hasEnough_17 : decode cX5_hasEnough 17 = .ok (.if_icmp .lt 7, 3) := by decide +kernel
theorem dX5_hasEnough_20 : decode cX5_hasEnough 20 = .ok (.iconst 1, 1) := by decide +kernel
theorem dX5_hasEnough_21 : decode cX5_hasEnough 21 = .ok (.goto 4, 3) := by decide +kernel
theorem dX5_hasEnough_24 : decode cX5_hasEnough 24 = .ok (.iconst 0, 1) := by decide +kernel
theorem dX5_hasEnough_25 : decode cX5_hasEnough 25 = .ok (.ireturn, 1) := by decide +kernel
theorem dX5_offer_0 : decode cX5_offer 0 = .ok (.aload_n 0, 1) := by decide +kernel
theorem dX5_offer_1 : decode cX5_offer 1 = .ok (.getfield 15, 3) := by decide +kernel
theorem dX5_offer_4 : decode cX5_offer 4 = .ok (.iload_n 1, 1) := by decide +kernel
theorem dX5_offer_5 : decode cX5_offer 5 = .ok (.aload_n 0, 1) := by decide +kernel
theorem dX5_offer_6 : decode cX5_offer 6 = .ok (.getfield 32, 3) := by decide +kernel
theorem dX5_offer_9 : decode cX5_offer 9 = .ok (.aload_n 0, 1) := by decide +kernel
theorem dX5_offer_10 : decode cX5_offer 10 = .ok (.getfield 15, 3) := by decide +kernel
theorem dX5_offer_13 : decode cX5_offer 13 = .ok (.iload_n 1, 1) := by decide +kernel
theorem dX5_offer_14 : decode cX5_offer 14 = .ok (.iaload, 1) := by decide +kernel
theorem dX5_offer_15 : decode cX5_offer 15 = .ok (.iload_n 2, 1) := by decide +kernel
theorem dX5_offer_16 : decode cX5_offer 16 = .ok (.iadd, 1) := by decide +kernel
theorem dX5_offer_17 : decode cX5_offer 17 = .ok (.invokestatic 43, 3) := by decide +kernel
theorem dX5_offer_20 : decode cX5_offer 20 = .ok (.iastore, 1) := by decide +kernel
theorem dX5_offer_21 : decode cX5_offer 21 = .ok (.aload_n 0, 1) := by decide +kernel
theorem dX5_offer_22 : decode cX5_offer 22 = .ok (.getfield 35, 3) := by decide +kernel
theorem dX5_offer_25 : decode cX5_offer 25 = .ok (.ifCond .eq 13, 3) := by decide +kernel
theorem dX5_offer_28 : decode cX5_offer 28 = .ok (.iload_n 3, 1) := by decide +kernel
theorem dX5_offer_29 : decode cX5_offer 29 = .ok (.aload_n 0, 1) := by decide +kernel
theorem dX5_offer_30 : decode cX5_offer 30 = .ok (.getfield 18, 3) := by decide +kernel
theorem dX5_offer_33 : decode cX5_offer 33 = .ok (.iload_n 1, 1) := by decide +kernel
theorem dX5_offer_34 : decode cX5_offer 34 = .ok (.iaload, 1) := by decide +kernel
theorem dX5_offer_35 : decode cX5_offer 35 = .ok (.if_icmp .le 5, 3) := by decide +kernel
theorem dX5_offer_38 : decode cX5_offer 38 = .ok (.iconst 0, 1) := by decide +kernel
theorem dX5_offer_39 : decode cX5_offer 39 = .ok (.ireturn, 1) := by decide +kernel
theorem dX5_offer_40 : decode cX5_offer 40 = .ok (.aload_n 0, 1) := by decide +kernel
theorem dX5_offer_41 : decode cX5_offer 41 = .ok (.iconst 0, 1) := by decide +kernel
theorem dX5_offer_42 : decode cX5_offer 42 = .ok (.putfield 49, 3) := by decide +kernel
theorem dX5_offer_45 : decode cX5_offer 45 = .ok (.aload_n 0, 1) := by decide +kernel
theorem dX5_offer_46 : decode cX5_offer 46 = .ok (.getfield 25, 3) := by decide +kernel
theorem dX5_offer_49 : decode cX5_offer 49 = .ok (.lconst 0, 1) := by decide +kernel
theorem dX5_offer_50 : decode cX5_offer 50 = .ok (.invokestatic 52, 3) := by decide +kernel
theorem dX5_offer_53 : decode cX5_offer 53 = .ok (.iconst 1, 1) := by decide +kernel
theorem dX5_offer_54 : decode cX5_offer 54 = .ok (.ireturn, 1) := by decide +kernel
theorem dX5_put_0 : decode cX5_put 0 = .ok (.aload_n 0, 1) := by decide +kernel
theorem dX5_put_1 : decode cX5_put 1 = .ok (.getfield 49, 3) := by decide +kernel
theorem dX5_put_4 : decode cX5_put 4 = .ok (.bipush 36, 2) := by decide +kernel
theorem dX5_put_6 : decode cX5_put 6 = .ok (.if_icmp .ge 45, 3) := by decide +kernel
theorem dX5_put_9 : decode cX5_put 9 = .ok (.bipush 55, 2) := by decide +kernel
theorem dX5_put_11 : decode cX5_put 11 = .ok (.iconst 5, 1) := by decide +kernel
theorem dX5_put_12 : decode cX5_put 12 = .ok (.aload_n 0, 1) := by decide +kernel
theorem dX5_put_13 : decode cX5_put 13 = .ok (.getfield 49, 3) := by decide +kernel
theorem dX5_put_16 : decode cX5_put 16 = .ok (.bipush 12, 2) := by decide +kernel
theorem dX5_put_18 : decode cX5_put 18 = .ok (.irem, 1) := by decide +kernel
theorem dX5_put_19 : decode cX5_put 19 = .ok (.imul, 1) := by decide +kernel
theorem dX5_put_20 : decode cX5_put 20 = .ok (.isub, 1) := by decide +kernel
theorem dX5_put_21 : decode cX5_put 21 = .ok (.istore_n 2, 1) := by decide +kernel
theorem dX5_put_22 : decode cX5_put 22 = .ok (.aload_n 0, 1) := by decide +kernel
theorem dX5_put_23 : decode cX5_put 23 = .ok (.getfield 25, 3) := by decide +kernel
theorem dX5_put_26 : decode cX5_put 26 = .ok (.aload_n 0, 1) := by decide +kernel
theorem dX5_put_27 : decode cX5_put 27 = .ok (.getfield 49, 3) := by decide +kernel
theorem dX5_put_30 : decode cX5_put 30 = .ok (.bipush 12, 2) := by decide +kernel
theorem dX5_put_32 : decode cX5_put 32 = .ok (.idiv, 1) := by decide +kernel
theorem dX5_put_33 : decode cX5_put 33 = .ok (.dup2, 1) := by decide +kernel
theorem dX5_put_34 : decode cX5_put 34 = .ok (.laload, 1) := by decide +kernel
theorem dX5_put_35 : decode cX5_put 35 = .ok (.iload_n 1, 1) := by decide +kernel
theorem dX5_put_36 : decode cX5_put 36 = .ok (.i2l, 1) := by decide +kernel
theorem dX5_put_37 : decode cX5_put 37 = .ok (.iload_n 2, 1) := by decide +kernel
theorem dX5_put_38 : decode cX5_put 38 = .ok (.lshl, 1) := by decide +kernel
theorem dX5_put_39 : decode cX5_put 39 = .ok (.lor, 1) := by decide +kernel
theorem dX5_put_40 : decode cX5_put 40 = .ok (.lastore, 1) := by decide +kernel
theorem dX5_put_41 : decode cX5_put 41 = .ok (.aload_n 0, 1) := by decide +kernel
theorem dX5_put_42 : decode cX5_put 42 = .ok (.dup, 1) := by decide +kernel
theorem dX5_put_43 : decode cX5_put 43 = .ok (.getfield 49, 3) := by decide +kernel
theorem dX5_put_46 : decode cX5_put 46 = .ok (.iconst 1, 1) := by decide +kernel
theorem dX5_put_47 : decode cX5_put 47 = .ok (.iadd, 1) := by decide +kernel
theorem dX5_put_48 : decode cX5_put 48 = .ok (.putfield 49, 3) := by decide +kernel
theorem dX5_put_51 : decode cX5_put 51 = .ok (.return_, 1) := by decide +kernel
theorem dX5_putWord_0 : decode cX5_putWord 0 = .ok (.aload_n 0, 1) := by decide +kernel
theorem dX5_putWord_1 : decode cX5_putWord 1 = .ok (.iload_n 1, 1) := by decide +kernel
theorem dX5_putWord_2 : decode cX5_putWord 2 = .ok (.invokevirtual 58, 3) := by decide +kernel
theorem dX5_putWord_5 : decode cX5_putWord 5 = .ok (.aload_n 0, 1) := by decide +kernel
theorem dX5_putWord_6 : decode cX5_putWord 6 = .ok (.bipush 12, 2) := by decide +kernel
theorem dX5_putWord_8 : decode cX5_putWord 8 = .ok (.iload_n 2, 1) := by decide +kernel
theorem dX5_putWord_9 : decode cX5_putWord 9 = .ok (.iadd, 1) := by decide +kernel
theorem dX5_putWord_10 : decode cX5_putWord 10 = .ok (.invokevirtual 58, 3) := by decide +kernel
theorem dX5_putWord_13 : decode cX5_putWord 13 = .ok (.return_, 1) := by decide +kernel
theorem dX5_putLink_0 : decode cX5_putLink 0 = .ok (.iload_n 1, 1) := by decide +kernel
theorem dX5_putLink_1 : decode cX5_putLink 1 = .ok (.iconst (-1), 1) := by decide +kernel
theorem dX5_putLink_2 : decode cX5_putLink 2 = .ok (.if_icmp .eq 14, 3) := by decide +kernel
theorem dX5_putLink_5 : decode cX5_putLink 5 = .ok (.aload_n 0, 1) := by decide +kernel
theorem dX5_putLink_6 : decode cX5_putLink 6 = .ok (.getstatic 61, 3) := by decide +kernel
theorem dX5_putLink_9 : decode cX5_putLink 9 = .ok (.bipush 9, 2) := by decide +kernel
theorem dX5_putLink_11 : decode cX5_putLink 11 = .ok (.iaload, 1) := by decide +kernel
theorem dX5_putLink_12 : decode cX5_putLink 12 = .ok (.iload_n 1, 1) := by decide +kernel
theorem dX5_putLink_13 : decode cX5_putLink 13 = .ok (.invokevirtual 64, 3) := by decide +kernel
theorem dX5_putLink_16 : decode cX5_putLink 16 = .ok (.return_, 1) := by decide +kernel
theorem dX5_putName_0 : decode cX5_putName 0 = .ok (.iconst 0, 1) := by decide +kernel
theorem dX5_putName_1 : decode cX5_putName 1 = .ok (.istore_n 2, 1) := by decide +kernel
theorem dX5_putName_2 : decode cX5_putName 2 = .ok (.iload_n 2, 1) := by decide +kernel
theorem dX5_putName_3 : decode cX5_putName 3 = .ok (.bipush 36, 2) := by decide +kernel
theorem dX5_putName_5 : decode cX5_putName 5 = .ok (.if_icmp .ge 26, 3) := by decide +kernel
theorem dX5_putName_8 : decode cX5_putName 8 = .ok (.aload_n 0, 1) := by decide +kernel
theorem dX5_putName_9 : decode cX5_putName 9 = .ok (.iload_n 1, 1) := by decide +kernel
theorem dX5_putName_10 : decode cX5_putName 10 = .ok (.iload_n 2, 1) := by decide +kernel
theorem dX5_putName_11 : decode cX5_putName 11 = .ok (.invokevirtual 68, 3) := by decide +kernel
theorem dX5_putName_14 : decode cX5_putName 14 = .ok (.istore_n 3, 1) := by decide +kernel
theorem dX5_putName_15 : decode cX5_putName 15 = .ok (.iload_n 3, 1) := by decide +kernel
theorem dX5_putName_16 : decode cX5_putName 16 = .ok (.ifCond .ne 4, 3) := by decide +kernel
theorem dX5_putName_19 : decode cX5_putName 19 = .ok (.return_, 1) := by decide +kernel
theorem dX5_putName_20 : decode cX5_putName 20 = .ok (.aload_n 0, 1) := by decide +kernel
theorem dX5_putName_21 : decode cX5_putName 21 = .ok (.iload_n 3, 1) := by decide +kernel
theorem dX5_putName_22 : decode cX5_putName 22 = .ok (.invokevirtual 58, 3) := by decide +kernel
theorem dX5_putName_25 : decode cX5_putName 25 = .ok (.iinc 2 1, 3) := by decide +kernel
theorem dX5_putName_28 : decode cX5_putName 28 = .ok (.goto (-26), 3) := by decide +kernel
theorem dX5_putName_31 : decode cX5_putName 31 = .ok (.return_, 1) := by decide +kernel
theorem dX5_symbolAt_0 : decode cX5_symbolAt 0 = .ok (.bipush 55, 2) := by decide +kernel
theorem dX5_symbolAt_2 : decode cX5_symbolAt 2 = .ok (.iconst 5, 1) := by decide +kernel
theorem dX5_symbolAt_3 : decode cX5_symbolAt 3 = .ok (.iload_n 2, 1) := by decide +kernel
theorem dX5_symbolAt_4 : decode cX5_symbolAt 4 = .ok (.bipush 12, 2) := by decide +kernel
theorem dX5_symbolAt_6 : decode cX5_symbolAt 6 = .ok (.irem, 1) := by decide +kernel
theorem dX5_symbolAt_7 : decode cX5_symbolAt 7 = .ok (.imul, 1) := by decide +kernel
theorem dX5_symbolAt_8 : decode cX5_symbolAt 8 = .ok (.isub, 1) := by decide +kernel
theorem dX5_symbolAt_9 : decode cX5_symbolAt 9 = .ok (.istore_n 3, 1) := by decide +kernel
theorem dX5_symbolAt_10 : decode cX5_symbolAt 10 = .ok (.aload_n 0, 1) := by decide +kernel
theorem dX5_symbolAt_11 : decode cX5_symbolAt 11 = .ok (.getfield 21, 3) := by decide +kernel
theorem dX5_symbolAt_14 : decode cX5_symbolAt 14 = .ok (.iload_n 1, 1) := by decide +kernel
theorem dX5_symbolAt_15 : decode cX5_symbolAt 15 = .ok (.iconst 3, 1) := by decide +kernel
theorem dX5_symbolAt_16 : decode cX5_symbolAt 16 = .ok (.imul, 1) := by decide +kernel
theorem dX5_symbolAt_17 : decode cX5_symbolAt 17 = .ok (.iload_n 2, 1) := by decide +kernel
theorem dX5_symbolAt_18 : decode cX5_symbolAt 18 = .ok (.bipush 12, 2) := by decide +kernel
theorem dX5_symbolAt_20 : decode cX5_symbolAt 20 = .ok (.idiv, 1) := by decide +kernel
theorem dX5_symbolAt_21 : decode cX5_symbolAt 21 = .ok (.iadd, 1) := by decide +kernel
theorem dX5_symbolAt_22 : decode cX5_symbolAt 22 = .ok (.laload, 1) := by decide +kernel
theorem dX5_symbolAt_23 : decode cX5_symbolAt 23 = .ok (.iload_n 3, 1) := by decide +kernel
theorem dX5_symbolAt_24 : decode cX5_symbolAt 24 = .ok (.lushr, 1) := by decide +kernel
theorem dX5_symbolAt_25 : decode cX5_symbolAt 25 = .ok (.l2i, 1) := by decide +kernel
theorem dX5_symbolAt_26 : decode cX5_symbolAt 26 = .ok (.bipush 31, 2) := by decide +kernel
theorem dX5_symbolAt_28 : decode cX5_symbolAt 28 = .ok (.iand, 1) := by decide +kernel
theorem dX5_symbolAt_29 : decode cX5_symbolAt 29 = .ok (.ireturn, 1) := by decide +kernel
theorem dX5_keep_0 : decode cX5_keep 0 = .ok (.iload_n 2, 1) := by decide +kernel
theorem dX5_keep_1 : decode cX5_keep 1 = .ok (.aload_n 0, 1) := by decide +kernel
theorem dX5_keep_2 : decode cX5_keep 2 = .ok (.getfield 18, 3) := by decide +kernel
theorem dX5_keep_5 : decode cX5_keep 5 = .ok (.iload_n 1, 1) := by decide +kernel
theorem dX5_keep_6 : decode cX5_keep 6 = .ok (.iaload, 1) := by decide +kernel
theorem dX5_keep_7 : decode cX5_keep 7 = .ok (.if_icmp .lt 21, 3) := by decide +kernel
theorem dX5_keep_10 : decode cX5_keep 10 = .ok (.iload_n 2, 1) := by decide +kernel
theorem dX5_keep_11 : decode cX5_keep 11 = .ok (.aload_n 0, 1) := by decide +kernel
theorem dX5_keep_12 : decode cX5_keep 12 = .ok (.getfield 18, 3) := by decide +kernel
theorem dX5_keep_15 : decode cX5_keep 15 = .ok (.iload_n 1, 1) := by decide +kernel
theorem dX5_keep_16 : decode cX5_keep 16 = .ok (.iaload, 1) := by decide +kernel
theorem dX5_keep_17 : decode cX5_keep 17 = .ok (.if_icmp .ne 34, 3) := by decide +kernel
theorem dX5_keep_20 : decode cX5_keep 20 = .ok (.aload_n 0, 1) := by decide +kernel
theorem dX5_keep_21 : decode cX5_keep 21 = .ok (.iload_n 1, 1) := by decide +kernel
theorem dX5_keep_22 : decode cX5_keep 22 = .ok (.invokevirtual 71, 3) := by decide +kernel
theorem dX5_keep_25 : decode cX5_keep 25 = .ok (.ifCond .eq 26, 3) := by decide +kernel
theorem dX5_keep_28 : decode cX5_keep 28 = .ok (.aload_n 0, 1) := by decide +kernel
theorem dX5_keep_29 : decode cX5_keep 29 = .ok (.getfield 18, 3) := by decide +kernel
theorem dX5_keep_32 : decode cX5_keep 32 = .ok (.iload_n 1, 1) := by decide +kernel
theorem dX5_keep_33 : decode cX5_keep 33 = .ok (.iload_n 2, 1) := by decide +kernel
theorem dX5_keep_34 : decode cX5_keep 34 = .ok (.iastore, 1) := by decide +kernel
theorem dX5_keep_35 : decode cX5_keep 35 = .ok (.aload_n 0, 1) := by decide +kernel
theorem dX5_keep_36 : decode cX5_keep 36 = .ok (.getfield 25, 3) := by decide +kernel
theorem dX5_keep_39 : decode cX5_keep 39 = .ok (.iconst 0, 1) := by decide +kernel
theorem dX5_keep_40 : decode cX5_keep 40 = .ok (.aload_n 0, 1) := by decide +kernel
theorem dX5_keep_41 : decode cX5_keep 41 = .ok (.getfield 21, 3) := by decide +kernel
theorem dX5_keep_44 : decode cX5_keep 44 = .ok (.iload_n 1, 1) := by decide +kernel
theorem dX5_keep_45 : decode cX5_keep 45 = .ok (.iconst 3, 1) := by decide +kernel
theorem dX5_keep_46 : decode cX5_keep 46 = .ok (.imul, 1) := by decide +kernel
theorem dX5_keep_47 : decode cX5_keep 47 = .ok (.iconst 3, 1) := by decide +kernel
theorem dX5_keep_48 : decode cX5_keep 48 = .ok (.invokestatic 75, 3) := by decide +kernel
theorem dX5_keep_51 : decode cX5_keep 51 = .ok (.return_, 1) := by decide +kernel
theorem dX5_isDraftLess_0 : decode cX5_isDraftLess 0 = .ok (.iconst 0, 1) := by decide +kernel
theorem dX5_isDraftLess_1 : decode cX5_isDraftLess 1 = .ok (.istore_n 2, 1) := by decide +kernel
theorem dX5_isDraftLess_2 : decode cX5_isDraftLess 2 = .ok (.iload_n 2, 1) := by decide +kernel
theorem dX5_isDraftLess_3 : decode cX5_isDraftLess 3 = .ok (.iconst 3, 1) := by decide +kernel
theorem dX5_isDraftLess_4 : decode cX5_isDraftLess 4 = .ok (.if_icmp .ge 48, 3) := by decide +kernel
theorem dX5_isDraftLess_7 : decode cX5_isDraftLess 7 = .ok (.aload_n 0, 1) := by decide +kernel
theorem dX5_isDraftLess_8 : decode cX5_isDraftLess 8 = .ok (.getfield 21, 3) := by decide +kernel
theorem dX5_isDraftLess_11 : decode cX5_isDraftLess 11 = .ok (.iload_n 1, 1) := by decide +kernel
theorem dX5_isDraftLess_12 : decode cX5_isDraftLess 12 = .ok (.iconst 3, 1) := by decide +kernel
theorem dX5_isDraftLess_13 : decode cX5_isDraftLess 13 = .ok (.imul, 1) := by decide +kernel
theorem dX5_isDraftLess_14 : decode cX5_isDraftLess 14 = .ok (.iload_n 2, 1) := by decide +kernel
theorem dX5_isDraftLess_15 : decode cX5_isDraftLess 15 = .ok (.iadd, 1) := by decide +kernel
theorem dX5_isDraftLess_16 : decode cX5_isDraftLess 16 = .ok (.laload, 1) := by decide +kernel
theorem dX5_isDraftLess_17 : decode cX5_isDraftLess 17 = .ok (.lstore_n 3, 1) := by decide +kernel
theorem dX5_isDraftLess_18 : decode cX5_isDraftLess 18 = .ok (.aload_n 0, 1) := by decide +kernel
theorem dX5_isDraftLess_19 : decode cX5_isDraftLess 19 = .ok (.getfield 25, 3) := by decide +kernel
theorem dX5_isDraftLess_22 : decode cX5_isDraftLess 22 = .ok (.iload_n 2, 1) := by decide +kernel
theorem dX5_isDraftLess_23 : decode cX5_isDraftLess 23 = .ok (.laload, 1) := by decide +kernel
theorem dX5_isDraftLess_24 : decode cX5_isDraftLess 24 = .ok (.lload_n 3, 1) := by decide +kernel
theorem dX5_isDraftLess_25 : decode cX5_isDraftLess 25 = .ok (.lcmp, 1) := by decide +kernel
theorem dX5_isDraftLess_26 : decode cX5_isDraftLess 26 = .ok (.ifCond .eq 20, 3) := by decide +kernel
theorem dX5_isDraftLess_29 : decode cX5_isDraftLess 29 = .ok (.aload_n 0, 1) := by decide +kernel
theorem dX5_isDraftLess_30 : decode cX5_isDraftLess 30 = .ok (.getfield 25, 3) := by decide +kernel
theorem dX5_isDraftLess_33 : decode cX5_isDraftLess 33 = .ok (.iload_n 2, 1) := by decide +kernel
theorem dX5_isDraftLess_34 : decode cX5_isDraftLess 34 = .ok (.laload, 1) := by decide +kernel
theorem dX5_isDraftLess_35 : decode cX5_isDraftLess 35 = .ok (.lload_n 3, 1) := by decide +kernel
theorem dX5_isDraftLess_36 : decode cX5_isDraftLess 36 = .ok (.lcmp, 1) := by decide +kernel
theorem dX5_isDraftLess_37 : decode cX5_isDraftLess 37 = .ok (.ifCond .ge 7, 3) := by decide +kernel
theorem dX5_isDraftLess_40 : decode cX5_isDraftLess 40 = .ok (.iconst 1, 1) := by decide +kernel
theorem dX5_isDraftLess_41 : decode cX5_isDraftLess 41 = .ok (.goto 4, 3) := by decide +kernel
theorem dX5_isDraftLess_44 : decode cX5_isDraftLess 44 = .ok (.iconst 0, 1) := by decide +kernel
theorem dX5_isDraftLess_45 : decode cX5_isDraftLess 45 = .ok (.ireturn, 1) := by decide +kernel
theorem dX5_isDraftLess_46 : decode cX5_isDraftLess 46 = .ok (.iinc 2 1, 3) := by decide +kernel
theorem dX5_isDraftLess_49 : decode cX5_isDraftLess 49 = .ok (.goto (-47), 3) := by decide +kernel
theorem dX5_isDraftLess_52 : decode cX5_isDraftLess 52 = .ok (.iconst 0, 1) := by decide +kernel
theorem dX5_isDraftLess_53 : decode cX5_isDraftLess 53 = .ok (.ireturn, 1) := by decide +kernel
theorem dX6_init_0 : decode cX6_init 0 = .ok (.aload_n 0, 1) := by decide +kernel
theorem dX6_init_1 : decode cX6_init 1 = .ok (.invokespecial 3, 3) := by decide +kernel
theorem dX6_init_4 : decode cX6_init 4 = .ok (.aload_n 0, 1) := by decide +kernel
theorem dX6_init_5 : decode cX6_init 5 = .ok (.sipush 1920, 3) := by decide +kernel
theorem dX6_init_8 : decode cX6_init 8 = .ok (.newarray .int, 2) := by decide +kernel
theorem dX6_init_10 : decode cX6_init 10 = .ok (.putfield 9, 3) := by decide +kernel
theorem dX6_init_13 : decode cX6_init 13 = .ok (.aload_n 0, 1) := by decide +kernel
theorem dX6_init_14 : decode cX6_init 14 = .ok (.bipush 16, 2) := by decide +kernel
theorem dX6_init_16 : decode cX6_init 16 = .ok (.newarray .int, 2) := by decide +kernel
theorem dX6_init_18 : decode cX6_init 18 = .ok (.putfield 15, 3) := by decide +kernel
theorem dX6_init_21 : decode cX6_init 21 = .ok (.aload_n 0, 1) := by decide +kernel
theorem dX6_init_22 : decode cX6_init 22 = .ok (.bipush 16, 2) := by decide +kernel
theorem dX6_init_24 : decode cX6_init 24 = .ok (.newarray .int, 2) := by decide +kernel
theorem dX6_init_26 : decode cX6_init 26 = .ok (.putfield 18, 3) := by decide +kernel
theorem dX6_init_29 : decode cX6_init 29 = .ok (.aload_n 0, 1) := by decide +kernel
theorem dX6_init_30 : decode cX6_init 30 = .ok (.bipush 16, 2) := by decide +kernel
theorem dX6_init_32 : decode cX6_init 32 = .ok (.newarray .int, 2) := by decide +kernel
theorem dX6_init_34 : decode cX6_init 34 = .ok (.putfield 21, 3) := by decide +kernel
theorem dX6_init_37 : decode cX6_init 37 = .ok (.aload_n 0, 1) := by decide +kernel
theorem dX6_init_38 : decode cX6_init 38 = .ok (.bipush 16, 2) := by decide +kernel
theorem dX6_init_40 : decode cX6_init 40 = .ok (.newarray .int, 2) := by decide +kernel
theorem dX6_init_42 : decode cX6_init 42 = .ok (.putfield 24, 3) := by decide +kernel
theorem dX6_init_45 : decode cX6_init 45 = .ok (.aload_n 0, 1) := by decide +kernel
theorem dX6_init_46 : decode cX6_init 46 = .ok (.aload_n 1, 1) := by decide +kernel
theorem dX6_init_47 : decode cX6_init 47 = .ok (.putfield 27, 3) := by decide +kernel
theorem dX6_init_50 : decode cX6_init 50 = .ok (.aload_n 0, 1) := by decide +kernel
theorem dX6_init_51 : decode cX6_init 51 = .ok (.aload_n 2, 1) := by decide +kernel
theorem dX6_init_52 : decode cX6_init 52 = .ok (.putfield 31, 3) := by decide +kernel
theorem dX6_init_55 : decode cX6_init 55 = .ok (.aload_n 0, 1) := by decide +kernel
theorem dX6_init_56 : decode cX6_init 56 = .ok (.aload_n 3, 1) := by decide +kernel
theorem dX6_init_57 : decode cX6_init 57 = .ok (.putfield 35, 3) := by decide +kernel
theorem dX6_init_60 : decode cX6_init 60 = .ok (.aload_n 0, 1) := by decide +kernel
theorem dX6_init_61 : decode cX6_init 61 = .ok (.getfield 18, 3) := by decide +kernel
theorem dX6_init_64 : decode cX6_init 64 = .ok (.iconst (-1), 1) := by decide +kernel
theorem dX6_init_65 : decode cX6_init 65 = .ok (.invokestatic 39, 3) := by decide +kernel
theorem dX6_init_68 : decode cX6_init 68 = .ok (.return_, 1) := by decide +kernel
theorem dX6_recall_0 : decode cX6_recall 0 = .ok (.aload_n 0, 1) := by decide +kernel
theorem dX6_recall_1 : decode cX6_recall 1 = .ok (.getfield 31, 3) := by decide +kernel
theorem dX6_recall_4 : decode cX6_recall 4 = .ok (.iload_n 1, 1) := by decide +kernel
theorem dX6_recall_5 : decode cX6_recall 5 = .ok (.iload_n 2, 1) := by decide +kernel
theorem dX6_recall_6 : decode cX6_recall 6 = .ok (.invokevirtual 45, 3) := by decide +kernel
theorem dX6_recall_9 : decode cX6_recall 9 = .ok (.istore_n 3, 1) := by decide +kernel
theorem dX6_recall_10 : decode cX6_recall 10 = .ok (.aload_n 0, 1) := by decide +kernel
theorem dX6_recall_11 : decode cX6_recall 11 = .ok (.getfield 27, 3) := by decide +kernel
theorem dX6_recall_14 : decode cX6_recall 14 = .ok (.getfield 51, 3) := by decide +kernel
theorem dX6_recall_17 : decode cX6_recall 17 = .ok (.iload_n 2, 1) := by decide +kernel
theorem dX6_recall_18 : decode cX6_recall 18 = .ok (.invokevirtual 57, 3) := by decide +kernel
theorem dX6_recall_21 : decode cX6_recall 21 = .ok (.istore 4, 2) := by decide +kernel
theorem dX6_recall_23 : decode cX6_recall 23 = .ok (.aload_n 0, 1) := by decide +kernel
theorem dX6_recall_24 : decode cX6_recall 24 = .ok (.getfield 27, 3) := by decide +kernel
theorem dX6_recall_27 : decode cX6_recall 27 = .ok (.getfield 63, 3) := by decide +kernel
theorem dX6_recall_30 : decode cX6_recall 30 = .ok (.iload_n 2, 1) := by decide +kernel
theorem dX6_recall_31 : decode cX6_recall 31 = .ok (.invokevirtual 57, 3) := by decide +kernel
theorem dX6_recall_34 : decode cX6_recall 34 = .ok (.istore 5, 2) := by decide +kernel
theorem dX6_recall_36 : decode cX6_recall 36 = .ok (.iload_n 3, 1) := by decide +kernel
theorem dX6_recall_37 : decode cX6_recall 37 = .ok (.aload_n 0, 1) := by decide +kernel
theorem dX6_recall_38 : decode cX6_recall 38 = .ok (.getfield 18, 3) := by decide +kernel
theorem dX6_recall_41 : decode cX6_recall 41 = .ok (.iload_n 1, 1) := by decide +kernel
theorem dX6_recall_42 : decode cX6_recall 42 = .ok (.iaload, 1) := by decide +kernel
theorem dX6_recall_43 : decode cX6_recall 43 = .ok (.if_icmp .ne 36, 3) := by decide +kernel
theorem dX6_recall_46 : decode cX6_recall 46 = .ok (.iload 4, 2) := by decide +kernel
theorem dX6_recall_48 : decode cX6_recall 48 = .ok (.aload_n 0, 1) := by decide +kernel
theorem dX6_recall_49 : decode cX6_recall 49 = .ok (.getfield 21, 3) := by decide +kernel
theorem dX6_recall_52 : decode cX6_recall 52 = .ok (.iload_n 1, 1) := by decide +kernel
theorem dX6_recall_53 : decode cX6_recall 53 = .ok (.iaload, 1) := by decide +kernel
theorem dX6_recall_54 : decode cX6_recall 54 = .ok (.if_icmp .ne 25, 3) := by decide +kernel
theorem dX6_recall_57 : decode cX6_recall 57 = .ok (.iload 5, 2) := by decide +kernel
theorem dX6_recall_59 : decode cX6_recall 59 = .ok (.aload_n 0, 1) := by decide +kernel
theorem dX6_recall_60 : decode cX6_recall 60 = .ok (.getfield 24, 3) := by decide +kernel
theorem dX6_recall_63 : decode cX6_recall 63 = .ok (.iload_n 1, 1) := by decide +kernel
theorem dX6_recall_64 : decode cX6_recall 64 = .ok (.iaload, 1) := by decide +kernel
theorem dX6_recall_65 : decode cX6_recall 65 = .ok (.if_icmp .ne 14, 3) := by decide +kernel
theorem dX6_recall_68 : decode cX6_recall 68 = .ok (.iload_n 3, 1) := by decide +kernel
theorem dX6_recall_69 : decode cX6_recall 69 = .ok (.iconst (-1), 1) := by decide +kernel
theorem dX6_recall_70 : decode cX6_recall 70 = .ok (.if_icmp .eq 7, 3) := by decide +kernel
theorem dX6_recall_73 : decode cX6_recall 73 = .ok (.iconst 1, 1) := by decide +kernel
theorem dX6_recall_74 : decode cX6_recall 74 = .ok (.goto 4, 3) := by decide +kernel
theorem dX6_recall_77 : decode cX6_recall 77 = .ok (.iconst 0, 1) := by decide +kernel
theorem dX6_recall_78 : decode cX6_recall 78 = .ok (.ireturn, 1) := by decide +kernel
theorem dX6_recall_79 : decode cX6_recall 79 = .ok (.aload_n 0, 1) := by decide +kernel
theorem dX6_recall_80 : decode cX6_recall 80 = .ok (.getfield 18, 3) := by decide +kernel
theorem dX6_recall_83 : decode cX6_recall 83 = .ok (.iload_n 1, 1) := by decide +kernel
theorem dX6_recall_84 : decode cX6_recall 84 = .ok (.iload_n 3, 1) := by decide +kernel
theorem dX6_recall_85 : decode cX6_recall 85 = .ok (.iastore, 1) := by decide +kernel
theorem dX6_recall_86 : decode cX6_recall 86 = .ok (.aload_n 0, 1) := by decide +kernel
theorem dX6_recall_87 : decode cX6_recall 87 = .ok (.getfield 21, 3) := by decide +kernel
theorem dX6_recall_90 : decode cX6_recall 90 = .ok (.iload_n 1, 1) := by decide +kernel
theorem dX6_recall_91 : decode cX6_recall 91 = .ok (.iload 4, 2) := by decide +kernel
theorem dX6_recall_93 : decode cX6_recall 93 = .ok (.iastore, 1) := by decide +kernel
theorem dX6_recall_94 : decode cX6_recall 94 = .ok (.aload_n 0, 1) := by decide +kernel
theorem dX6_recall_95 : decode cX6_recall 95 = .ok (.getfield 24, 3) := by decide +kernel
theorem dX6_recall_98 : decode cX6_recall 98 = .ok (.iload_n 1, 1) := by decide +kernel
theorem dX6_recall_99 : decode cX6_recall 99 = .ok (.iload 5, 2) := by decide +kernel
theorem dX6_recall_101 : decode cX6_recall 101 = .ok (.iastore, 1) := by decide +kernel
theorem dX6_recall_102 : decode cX6_recall 102 = .ok (.aload_n 0, 1) := by decide +kernel
theorem dX6_recall_103 : decode cX6_recall 103 = .ok (.getfield 15, 3) := by decide +kernel
theorem dX6_recall_106 : decode cX6_recall 106 = .ok (.iload_n 1, 1) := by decide +kernel
theorem dX6_recall_107 : decode cX6_recall 107 = .ok (.iconst 0, 1) := by decide +kernel
theorem dX6_recall_108 : decode cX6_recall 108 = .ok (.iastore, 1) := by decide +kernel
theorem dX6_recall_109 : decode cX6_recall 109 = .ok (.iload_n 3, 1) := by decide +kernel
theorem dX6_recall_110 : decode cX6_recall 110 = .ok (.iconst (-1), 1) := by decide +kernel
theorem dX6_recall_111 : decode cX6_recall 111 = .ok (.if_icmp .ne 5, 3) := by decide +kernel
theorem dX6_recall_114 : decode cX6_recall 114 = .ok (.iconst 0, 1) := by decide +kernel
theorem dX6_recall_115 : decode cX6_recall 115 = .ok (.ireturn, 1) := by decide +kernel
theorem dX6_recall_116 : decode cX6_recall 116 = .ok (.aload_n 0, 1) := by decide +kernel
theorem dX6_recall_117 : decode cX6_recall 117 = .ok (.getfield 35, 3) := by decide +kernel
theorem dX6_recall_120 : decode cX6_recall 120 = .ok (.aload_n 0, 1) := by decide +kernel
theorem dX6_recall_121 : decode cX6_recall 121 = .ok (.getfield 31, 3) := by decide +kernel
theorem dX6_recall_124 : decode cX6_recall 124 = .ok (.iload_n 3, 1) := by decide +kernel
theorem dX6_recall_125 : decode cX6_recall 125 = .ok (.iload_n 2, 1) := by decide +kernel
theorem dX6_recall_126 : decode cX6_recall 126 = .ok (.invokevirtual 66, 3) := by decide +kernel
theorem dX6_recall_129 : decode cX6_recall 129 = .ok (.iconst 0, 1) := by decide +kernel
theorem dX6_recall_130 : decode cX6_recall 130 = .ok (.istore 6, 2) := by decide +kernel
theorem dX6_recall_132 : decode cX6_recall 132 = .ok (.iload 6, 2) := by decide +kernel
theorem dX6_recall_134 : decode cX6_recall 134 = .ok (.aload_n 0, 1) := by decide +kernel
theorem dX6_recall_135 : decode cX6_recall 135 = .ok (.getfield 27, 3) := by decide +kernel
theorem dX6_recall_138 : decode cX6_recall 138 = .ok (.getfield 72, 3) := by decide +kernel
theorem dX6_recall_141 : decode cX6_recall 141 = .ok (.getfield 75, 3) := by decide +kernel
theorem dX6_recall_144 : decode cX6_recall 144 = .ok (.if_icmp .ge 73, 3) := by decide +kernel
theorem dX6_recall_147 : decode cX6_recall 147 = .ok (.aload_n 0, 1) := by decide +kernel
theorem dX6_recall_148 : decode cX6_recall 148 = .ok (.getfield 27, 3) := by decide +kernel
theorem dX6_recall_151 : decode cX6_recall 151 = .ok (.getfield 79, 3) := by decide +kernel
theorem dX6_recall_154 : decode cX6_recall 154 = .ok (.iload 6, 2) := by decide +kernel
theorem dX6_recall_156 : decode cX6_recall 156 = .ok (.iaload, 1) := by decide +kernel
theorem dX6_recall_157 : decode cX6_recall 157 = .ok (.aload_n 0, 1) := by decide +kernel
theorem dX6_recall_158 : decode cX6_recall 158 = .ok (.getfield 31, 3) := by decide +kernel
theorem dX6_recall_161 : decode cX6_recall 161 = .ok (.getfield 82, 3) := by decide +kernel
theorem dX6_recall_164 : decode cX6_recall 164 = .ok (.iload_n 1, 1) := by decide +kernel
theorem dX6_recall_165 : decode cX6_recall 165 = .ok (.iaload, 1) := by decide +kernel
theorem dX6_recall_166 : decode cX6_recall 166 = .ok (.if_icmp .ne 45, 3) := by decide +kernel
theorem dX6_recall_169 : decode cX6_recall 169 = .ok (.aload_n 0, 1) := by decide +kernel
theorem dX6_recall_170 : decode cX6_recall 170 = .ok (.getfield 35, 3) := by decide +kernel
theorem dX6_recall_173 : decode cX6_recall 173 = .ok (.iload 6, 2) := by decide +kernel
theorem dX6_recall_175 : decode cX6_recall 175 = .ok (.iconst 1, 1) := by decide +kernel
theorem dX6_recall_176 : decode cX6_recall 176 = .ok (.iconst 0, 1) := by decide +kernel
theorem dX6_recall_177 : decode cX6_recall 177 = .ok (.invokevirtual 83, 3) := by decide +kernel
theorem dX6_recall_180 : decode cX6_recall 180 = .ok (.ifCond .le 31, 3) := by decide +kernel
theorem dX6_recall_183 : decode cX6_recall 183 = .ok (.aload_n 0, 1) := by decide +kernel
theorem dX6_recall_184 : decode cX6_recall 184 = .ok (.getfield 9, 3) := by decide +kernel
theorem dX6_recall_187 : decode cX6_recall 187 = .ok (.iload_n 1, 1) := by decide +kernel
theorem dX6_recall_188 : decode cX6_recall 188 = .ok (.bipush 120, 2) := by decide +kernel
theorem dX6_recall_190 : decode cX6_recall 190 = .ok (.imul, 1) := by decide +kernel
theorem dX6_recall_191 : decode cX6_recall 191 = .ok (.aload_n 0, 1) := by decide +kernel
theorem dX6_recall_192 : decode cX6_recall 192 = .ok (.getfield 15, 3) := by decide +kernel
theorem dX6_recall_195 : decode cX6_recall 195 = .ok (.iload_n 1, 1) := by decide +kernel
theorem dX6_recall_196 : decode cX6_recall 196 = .ok (.iaload, 1) := by decide +kernel
theorem dX6_recall_197 : decode cX6_recall 197 = .ok (.iadd, 1) := by decide +kernel
theorem dX6_recall_198 : decode cX6_recall 198 = .ok (.iload 6, 2) := by decide +kernel
theorem dX6_recall_200 : decode cX6_recall 200 = .ok (.iastore, 1) := by decide +kernel
theorem dX6_recall_201 : decode cX6_recall 201 = .ok (.aload_n 0, 1) := by decide +kernel
theorem dX6_recall_202 : decode cX6_recall 202 = .ok (.getfield 15, 3) := by decide +kernel
theorem dX6_recall_205 : decode cX6_recall 205 = .ok (.iload_n 1, 1) := by decide +kernel
theorem dX6_recall_206 : decode cX6_recall 206 = .ok (.dup2, 1) := by decide +kernel
theorem dX6_recall_207 : decode cX6_recall 207 = .ok (.iaload, 1) := by decide +kernel
theorem dX6_recall_208 : decode cX6_recall 208 = .ok (.iconst 1, 1) := by decide +kernel
theorem dX6_recall_209 : decode cX6_recall 209 = .ok (.iadd, 1) := by decide +kernel
theorem dX6_recall_210 : decode cX6_recall 210 = .ok (.iastore, 1) := by decide +kernel
theorem dX6_recall_211 : decode cX6_recall 211 = .ok (.iinc 6 1, 3) := by decide +kernel
theorem dX6_recall_214 : decode cX6_recall 214 = .ok (.goto (-82), 3) := by decide +kernel
theorem dX6_recall_217 : decode cX6_recall 217 = .ok (.iconst 1, 1) := by decide +kernel
theorem dX6_recall_218 : decode cX6_recall 218 = .ok (.ireturn, 1) := by decide +kernel
theorem dX6_recallLights_0 : decode cX6_recallLights 0 = .ok (.iconst 0, 1) := by decide +kernel
theorem dX6_recallLights_1 : decode cX6_recallLights 1 = .ok (.istore_n 3, 1) := by decide +kernel
theorem dX6_recallLights_2 : decode cX6_recallLights 2 = .ok (.iload_n 3, 1) := by decide +kernel
theorem dX6_recallLights_3 : decode cX6_recallLights 3 = .ok (.bipush 16, 2) := by decide +kernel
theorem dX6_recallLights_5 : decode cX6_recallLights 5 = .ok (.if_icmp .ge 24, 3) := by decide +kernel
theorem dX6_recallLights_8 : decode cX6_recallLights 8 = .ok (.aload_n 1, 1) := by decide +kernel
theorem dX6_recallLights_9 : decode cX6_recallLights 9 = .ok (.iload_n 3, 1) := by decide +kernel
theorem dX6_recallLights_10 : decode cX6_recallLights 10 = .ok (.invokevirtual 87, 3) := by decide +kernel
theorem dX6_recallLights_13 : decode cX6_recallLights 13 = .ok (.ifCond .eq 10, 3) := by decide +kernel
theorem dX6_recallLights_16 : decode cX6_recallLights 16 = .ok (.aload_n 0, 1) := by decide +kernel
theorem dX6_recallLights_17 : decode cX6_recallLights 17 = .ok (.iload_n 3, 1) := by decide +kernel
theorem dX6_recallLights_18 : decode cX6_recallLights 18 = .ok (.iload_n 2, 1) := by decide +kernel
theorem dX6_recallLights_19 : decode cX6_recallLights 19 = .ok (.invokevirtual 93, 3) := by decide +kernel
theorem dX6_recallLights_22 : decode cX6_recallLights 22 = .ok (.pop, 1) := by decide +kernel
theorem dX6_recallLights_23 : decode cX6_recallLights 23 = .ok (.iinc 3 1, 3) := by decide +kernel
theorem dX6_recallLights_26 : decode cX6_recallLights 26 = .ok (.goto (-24), 3) := by decide +kernel
theorem dX6_recallLights_29 : decode cX6_recallLights 29 = .ok (.return_, 1) := by decide +kernel
theorem dX6_wordAt_0 : decode cX6_wordAt 0 = .ok (.aload_n 0, 1) := by decide +kernel
theorem dX6_wordAt_1 : decode cX6_wordAt 1 = .ok (.getfield 9, 3) := by decide +kernel
theorem dX6_wordAt_4 : decode cX6_wordAt 4 = .ok (.iload_n 1, 1) := by decide +kernel
theorem dX6_wordAt_5 : decode cX6_wordAt 5 = .ok (.bipush 120, 2) := by decide +kernel
theorem dX6_wordAt_7 : decode cX6_wordAt 7 = .ok (.imul, 1) := by decide +kernel
theorem dX6_wordAt_8 : decode cX6_wordAt 8 = .ok (.iload_n 2, 1) := by decide +kernel
theorem dX6_wordAt_9 : decode cX6_wordAt 9 = .ok (.iadd, 1) := by decide +kernel
theorem dX6_wordAt_10 : decode cX6_wordAt 10 = .ok (.iaload, 1) := by decide +kernel
theorem dX6_wordAt_11 : decode cX6_wordAt 11 = .ok (.ireturn, 1) := by decide +kernel
theorem dX6_has_0 : decode cX6_has 0 = .ok (.iconst 0, 1) := by decide +kernel
theorem dX6_has_1 : decode cX6_has 1 = .ok (.istore_n 3, 1) := by decide +kernel
theorem dX6_has_2 : decode cX6_has 2 = .ok (.iload_n 3, 1) := by decide +kernel
theorem dX6_has_3 : decode cX6_has 3 = .ok (.aload_n 0, 1) := by decide +kernel
theorem dX6_has_4 : decode cX6_has 4 = .ok (.getfield 15, 3) := by decide +kernel
theorem dX6_has_7 : decode cX6_has 7 = .ok (.iload_n 1, 1) := by decide +kernel
theorem dX6_has_8 : decode cX6_has 8 = .ok (.iaload, 1) := by decide +kernel
theorem dX6_has_9 : decode cX6_has 9 = .ok (.if_icmp .ge 21, 3) := by decide +kernel
theorem dX6_has_12 : decode cX6_has 12 = .ok (.aload_n 0, 1) := by decide +kernel
theorem dX6_has_13 : decode cX6_has 13 = .ok (.iload_n 1, 1) := by decide +kernel
theorem dX6_has_14 : decode cX6_has 14 = .ok (.iload_n 3, 1) := by decide +kernel
theorem dX6_has_15 : decode cX6_has 15 = .ok (.invokevirtual 97, 3) := by decide +kernel
theorem dX6_has_18 : decode cX6_has 18 = .ok (.iload_n 2, 1) := by decide +kernel
theorem dX6_has_19 : decode cX6_has 19 = .ok (.if_icmp .ne 5, 3) := by decide +kernel
theorem dX6_has_22 : decode cX6_has 22 = .ok (.iconst 1, 1) := by decide +kernel
theorem dX6_has_23 : decode cX6_has 23 = .ok (.ireturn, 1) := by decide +kernel
theorem dX6_has_24 : decode cX6_has 24 = .ok (.iinc 3 1, 3) := by decide +kernel
theorem dX6_has_27 : decode cX6_has 27 = .ok (.goto (-25), 3) := by decide +kernel
theorem dX6_has_30 : decode cX6_has 30 = .ok (.iconst 0, 1) := by decide +kernel
theorem dX6_has_31 : decode cX6_has 31 = .ok (.ireturn, 1) := by decide +kernel
theorem dX7_init_0 : decode cX7_init 0 = .ok (.aload_n 0, 1) := by decide +kernel
theorem dX7_init_1 : decode cX7_init 1 = .ok (.invokespecial 3, 3) := by decide +kernel
theorem dX7_init_4 : decode cX7_init 4 = .ok (.aload_n 0, 1) := by decide +kernel
theorem dX7_init_5 : decode cX7_init 5 = .ok (.new 9, 3) := by decide +kernel
theorem dX7_init_8 : decode cX7_init 8 = .ok (.dup, 1) := by decide +kernel
theorem dX7_init_9 : decode cX7_init 9 = .ok (.bipush 30, 2) := by decide +kernel
theorem dX7_init_11 : decode cX7_init 11 = .ok (.invokespecial 11, 3) := by decide +kernel
theorem dX7_init_14 : decode cX7_init 14 = .ok (.putfield 14, 3) := by decide +kernel
theorem dX7_init_17 : decode cX7_init 17 = .ok (.aload_n 0, 1) := by decide +kernel
theorem dX7_init_18 : decode cX7_init 18 = .ok (.sipush 4800, 3) := by decide +kernel
theorem dX7_init_21 : decode cX7_init 21 = .ok (.newarray .int, 2) := by decide +kernel
theorem dX7_init_23 : decode cX7_init 23 = .ok (.putfield 20, 3) := by decide +kernel
theorem dX7_init_26 : decode cX7_init 26 = .ok (.aload_n 0, 1) := by decide +kernel
theorem dX7_init_27 : decode cX7_init 27 = .ok (.bipush 30, 2) := by decide +kernel
theorem dX7_init_29 : decode cX7_init 29 = .ok (.newarray .int, 2) := by decide +kernel
theorem dX7_init_31 : decode cX7_init 31 = .ok (.putfield 24, 3) := by decide +kernel
theorem dX7_init_34 : decode cX7_init 34 = .ok (.aload_n 0, 1) := by decide +kernel
theorem dX7_init_35 : decode cX7_init 35 = .ok (.bipush 16, 2) := by decide +kernel
theorem dX7_init_37 : decode cX7_init 37 = .ok (.newarray .int, 2) := by decide +kernel
theorem dX7_init_39 : decode cX7_init 39 = .ok (.putfield 27, 3) := by decide +kernel
theorem dX7_init_42 : decode cX7_init 42 = .ok (.aload_n 0, 1) := by decide +kernel
theorem dX7_init_43 : decode cX7_init 43 = .ok (.aload_n 1, 1) := by decide +kernel
theorem dX7_init_44 : decode cX7_init 44 = .ok (.putfield 30, 3) := by decide +kernel
theorem dX7_init_47 : decode cX7_init 47 = .ok (.aload_n 0, 1) := by decide +kernel
theorem dX7_init_48 : decode cX7_init 48 = .ok (.aload_n 2, 1) := by decide +kernel
theorem dX7_init_49 : decode cX7_init 49 = .ok (.putfield 34, 3) := by decide +kernel
theorem dX7_init_52 : decode cX7_init 52 = .ok (.aload_n 0, 1) := by decide +kernel
theorem dX7_init_53 : decode cX7_init 53 = .ok (.aload_n 3, 1) := by decide +kernel
theorem dX7_init_54 : decode cX7_init 54 = .ok (.putfield 38, 3) := by decide +kernel
theorem dX7_init_57 : decode cX7_init 57 = .ok (.return_, 1) := by decide +kernel
theorem dX7_addGrid_0 : decode cX7_addGrid 0 = .ok (.aload_n 0, 1) := by decide +kernel
theorem dX7_addGrid_1 : decode cX7_addGrid 1 = .ok (.getfield 14, 3) := by decide +kernel
theorem dX7_addGrid_4 : decode cX7_addGrid 4 = .ok (.invokevirtual 42, 3) := by decide +kernel
theorem dX7_addGrid_7 : decode cX7_addGrid 7 = .ok (.ifCond .ne 31, 3) := by decide +kernel
theorem dX7_addGrid_10 : decode cX7_addGrid 10 = .ok (.aload_n 0, 1) := by decide +kernel
theorem dX7_addGrid_11 : decode cX7_addGrid 11 = .ok (.getfield 38, 3) := by decide +kernel
theorem dX7_addGrid_14 : decode cX7_addGrid 14 = .ok (.getfield 46, 3) := by decide +kernel
theorem dX7_addGrid_17 : decode cX7_addGrid 17 = .ok (.ifCond .eq 21, 3) := by decide +kernel
theorem dX7_addGrid_20 : decode cX7_addGrid 20 = .ok (.iload_n 2, 1) := by decide +kernel
theorem dX7_addGrid_21 : decode cX7_addGrid 21 = .ok (.aload_n 0, 1) := by decide +kernel
theorem dX7_addGrid_22 : decode cX7_addGrid 22 = .ok (.getfield 38, 3) := by decide +kernel
theorem dX7_addGrid_25 : decode cX7_addGrid 25 = .ok (.getfield 52, 3) := by decide +kernel
theorem dX7_addGrid_28 : decode cX7_addGrid 28 = .ok (.if_icmp .ne 10, 3) := by decide +kernel
theorem dX7_addGrid_31 : decode cX7_addGrid 31 = .ok (.iload_n 2, 1) := by decide +kernel
theorem dX7_addGrid_32 : decode cX7_addGrid 32 = .ok (.sipush 160, 3) := by decide +kernel
theorem dX7_addGrid_35 : decode cX7_addGrid 35 = .ok (.if_icmp .le 5, 3) := by decide +kernel
theorem dX7_addGrid_38 : decode cX7_addGrid 38 = .ok (.iconst (-1), 1) := by decide +kernel
theorem dX7_addGrid_39 : decode cX7_addGrid 39 = .ok (.ireturn, 1) := by decide +kernel
theorem dX7_addGrid_40 : decode cX7_addGrid 40 = .ok (.iconst 0, 1) := by decide +kernel
theorem dX7_addGrid_41 : decode cX7_addGrid 41 = .ok (.istore 4, 2) := by decide +kernel
theorem dX7_addGrid_43 : decode cX7_addGrid 43 = .ok (.iload 4, 2) := by decide +kernel
theorem dX7_addGrid_45 : decode cX7_addGrid 45 = .ok (.iload_n 2, 1) := by decide +kernel
theorem dX7_addGrid_46 : decode cX7_addGrid 46 = .ok (.if_icmp .ge 21, 3) := by decide +kernel
theorem dX7_addGrid_49 : decode cX7_addGrid 49 = .ok (.aload_n 1, 1) := by decide +kernel
theorem dX7_addGrid_50 : decode cX7_addGrid 50 = .ok (.iload 4, 2) := by decide +kernel
theorem dX7_addGrid_52 : decode cX7_addGrid 52 = .ok (.iaload, 1) := by decide +kernel
theorem dX7_addGrid_53 : decode cX7_addGrid 53 = .ok (.invokestatic 54, 3) := by decide +kernel
theorem dX7_addGrid_56 : decode cX7_addGrid 56 = .ok (.ifCond .ne 5, 3) := by decide +kernel
theorem dX7_addGrid_59 : decode cX7_addGrid 59 = .ok (.iconst (-1), 1) := by decide +kernel
theorem dX7_addGrid_60 : decode cX7_addGrid 60 = .ok (.ireturn, 1) := by decide +kernel
theorem dX7_addGrid_61 : decode cX7_addGrid 61 = .ok (.iinc 4 1, 3) := by decide +kernel
theorem dX7_addGrid_64 : decode cX7_addGrid 64 = .ok (.goto (-21), 3) := by decide +kernel
theorem dX7_addGrid_67 : decode cX7_addGrid 67 = .ok (.aload_n 0, 1) := by decide +kernel
theorem dX7_addGrid_68 : decode cX7_addGrid 68 = .ok (.getfield 14, 3) := by decide +kernel
theorem dX7_addGrid_71 : decode cX7_addGrid 71 = .ok (.iconst 0, 1) := by decide +kernel
theorem dX7_addGrid_72 : decode cX7_addGrid 72 = .ok (.iload_n 3, 1) := by decide +kernel
theorem dX7_addGrid_73 : decode cX7_addGrid 73 = .ok (.invokevirtual 58, 3) := by decide +kernel
theorem dX7_addGrid_76 : decode cX7_addGrid 76 = .ok (.istore 4, 2) := by decide +kernel
theorem dX7_addGrid_78 : decode cX7_addGrid 78 = .ok (.aload_n 0, 1) := by decide +kernel
theorem dX7_addGrid_79 : decode cX7_addGrid 79 = .ok (.getfield 24, 3) := by decide +kernel
theorem dX7_addGrid_82 : decode cX7_addGrid 82 = .ok (.iload 4, 2) := by decide +kernel
theorem dX7_addGrid_84 : decode cX7_addGrid 84 = .ok (.iload_n 2, 1) := by decide +kernel
theorem dX7_addGrid_85 : decode cX7_addGrid 85 = .ok (.iastore, 1) := by decide +kernel
theorem dX7_addGrid_86 : decode cX7_addGrid 86 = .ok (.aload_n 1, 1) := by decide +kernel
theorem dX7_addGrid_87 : decode cX7_addGrid 87 = .ok (.iconst 0, 1) := by decide +kernel
theorem dX7_addGrid_88 : decode cX7_addGrid 88 = .ok (.aload_n 0, 1) := by decide +kernel
theorem dX7_addGrid_89 : decode cX7_addGrid 89 = .ok (.getfield 20, 3) := by decide +kernel
theorem dX7_addGrid_92 : decode cX7_addGrid 92 = .ok (.iload 4, 2) := by decide +kernel
theorem dX7_addGrid_94 : decode cX7_addGrid 94 = .ok (.sipush 160, 3) := by decide +kernel
theorem dX7_addGrid_97 : decode cX7_addGrid 97 = .ok (.imul, 1) := by decide +kernel
theorem dX7_addGrid_98 : decode cX7_addGrid 98 = .ok (.iload_n 2, 1) := by decide +kernel
theorem dX7_addGrid_99 : decode cX7_addGrid 99 = .ok (.invokestatic 62, 3) := by decide +kernel
theorem dX7_addGrid_102 : decode cX7_addGrid 102 = .ok (.iload 4, 2) := by decide +kernel
theorem dX7_addGrid_104 : decode cX7_addGrid 104 = .ok (.ireturn, 1) := by decide +kernel
theorem dX7_isRight_0 : decode cX7_isRight 0 = .ok (.aload_n 0, 1) := by decide +kernel
theorem dX7_isRight_1 : decode cX7_isRight 1 = .ok (.getfield 14, 3) := by decide +kernel
theorem dX7_isRight_4 : decode cX7_isRight 4 = .ok (.getfield 68, 3) := by decide +kernel
theorem dX7_isRight_7 : decode cX7_isRight 7 = .ok (.iload_n 1, 1) := by decide +kernel
theorem dX7_isRight_8 : decode cX7_isRight 8 = .ok (.iaload, 1) := by decide +kernel
theorem dX7_isRight_9 : decode cX7_isRight 9 = .ok (.iload_n 2, 1) := by decide +kernel
theorem dX7_isRight_10 : decode cX7_isRight 10 = .ok (.if_icmp .gt 19, 3) := by decide +kernel
theorem dX7_isRight_13 : decode cX7_isRight 13 = .ok (.aload_n 0, 1) := by decide +kernel
theorem dX7_isRight_14 : decode cX7_isRight 14 = .ok (.getfield 24, 3) := by decide +kernel
theorem dX7_isRight_17 : decode cX7_isRight 17 = .ok (.iload_n 1, 1) := by decide +kernel
theorem dX7_isRight_18 : decode cX7_isRight 18 = .ok (.iaload, 1) := by decide +kernel
theorem dX7_isRight_19 : decode cX7_isRight 19 = .ok (.aload_n 0, 1) := by decide +kernel
theorem dX7_isRight_20 : decode cX7_isRight 20 = .ok (.getfield 38, 3) := by decide +kernel
theorem dX7_isRight_23 : decode cX7_isRight 23 = .ok (.getfield 52, 3) := by decide +kernel
theorem dX7_isRight_26 : decode cX7_isRight 26 = .ok (.if_icmp .eq 5, 3) := by decide +kernel
theorem dX7_isRight_29 : decode cX7_isRight 29 = .ok (.iconst 0, 1) := by decide +kernel
theorem dX7_isRight_30 : decode cX7_isRight 30 = .ok (.ireturn, 1) := by decide +kernel
theorem dX7_isRight_31 : decode cX7_isRight 31 = .ok (.aload_n 0, 1) := by decide +kernel
theorem dX7_isRight_32 : decode cX7_isRight 32 = .ok (.iload_n 1, 1) := by decide +kernel
theorem dX7_isRight_33 : decode cX7_isRight 33 = .ok (.invokevirtual 71, 3) := by decide +kernel
theorem dX7_isRight_36 : decode cX7_isRight 36 = .ok (.iconst 0, 1) := by decide +kernel
theorem dX7_isRight_37 : decode cX7_isRight 37 = .ok (.istore_n 3, 1) := by decide +kernel
theorem dX7_isRight_38 : decode cX7_isRight 38 = .ok (.iload_n 3, 1) := by decide +kernel
theorem dX7_isRight_39 : decode cX7_isRight 39 = .ok (.bipush 16, 2) := by decide +kernel
theorem dX7_isRight_41 : decode cX7_isRight 41 = .ok (.if_icmp .ge 39, 3) := by decide +kernel
theorem dX7_isRight_44 : decode cX7_isRight 44 = .ok (.aload_n 0, 1) := by decide +kernel
theorem dX7_isRight_45 : decode cX7_isRight 45 = .ok (.getfield 38, 3) := by decide +kernel
theorem dX7_isRight_48 : decode cX7_isRight 48 = .ok (.iload_n 3, 1) := by decide +kernel
theorem dX7_isRight_49 : decode cX7_isRight 49 = .ok (.invokevirtual 74, 3) := by decide +kernel
theorem dX7_isRight_52 : decode cX7_isRight 52 = .ok (.ifCond .eq 22, 3) := by decide +kernel
theorem dX7_isRight_55 : decode cX7_isRight 55 = .ok (.aload_n 0, 1) := by decide +kernel
theorem dX7_isRight_56 : decode cX7_isRight 56 = .ok (.iload_n 3, 1) := by decide +kernel
theorem dX7_isRight_57 : decode cX7_isRight 57 = .ok (.invokevirtual 77, 3) := by decide +kernel
theorem dX7_isRight_60 : decode cX7_isRight 60 = .ok (.ifCond .eq 12, 3) := by decide +kernel
theorem dX7_isRight_63 : decode cX7_isRight 63 = .ok (.aload_n 0, 1) := by decide +kernel
theorem dX7_isRight_64 : decode cX7_isRight 64 = .ok (.iload_n 3, 1) := by decide +kernel
theorem dX7_isRight_65 : decode cX7_isRight 65 = .ok (.iload_n 2, 1) := by decide +kernel
theorem dX7_isRight_66 : decode cX7_isRight 66 = .ok (.invokevirtual 80, 3) := by decide +kernel
theorem dX7_isRight_69 : decode cX7_isRight 69 = .ok (.ifCond .ne 5, 3) := by decide +kernel
theorem dX7_isRight_72 : decode cX7_isRight 72 = .ok (.iconst 0, 1) := by decide +kernel
theorem dX7_isRight_73 : decode cX7_isRight 73 = .ok (.ireturn, 1) := by decide +kernel
theorem dX7_isRight_74 : decode cX7_isRight 74 = .ok (.iinc 3 1, 3) := by decide +kernel
theorem dX7_isRight_77 : decode cX7_isRight 77 = .ok (.goto (-39), 3) := by decide +kernel
theorem dX7_isRight_80 : decode cX7_isRight 80 = .ok (.iconst 1, 1) := by decide +kernel
theorem dX7_isRight_81 : decode cX7_isRight 81 = .ok (.ireturn, 1) := by decide +kernel
theorem dX7_placeStarts_0 : decode cX7_placeStarts 0 = .ok (.iload_n 1, 1) := by decide +kernel
theorem dX7_placeStarts_1 : decode cX7_placeStarts 1 = .ok (.sipush 160, 3) := by decide +kernel
theorem dX7_placeStarts_4 : decode cX7_placeStarts 4 = .ok (.imul, 1) := by decide +kernel
theorem dX7_placeStarts_5 : decode cX7_placeStarts 5 = .ok (.istore_n 2, 1) := by decide +kernel
theorem dX7_placeStarts_6 : decode cX7_placeStarts 6 = .ok (.iconst 0, 1) := by decide +kernel
theorem dX7_placeStarts_7 : decode cX7_placeStarts 7 = .ok (.istore_n 3, 1) := by decide +kernel
theorem dX7_placeStarts_8 : decode cX7_placeStarts 8 = .ok (.iload_n 3, 1) := by decide +kernel
theorem dX7_placeStarts_9 : decode cX7_placeStarts 9 = .ok (.bipush 16, 2) := by decide +kernel
theorem dX7_placeStarts_11 : decode cX7_placeStarts 11 = .ok (.if_icmp .ge 28, 3) := by decide +kernel
theorem dX7_placeStarts_14 : decode cX7_placeStarts 14 = .ok (.aload_n 0, 1) := by decide +kernel
theorem dX7_placeStarts_15 : decode cX7_placeStarts 15 = .ok (.getfield 27, 3) := by decide +kernel
theorem dX7_placeStarts_18 : decode cX7_placeStarts 18 = .ok (.iload_n 3, 1) := by decide +kernel
theorem dX7_placeStarts_19 : decode cX7_placeStarts 19 = .ok (.iload_n 2, 1) := by decide +kernel
theorem dX7_placeStarts_20 : decode cX7_placeStarts 20 = .ok (.iastore, 1) := by decide +kernel
theorem dX7_placeStarts_21 : decode cX7_placeStarts 21 = .ok (.iload_n 2, 1) := by decide +kernel
theorem dX7_placeStarts_22 : decode cX7_placeStarts 22 = .ok (.aload_n 0, 1) := by decide +kernel
theorem dX7_placeStarts_23 : decode cX7_placeStarts 23 = .ok (.getfield 38, 3) := by decide +kernel
theorem dX7_placeStarts_26 : decode cX7_placeStarts 26 = .ok (.getfield 84, 3) := by decide +kernel
theorem dX7_placeStarts_29 : decode cX7_placeStarts 29 = .ok (.iload_n 3, 1) := by decide +kernel
theorem dX7_placeStarts_30 : decode cX7_placeStarts 30 = .ok (.iaload, 1) := by decide +kernel
theorem dX7_placeStarts_31 : decode cX7_placeStarts 31 = .ok (.iadd, 1) := by decide +kernel
theorem dX7_placeStarts_32 : decode cX7_placeStarts 32 = .ok (.istore_n 2, 1) := by decide +kernel
theorem dX7_placeStarts_33 : decode cX7_placeStarts 33 = .ok (.iinc 3 1, 3) := by decide +kernel
theorem dX7_placeStarts_36 : decode cX7_placeStarts 36 = .ok (.goto (-28), 3) := by decide +kernel
theorem dX7_placeStarts_39 : decode cX7_placeStarts 39 = .ok (.return_, 1) := by decide +kernel
theorem dX7_isAlikeWhereCrossed_0 : decode cX7_isAlikeWhereCrossed 0 = .ok (.iconst 0, 1) := by decide +kernel
theorem dX7_isAlikeWhereCrossed_1 : decode cX7_isAlikeWhereCrossed 1 = .ok (.istore_n 2, 1) := by decide +kernel
theorem dX7_isAlikeWhereCrossed_2 : decode cX7_isAlikeWhereCrossed 2 = .ok (.iload_n 2, 1) := by decide +kernel
theorem dX7_isAlikeWhereCrossed_3 : decode cX7_isAlikeWhereCrossed 3 = .ok (.iload_n 1, 1) := by decide +kernel
theorem dX7_isAlikeWhereCrossed_4 : decode cX7_isAlikeWhereCrossed 4 = .ok (.if_icmp .ge 63, 3) := by decide +kernel
theorem dX7_isAlikeWhereCrossed_7 : decode cX7_isAlikeWhereCrossed 7 = .ok (.aload_n 0, 1) := by decide +kernel
theorem dX7_isAlikeWhereCrossed_8 : decode cX7_isAlikeWhereCrossed 8 = .ok (.getfield 38, 3) := by decide +kernel
theorem dX7_isAlikeWhereCrossed_11 : decode cX7_isAlikeWhereCrossed 11 = .ok (.iload_n 1, 1) := by decide +kernel
theorem dX7_isAlikeWhereCrossed_12 : decode cX7_isAlikeWhereCrossed 12 = .ok (.iload_n 2, 1) := by decide +kernel
theorem dX7_isAlikeWhereCrossed_13 : decode cX7_isAlikeWhereCrossed 13 = .ok (.invokevirtual 87, 3) := by decide +kernel
theorem dX7_isAlikeWhereCrossed_16 : decode cX7_isAlikeWhereCrossed 16 = .ok (.istore_n 3, 1) := by decide +kernel
theorem dX7_isAlikeWhereCrossed_17 : decode cX7_isAlikeWhereCrossed 17 = .ok (.iload_n 3, 1) := by decide +kernel
theorem dX7_isAlikeWhereCrossed_18 : decode cX7_isAlikeWhereCrossed 18 = .ok (.iconst (-1), 1) := by decide +kernel
theorem dX7_isAlikeWhereCrossed_19 : decode cX7_isAlikeWhereCrossed 19 = .ok (.if_icmp .eq 42, 3) := by decide +kernel
theorem dX7_isAlikeWhereCrossed_22 : decode cX7_isAlikeWhereCrossed 22 = .ok (.aload_n 0, 1) := by decide +kernel
theorem dX7_isAlikeWhereCrossed_23 : decode cX7_isAlikeWhereCrossed 23 = .ok (.getfield 20, 3) := by decide +kernel
theorem dX7_isAlikeWhereCrossed_26 : decode cX7_isAlikeWhereCrossed 26 = .ok (.aload_n 0, 1) := by decide +kernel
theorem dX7_isAlikeWhereCrossed_27 : decode cX7_isAlikeWhereCrossed 27 = .ok (.getfield 27, 3) := by decide +kernel
theorem dX7_isAlikeWhereCrossed_30 : decode cX7_isAlikeWhereCrossed 30 = .ok (.iload_n 1, 1) := by decide +kernel
theorem dX7_isAlikeWhereCrossed_31 : decode cX7_isAlikeWhereCrossed 31 = .ok (.iaload, 1) := by decide +kernel
theorem dX7_isAlikeWhereCrossed_32 : decode cX7_isAlikeWhereCrossed 32 = .ok (.iload_n 3, 1) := by decide +kernel
theorem dX7_isAlikeWhereCrossed_33 : decode cX7_isAlikeWhereCrossed 33 = .ok (.iadd, 1) := by decide +kernel
theorem dX7_isAlikeWhereCrossed_34 : decode cX7_isAlikeWhereCrossed 34 = .ok (.iaload, 1) := by decide +kernel
theorem dX7_isAlikeWhereCrossed_35 : decode cX7_isAlikeWhereCrossed 35 = .ok (.aload_n 0, 1) := by decide +kernel
theorem dX7_isAlikeWhereCrossed_36 : decode cX7_isAlikeWhereCrossed 36 = .ok (.getfield 20, 3) := by decide +kernel
theorem dX7_isAlikeWhereCrossed_39 : decode cX7_isAlikeWhereCrossed 39 = .ok (.aload_n 0, 1) := by decide +kernel
theorem dX7_isAlikeWhereCrossed_40 : decode cX7_isAlikeWhereCrossed 40 = .ok (.getfield 27, 3) := by decide +kernel
theorem dX7_isAlikeWhereCrossed_43 : decode cX7_isAlikeWhereCrossed 43 = .ok (.iload_n 2, 1) := by decide +kernel
theorem dX7_isAlikeWhereCrossed_44 : decode cX7_isAlikeWhereCrossed 44 = .ok (.iaload, 1) := by decide +kernel
theorem dX7_isAlikeWhereCrossed_45 : decode cX7_isAlikeWhereCrossed 45 = .ok (.aload_n 0, 1) := by decide +kernel
theorem dX7_isAlikeWhereCrossed_46 : decode cX7_isAlikeWhereCrossed 46 = .ok (.getfield 38, 3) := by decide +kernel
theorem dX7_isAlikeWhereCrossed_49 : decode cX7_isAlikeWhereCrossed 49 = .ok (.iload_n 2, 1) := by decide +kernel
theorem dX7_isAlikeWhereCrossed_50 : decode cX7_isAlikeWhereCrossed 50 = .ok (.iload_n 1, 1) := by decide +kernel
theorem dX7_isAlikeWhereCrossed_51 : decode cX7_isAlikeWhereCrossed 51 = .ok (.invokevirtual 87, 3) := by decide +kernel
theorem dX7_isAlikeWhereCrossed_54 : decode cX7_isAlikeWhereCrossed 54 = .ok (.iadd, 1) := by decide +kernel
theorem dX7_isAlikeWhereCrossed_55 : decode cX7_isAlikeWhereCrossed 55 = .ok (.iaload, 1) := by decide +kernel
theorem dX7_isAlikeWhereCrossed_56 : decode cX7_isAlikeWhereCrossed 56 = .ok (.if_icmp .eq 5, 3) := by decide +kernel
theorem dX7_isAlikeWhereCrossed_59 : decode cX7_isAlikeWhereCrossed 59 = .ok (.iconst 0, 1) := by decide +kernel
theorem dX7_isAlikeWhereCrossed_60 : decode cX7_isAlikeWhereCrossed 60 = .ok (.ireturn, 1) := by decide +kernel
theorem dX7_isAlikeWhereCrossed_61 : decode cX7_isAlikeWhereCrossed 61 = .ok (.iinc 2 1, 3) := by decide +kernel
theorem dX7_isAlikeWhereCrossed_64 : decode cX7_isAlikeWhereCrossed 64 = .ok (.goto (-62), 3) := by decide +kernel
theorem dX7_isAlikeWhereCrossed_67 : decode cX7_isAlikeWhereCrossed 67 = .ok (.iconst 1, 1) := by decide +kernel
theorem dX7_isAlikeWhereCrossed_68 : decode cX7_isAlikeWhereCrossed 68 = .ok (.ireturn, 1) := by decide +kernel
theorem dX7_isAnswered_0 : decode cX7_isAnswered 0 = .ok (.aload_n 0, 1) := by decide +kernel
theorem dX7_isAnswered_1 : decode cX7_isAnswered 1 = .ok (.getfield 30, 3) := by decide +kernel
theorem dX7_isAnswered_4 : decode cX7_isAnswered 4 = .ok (.aload_n 0, 1) := by decide +kernel
theorem dX7_isAnswered_5 : decode cX7_isAnswered 5 = .ok (.getfield 20, 3) := by decide +kernel
theorem dX7_isAnswered_8 : decode cX7_isAnswered 8 = .ok (.aload_n 0, 1) := by decide +kernel
theorem dX7_isAnswered_9 : decode cX7_isAnswered 9 = .ok (.getfield 27, 3) := by decide +kernel
theorem dX7_isAnswered_12 : decode cX7_isAnswered 12 = .ok (.iload_n 1, 1) := by decide +kernel
theorem dX7_isAnswered_13 : decode cX7_isAnswered 13 = .ok (.iaload, 1) := by decide +kernel
theorem dX7_isAnswered_14 : decode cX7_isAnswered 14 = .ok (.aload_n 0, 1) := by decide +kernel
theorem dX7_isAnswered_15 : decode cX7_isAnswered 15 = .ok (.getfield 38, 3) := by decide +kernel
theorem dX7_isAnswered_18 : decode cX7_isAnswered 18 = .ok (.getfield 84, 3) := by decide +kernel
theorem dX7_isAnswered_21 : decode cX7_isAnswered 21 = .ok (.iload_n 1, 1) := by decide +kernel
theorem dX7_isAnswered_22 : decode cX7_isAnswered 22 = .ok (.iaload, 1) := by decide +kernel
theorem dX7_isAnswered_23 : decode cX7_isAnswered 23 = .ok (.invokevirtual 90, 3) := by decide +kernel
theorem dX7_isAnswered_26 : decode cX7_isAnswered 26 = .ok (.istore_n 3, 1) := by decide +kernel
theorem dX7_isAnswered_27 : decode cX7_isAnswered 27 = .ok (.iload_n 3, 1) := by decide +kernel
theorem dX7_isAnswered_28 : decode cX7_isAnswered 28 = .ok (.iconst (-1), 1) := by decide +kernel
theorem dX7_isAnswered_29 : decode cX7_isAnswered 29 = .ok (.if_icmp .eq 32, 3) := by decide +kernel
theorem dX7_isAnswered_32 : decode cX7_isAnswered 32 = .ok (.iload_n 3, 1) := by decide +kernel
theorem dX7_isAnswered_33 : decode cX7_isAnswered 33 = .ok (.aload_n 0, 1) := by decide +kernel
theorem dX7_isAnswered_34 : decode cX7_isAnswered 34 = .ok (.getfield 38, 3) := by decide +kernel
theorem dX7_isAnswered_37 : decode cX7_isAnswered 37 = .ok (.iload_n 1, 1) := by decide +kernel
theorem dX7_isAnswered_38 : decode cX7_isAnswered 38 = .ok (.iload_n 2, 1) := by decide +kernel
theorem dX7_isAnswered_39 : decode cX7_isAnswered 39 = .ok (.invokevirtual 96, 3) := by decide +kernel
theorem dX7_isAnswered_42 : decode cX7_isAnswered 42 = .ok (.if_icmp .eq 15, 3) := by decide +kernel
theorem dX7_isAnswered_45 : decode cX7_isAnswered 45 = .ok (.aload_n 0, 1) := by decide +kernel
theorem dX7_isAnswered_46 : decode cX7_isAnswered 46 = .ok (.getfield 34, 3) := by decide +kernel
theorem dX7_isAnswered_49 : decode cX7_isAnswered 49 = .ok (.iload_n 1, 1) := by decide +kernel
theorem dX7_isAnswered_50 : decode cX7_isAnswered 50 = .ok (.iload_n 3, 1) := by decide +kernel
theorem dX7_isAnswered_51 : decode cX7_isAnswered 51 = .ok (.invokevirtual 99, 3) := by decide +kernel
theorem dX7_isAnswered_54 : decode cX7_isAnswered 54 = .ok (.ifCond .eq 7, 3) := by decide +kernel
theorem dX7_isAnswered_57 : decode cX7_isAnswered 57 = .ok (.iconst 1, 1) := by decide +kernel
theorem dX7_isAnswered_58 : decode cX7_isAnswered 58 = .ok (.goto 4, 3) := by decide +kernel
theorem dX7_isAnswered_61 : decode cX7_isAnswered 61 = .ok (.iconst 0, 1) := by decide +kernel
theorem dX7_isAnswered_62 : decode cX7_isAnswered 62 = .ok (.ireturn, 1) := by decide +kernel
theorem dX8_init_0 : decode cX8_init 0 = .ok (.aload_n 0, 1) := by decide +kernel
theorem dX8_init_1 : decode cX8_init 1 = .ok (.invokespecial 3, 3) := by decide +kernel
theorem dX8_init_4 : decode cX8_init 4 = .ok (.aload_n 0, 1) := by decide +kernel
theorem dX8_init_5 : decode cX8_init 5 = .ok (.new 9, 3) := by decide +kernel
theorem dX8_init_8 : decode cX8_init 8 = .ok (.dup, 1) := by decide +kernel
theorem dX8_init_9 : decode cX8_init 9 = .ok (.invokespecial 11, 3) := by decide +kernel
theorem dX8_init_12 : decode cX8_init 12 = .ok (.putfield 12, 3) := by decide +kernel
theorem dX8_init_15 : decode cX8_init 15 = .ok (.aload_n 0, 1) := by decide +kernel
theorem dX8_init_16 : decode cX8_init 16 = .ok (.new 18, 3) := by decide +kernel
theorem dX8_init_19 : decode cX8_init 19 = .ok (.dup, 1) := by decide +kernel
theorem dX8_init_20 : decode cX8_init 20 = .ok (.aload_n 1, 1) := by decide +kernel
theorem dX8_init_21 : decode cX8_init 21 = .ok (.invokespecial 20, 3) := by decide +kernel
theorem dX8_init_24 : decode cX8_init 24 = .ok (.putfield 23, 3) := by decide +kernel
theorem dX8_init_27 : decode cX8_init 27 = .ok (.return_, 1) := by decide +kernel
theorem dX8_takeClue_0 : decode cX8_takeClue 0 = .ok (.aload_n 0, 1) := by decide +kernel
theorem dX8_takeClue_1 : decode cX8_takeClue 1 = .ok (.getfield 23, 3) := by decide +kernel
theorem dX8_takeClue_4 : decode cX8_takeClue 4 = .ok (.aload_n 1, 1) := by decide +kernel
theorem dX8_takeClue_5 : decode cX8_takeClue 5 = .ok (.iload_n 2, 1) := by decide +kernel
theorem dX8_takeClue_6 : decode cX8_takeClue 6 = .ok (.iload_n 3, 1) := by decide +kernel
theorem dX8_takeClue_7 : decode cX8_takeClue 7 = .ok (.invokevirtual 27, 3) := by decide +kernel
theorem dX8_takeClue_10 : decode cX8_takeClue 10 = .ok (.return_, 1) := by decide +kernel
theorem dX8_readBy_0 : decode cX8_readBy 0 = .ok (.aload_n 0, 1) := by decide +kernel
theorem dX8_readBy_1 : decode cX8_readBy 1 = .ok (.getfield 12, 3) := by decide +kernel
theorem dX8_readBy_4 : decode cX8_readBy 4 = .ok (.iload_n 2, 1) := by decide +kernel
theorem dX8_readBy_5 : decode cX8_readBy 5 = .ok (.iload_n 3, 1) := by decide +kernel
theorem dX8_readBy_6 : decode cX8_readBy 6 = .ok (.invokevirtual 31, 3) := by decide +kernel
theorem dX8_readBy_9 : decode cX8_readBy 9 = .ok (.aload_n 0, 1) := by decide +kernel
theorem dX8_readBy_10 : decode cX8_readBy 10 = .ok (.getfield 23, 3) := by decide +kernel
theorem dX8_readBy_13 : decode cX8_readBy 13 = .ok (.getfield 35, 3) := by decide +kernel
theorem dX8_readBy_16 : decode cX8_readBy 16 = .ok (.iconst 1, 1) := by decide +kernel
theorem dX8_readBy_17 : decode cX8_readBy 17 = .ok (.isub, 1) := by decide +kernel
theorem dX8_readBy_18 : decode cX8_readBy 18 = .ok (.istore 4, 2) := by decide +kernel
theorem dX8_readBy_20 : decode cX8_readBy 20 = .ok (.iload 4, 2) := by decide +kernel
theorem dX8_readBy_22 : decode cX8_readBy 22 = .ok (.iconst 1, 1) := by decide +kernel
theorem dX8_readBy_23 : decode cX8_readBy 23 = .ok (.if_icmp .ge 5, 3) := by decide +kernel
theorem dX8_readBy_26 : decode cX8_readBy 26 = .ok (.iconst 0, 1) := by decide +kernel
theorem dX8_readBy_27 : decode cX8_readBy 27 = .ok (.ireturn, 1) := by decide +kernel
theorem dX8_readBy_28 : decode cX8_readBy 28 = .ok (.aload_n 0, 1) := by decide +kernel
theorem dX8_readBy_29 : decode cX8_readBy 29 = .ok (.getfield 23, 3) := by decide +kernel
theorem dX8_readBy_32 : decode cX8_readBy 32 = .ok (.iconst 0, 1) := by decide +kernel
theorem dX8_readBy_33 : decode cX8_readBy 33 = .ok (.iload_n 1, 1) := by decide +kernel
theorem dX8_readBy_34 : decode cX8_readBy 34 = .ok (.invokevirtual 39, 3) := by decide +kernel
theorem dX8_readBy_37 : decode cX8_readBy 37 = .ok (.istore 5, 2) := by decide +kernel
theorem dX8_readBy_39 : decode cX8_readBy 39 = .ok (.aload_n 0, 1) := by decide +kernel
theorem dX8_readBy_40 : decode cX8_readBy 40 = .ok (.getfield 23, 3) := by decide +kernel
theorem dX8_readBy_43 : decode cX8_readBy 43 = .ok (.iload 4, 2) := by decide +kernel
theorem dX8_readBy_45 : decode cX8_readBy 45 = .ok (.iload_n 1, 1) := by decide +kernel
theorem dX8_readBy_46 : decode cX8_readBy 46 = .ok (.invokevirtual 39, 3) := by decide +kernel
theorem dX8_readBy_49 : decode cX8_readBy 49 = .ok (.istore 6, 2) := by decide +kernel
theorem dX8_readBy_51 : decode cX8_readBy 51 = .ok (.iload 5, 2) := by decide +kernel
theorem dX8_readBy_53 : decode cX8_readBy 53 = .ok (.ifCond .ne 10, 3) := by decide +kernel
theorem dX8_readBy_56 : decode cX8_readBy 56 = .ok (.iload 6, 2) := by decide +kernel
theorem dX8_readBy_58 : decode cX8_readBy 58 = .ok (.ifCond .ne 5, 3) := by decide +kernel
theorem dX8_readBy_61 : decode cX8_readBy 61 = .ok (.iconst 0, 1) := by decide +kernel
theorem dX8_readBy_62 : decode cX8_readBy 62 = .ok (.ireturn, 1) := by decide +kernel
theorem dX8_readBy_63 : decode cX8_readBy 63 = .ok (.aload_n 0, 1) := by decide +kernel
theorem dX8_readBy_64 : decode cX8_readBy 64 = .ok (.getfield 23, 3) := by decide +kernel
theorem dX8_readBy_67 : decode cX8_readBy 67 = .ok (.iload_n 1, 1) := by decide +kernel
theorem dX8_readBy_68 : decode cX8_readBy 68 = .ok (.invokevirtual 43, 3) := by decide +kernel
theorem dX8_readBy_71 : decode cX8_readBy 71 = .ok (.iload 5, 2) := by decide +kernel
theorem dX8_readBy_73 : decode cX8_readBy 73 = .ok (.ifCond .eq 14, 3) := by decide +kernel
theorem dX8_readBy_76 : decode cX8_readBy 76 = .ok (.iload 6, 2) := by decide +kernel
theorem dX8_readBy_78 : decode cX8_readBy 78 = .ok (.ifCond .eq 9, 3) := by decide +kernel
theorem dX8_readBy_81 : decode cX8_readBy 81 = .ok (.aload_n 0, 1) := by decide +kernel
theorem dX8_readBy_82 : decode cX8_readBy 82 = .ok (.iload 4, 2) := by decide +kernel
theorem dX8_readBy_84 : decode cX8_readBy 84 = .ok (.invokevirtual 47, 3) := by decide +kernel
theorem dX8_readBy_87 : decode cX8_readBy 87 = .ok (.iload 5, 2) := by decide +kernel
theorem dX8_readBy_89 : decode cX8_readBy 89 = .ok (.ifCond .eq 25, 3) := by decide +kernel
theorem dX8_readBy_92 : decode cX8_readBy 92 = .ok (.aload_n 0, 1) := by decide +kernel
theorem dX8_readBy_93 : decode cX8_readBy 93 = .ok (.iconst (-1), 1) := by decide +kernel
theorem dX8_readBy_94 : decode cX8_readBy 94 = .ok (.aload_n 0, 1) := by decide +kernel
theorem dX8_readBy_95 : decode cX8_readBy 95 = .ok (.iconst 0, 1) := by decide +kernel
theorem dX8_readBy_96 : decode cX8_readBy 96 = .ok (.iconst 1, 1) := by decide +kernel
theorem dX8_readBy_97 : decode cX8_readBy 97 = .ok (.iload 4, 2) := by decide +kernel
theorem dX8_readBy_99 : decode cX8_readBy 99 = .ok (.iconst 0, 1) := by decide +kernel
theorem dX8_readBy_100 : decode cX8_readBy 100 = .ok (.aload_n 0, 1) := by decide +kernel
theorem dX8_readBy_101 : decode cX8_readBy 101 = .ok (.getfield 23, 3) := by decide +kernel
theorem dX8_readBy_104 : decode cX8_readBy 104 = .ok (.getfield 50, 3) := by decide +kernel
theorem dX8_readBy_107 : decode cX8_readBy 107 = .ok (.iconst 0, 1) := by decide +kernel
theorem dX8_readBy_108 : decode cX8_readBy 108 = .ok (.invokevirtual 53, 3) := by decide +kernel
theorem dX8_readBy_111 : decode cX8_readBy 111 = .ok (.invokevirtual 57, 3) := by decide +kernel
theorem dX8_readBy_114 : decode cX8_readBy 114 = .ok (.iload 5, 2) := by decide +kernel
theorem dX8_readBy_116 : decode cX8_readBy 116 = .ok (.ifCond .eq 57, 3) := by decide +kernel
theorem dX8_readBy_119 : decode cX8_readBy 119 = .ok (.iload 4, 2) := by decide +kernel
theorem dX8_readBy_121 : decode cX8_readBy 121 = .ok (.iconst 2, 1) := by decide +kernel
theorem dX8_readBy_122 : decode cX8_readBy 122 = .ok (.if_icmp .lt 51, 3) := by decide +kernel
theorem dX8_readBy_125 : decode cX8_readBy 125 = .ok (.aload_n 0, 1) := by decide +kernel
theorem dX8_readBy_126 : decode cX8_readBy 126 = .ok (.getfield 23, 3) := by decide +kernel
theorem dX8_readBy_129 : decode cX8_readBy 129 = .ok (.iconst 1, 1) := by decide +kernel
theorem dX8_readBy_130 : decode cX8_readBy 130 = .ok (.bipush 9, 2) := by decide +kernel
theorem dX8_readBy_132 : decode cX8_readBy 132 = .ok (.invokevirtual 61, 3) := by decide +kernel
theorem dX8_readBy_135 : decode cX8_readBy 135 = .ok (.ifCond .eq 38, 3) := by decide +kernel
theorem dX8_readBy_138 : decode cX8_readBy 138 = .ok (.aload_n 0, 1) := by decide +kernel
theorem dX8_readBy_139 : decode cX8_readBy 139 = .ok (.getfield 12, 3) := by decide +kernel
theorem dX8_readBy_142 : decode cX8_readBy 142 = .ok (.sipush 7920, 3) := by decide +kernel
theorem dX8_readBy_145 : decode cX8_readBy 145 = .ok (.invokevirtual 64, 3) := by decide +kernel
theorem dX8_readBy_148 : decode cX8_readBy 148 = .ok (.ifCond .ne 25, 3) := by decide +kernel
theorem dX8_readBy_151 : decode cX8_readBy 151 = .ok (.aload_n 0, 1) := by decide +kernel
theorem dX8_readBy_152 : decode cX8_readBy 152 = .ok (.iconst 1, 1) := by decide +kernel
theorem dX8_readBy_153 : decode cX8_readBy 153 = .ok (.aload_n 0, 1) := by decide +kernel
theorem dX8_readBy_154 : decode cX8_readBy 154 = .ok (.iconst 0, 1) := by decide +kernel
theorem dX8_readBy_155 : decode cX8_readBy 155 = .ok (.iconst 2, 1) := by decide +kernel
theorem dX8_readBy_156 : decode cX8_readBy 156 = .ok (.iload 4, 2) := by decide +kernel
theorem dX8_readBy_158 : decode cX8_readBy 158 = .ok (.iconst 0, 1) := by decide +kernel
theorem dX8_readBy_159 : decode cX8_readBy 159 = .ok (.aload_n 0, 1) := by decide +kernel
theorem dX8_readBy_160 : decode cX8_readBy 160 = .ok (.getfield 23, 3) := by decide +kernel
theorem dX8_readBy_163 : decode cX8_readBy 163 = .ok (.getfield 50, 3) := by decide +kernel
theorem dX8_readBy_166 : decode cX8_readBy 166 = .ok (.iconst 0, 1) := by decide +kernel
theorem dX8_readBy_167 : decode cX8_readBy 167 = .ok (.invokevirtual 53, 3) := by decide +kernel
theorem dX8_readBy_170 : decode cX8_readBy 170 = .ok (.invokevirtual 57, 3) := by decide +kernel
theorem dX8_readBy_173 : decode cX8_readBy 173 = .ok (.iload 6, 2) := by decide +kernel
theorem dX8_readBy_175 : decode cX8_readBy 175 = .ok (.ifCond .eq 40, 3) := by decide +kernel
theorem dX8_readBy_178 : decode cX8_readBy 178 = .ok (.aload_n 0, 1) := by decide +kernel
theorem dX8_readBy_179 : decode cX8_readBy 179 = .ok (.getfield 12, 3) := by decide +kernel
theorem dX8_readBy_182 : decode cX8_readBy 182 = .ok (.sipush 7920, 3) := by decide +kernel
theorem dX8_readBy_185 : decode cX8_readBy 185 = .ok (.invokevirtual 64, 3) := by decide +kernel
theorem dX8_readBy_188 : decode cX8_readBy 188 = .ok (.ifCond .ne 27, 3) := by decide +kernel
theorem dX8_readBy_191 : decode cX8_readBy 191 = .ok (.aload_n 0, 1) := by decide +kernel
theorem dX8_readBy_192 : decode cX8_readBy 192 = .ok (.iconst (-1), 1) := by decide +kernel
theorem dX8_readBy_193 : decode cX8_readBy 193 = .ok (.aload_n 0, 1) := by decide +kernel
theorem dX8_readBy_194 : decode cX8_readBy 194 = .ok (.iconst 0, 1) := by decide +kernel
theorem dX8_readBy_195 : decode cX8_readBy 195 = .ok (.iconst 0, 1) := by decide +kernel
theorem dX8_readBy_196 : decode cX8_readBy 196 = .ok (.iload 4, 2) := by decide +kernel
theorem dX8_readBy_198 : decode cX8_readBy 198 = .ok (.iconst 1, 1) := by decide +kernel
theorem dX8_readBy_199 : decode cX8_readBy 199 = .ok (.isub, 1) := by decide +kernel
theorem dX8_readBy_200 : decode cX8_readBy 200 = .ok (.iconst 0, 1) := by decide +kernel
theorem dX8_readBy_201 : decode cX8_readBy 201 = .ok (.aload_n 0, 1) := by decide +kernel
theorem dX8_readBy_202 : decode cX8_readBy 202 = .ok (.getfield 23, 3) := by decide +kernel
theorem dX8_readBy_205 : decode cX8_readBy 205 = .ok (.getfield 50, 3) := by decide +kernel
theorem dX8_readBy_208 : decode cX8_readBy 208 = .ok (.iconst 0, 1) := by decide +kernel
theorem dX8_readBy_209 : decode cX8_readBy 209 = .ok (.invokevirtual 53, 3) := by decide +kernel
theorem dX8_readBy_212 : decode cX8_readBy 212 = .ok (.invokevirtual 68, 3) := by decide +kernel
theorem dX8_readBy_215 : decode cX8_readBy 215 = .ok (.iload 6, 2) := by decide +kernel
theorem dX8_readBy_217 : decode cX8_readBy 217 = .ok (.ifCond .eq 65, 3) := by decide +kernel
theorem dX8_readBy_220 : decode cX8_readBy 220 = .ok (.iload 4, 2) := by decide +kernel
theorem dX8_readBy_222 : decode cX8_readBy 222 = .ok (.iconst 2, 1) := by decide +kernel
theorem dX8_readBy_223 : decode cX8_readBy 223 = .ok (.if_icmp .lt 59, 3) := by decide +kernel
theorem dX8_readBy_226 : decode cX8_readBy 226 = .ok (.aload_n 0, 1) := by decide +kernel
theorem dX8_readBy_227 : decode cX8_readBy 227 = .ok (.getfield 23, 3) := by decide +kernel
theorem dX8_readBy_230 : decode cX8_readBy 230 = .ok (.iload 4, 2) := by decide +kernel
theorem dX8_readBy_232 : decode cX8_readBy 232 = .ok (.iconst 1, 1) := by decide +kernel
theorem dX8_readBy_233 : decode cX8_readBy 233 = .ok (.isub, 1) := by decide +kernel
theorem dX8_readBy_234 : decode cX8_readBy 234 = .ok (.bipush 9, 2) := by decide +kernel
theorem dX8_readBy_236 : decode cX8_readBy 236 = .ok (.invokevirtual 61, 3) := by decide +kernel
theorem dX8_readBy_239 : decode cX8_readBy 239 = .ok (.ifCond .eq 43, 3) := by decide +kernel
theorem dX8_readBy_242 : decode cX8_readBy 242 = .ok (.aload_n 0, 1) := by decide +kernel
theorem dX8_readBy_243 : decode cX8_readBy 243 = .ok (.getfield 12, 3) := by decide +kernel
theorem dX8_readBy_246 : decode cX8_readBy 246 = .ok (.sipush 7920, 3) := by decide +kernel
theorem dX8_readBy_249 : decode cX8_readBy 249 = .ok (.invokevirtual 64, 3) := by decide +kernel
theorem dX8_readBy_252 : decode cX8_readBy 252 = .ok (.ifCond .ne 30, 3) := by decide +kernel
theorem dX8_readBy_255 : decode cX8_readBy 255 = .ok (.aload_n 0, 1) := by decide +kernel
theorem dX8_readBy_256 : decode cX8_readBy 256 = .ok (.iload 4, 2) := by decide +kernel
theorem dX8_readBy_258 : decode cX8_readBy 258 = .ok (.iconst 1, 1) := by decide +kernel
theorem dX8_readBy_259 : decode cX8_readBy 259 = .ok (.isub, 1) := by decide +kernel
theorem dX8_readBy_260 : decode cX8_readBy 260 = .ok (.aload_n 0, 1) := by decide +kernel
theorem dX8_readBy_261 : decode cX8_readBy 261 = .ok (.iconst 0, 1) := by decide +kernel
theorem dX8_readBy_262 : decode cX8_readBy 262 = .ok (.iconst 0, 1) := by decide +kernel
theorem dX8_readBy_263 : decode cX8_readBy 263 = .ok (.iload 4, 2) := by decide +kernel
theorem dX8_readBy_265 : decode cX8_readBy 265 = .ok (.iconst 2, 1) := by decide +kernel
theorem dX8_readBy_266 : decode cX8_readBy 266 = .ok (.isub, 1) := by decide +kernel
theorem dX8_readBy_267 : decode cX8_readBy 267 = .ok (.iconst 0, 1) := by decide +kernel
theorem dX8_readBy_268 : decode cX8_readBy 268 = .ok (.aload_n 0, 1) := by decide +kernel
theorem dX8_readBy_269 : decode cX8_readBy 269 = .ok (.getfield 23, 3) := by decide +kernel
theorem dX8_readBy_272 : decode cX8_readBy 272 = .ok (.getfield 50, 3) := by decide +kernel
theorem dX8_readBy_275 : decode cX8_readBy 275 = .ok (.iconst 0, 1) := by decide +kernel
theorem dX8_readBy_276 : decode cX8_readBy 276 = .ok (.invokevirtual 53, 3) := by decide +kernel
theorem dX8_readBy_279 : decode cX8_readBy 279 = .ok (.invokevirtual 68, 3) := by decide +kernel
theorem dX8_readBy_282 : decode cX8_readBy 282 = .ok (.aload_n 0, 1) := by decide +kernel
theorem dX8_readBy_283 : decode cX8_readBy 283 = .ok (.getfield 12, 3) := by decide +kernel
theorem dX8_readBy_286 : decode cX8_readBy 286 = .ok (.getfield 71, 3) := by decide +kernel
theorem dX8_readBy_289 : decode cX8_readBy 289 = .ok (.sipush 7920, 3) := by decide +kernel
theorem dX8_readBy_292 : decode cX8_readBy 292 = .ok (.iaload, 1) := by decide +kernel
theorem dX8_readBy_293 : decode cX8_readBy 293 = .ok (.ireturn, 1) := by decide +kernel
theorem dX8_leastCost_0 : decode cX8_leastCost 0 = .ok (.aload_n 0, 1) := by decide +kernel
theorem dX8_leastCost_1 : decode cX8_leastCost 1 = .ok (.getfield 12, 3) := by decide +kernel
theorem dX8_leastCost_4 : decode cX8_leastCost 4 = .ok (.getfield 75, 3) := by decide +kernel
theorem dX8_leastCost_7 : decode cX8_leastCost 7 = .ok (.sipush 7920, 3) := by decide +kernel
theorem dX8_leastCost_10 : decode cX8_leastCost 10 = .ok (.iaload, 1) := by decide +kernel
theorem dX8_leastCost_11 : decode cX8_leastCost 11 = .ok (.ireturn, 1) := by decide +kernel
theorem dX8_writeName_0 : decode cX8_writeName 0 = .ok (.iconst 0, 1) := by decide +kernel
theorem dX8_writeName_1 : decode cX8_writeName 1 = .ok (.istore_n 2, 1) := by decide +kernel
theorem dX8_writeName_2 : decode cX8_writeName 2 = .ok (.iload_n 2, 1) := by decide +kernel
theorem dX8_writeName_3 : decode cX8_writeName 3 = .ok (.bipush 36, 2) := by decide +kernel
theorem dX8_writeName_5 : decode cX8_writeName 5 = .ok (.if_icmp .ge 48, 3) := by decide +kernel
theorem dX8_writeName_8 : decode cX8_writeName 8 = .ok (.iload_n 2, 1) := by decide +kernel
theorem dX8_writeName_9 : decode cX8_writeName 9 = .ok (.aload_n 1, 1) := by decide +kernel
theorem dX8_writeName_10 : decode cX8_writeName 10 = .ok (.arraylength, 1) := by decide +kernel
theorem dX8_writeName_11 : decode cX8_writeName 11 = .ok (.if_icmp .ge 42, 3) := by decide +kernel
theorem dX8_writeName_14 : decode cX8_writeName 14 = .ok (.aload_n 0, 1) := by decide +kernel
theorem dX8_writeName_15 : decode cX8_writeName 15 = .ok (.getfield 12, 3) := by decide +kernel
theorem dX8_writeName_18 : decode cX8_writeName 18 = .ok (.sipush 7920, 3) := by decide +kernel
theorem dX8_writeName_21 : decode cX8_writeName 21 = .ok (.iload_n 2, 1) := by decide +kernel
theorem dX8_writeName_22 : decode cX8_writeName 22 = .ok (.invokevirtual 78, 3) := by decide +kernel
theorem dX8_writeName_25 : decode cX8_writeName 25 = .ok (.ifCond .eq 28, 3) := by decide +kernel
theorem dX8_writeName_28 : decode cX8_writeName 28 = .ok (.aload_n 1, 1) := by decide +kernel
theorem dX8_writeName_29 : decode cX8_writeName 29 = .ok (.iload_n 2, 1) := by decide +kernel
theorem dX8_writeName_30 : decode cX8_writeName 30 = .ok (.ldc 82, 2) := by decide +kernel
theorem dX8_writeName_32 : decode cX8_writeName 32 = .ok (.aload_n 0, 1) := by decide +kernel
theorem dX8_writeName_33 : decode cX8_writeName 33 = .ok (.getfield 12, 3) := by decide +kernel
theorem dX8_writeName_36 : decode cX8_writeName 36 = .ok (.sipush 7920, 3) := by decide +kernel
theorem dX8_writeName_39 : decode cX8_writeName 39 = .ok (.iload_n 2, 1) := by decide +kernel
theorem dX8_writeName_40 : decode cX8_writeName 40 = .ok (.invokevirtual 78, 3) := by decide +kernel
theorem dX8_writeName_43 : decode cX8_writeName 43 = .ok (.invokevirtual 84, 3) := by decide +kernel
theorem dX8_writeName_46 : decode cX8_writeName 46 = .ok (.iastore, 1) := by decide +kernel
theorem dX8_writeName_47 : decode cX8_writeName 47 = .ok (.iinc 2 1, 3) := by decide +kernel
theorem dX8_writeName_50 : decode cX8_writeName 50 = .ok (.goto (-48), 3) := by decide +kernel
theorem dX8_writeName_53 : decode cX8_writeName 53 = .ok (.iload_n 2, 1) := by decide +kernel
theorem dX8_writeName_54 : decode cX8_writeName 54 = .ok (.ireturn, 1) := by decide +kernel
theorem dX8_addTwo_0 : decode cX8_addTwo 0 = .ok (.iload_n 1, 1) := by decide +kernel
theorem dX8_addTwo_1 : decode cX8_addTwo 1 = .ok (.iconst 2, 1) := by decide +kernel
theorem dX8_addTwo_2 : decode cX8_addTwo 2 = .ok (.if_icmp .gt 21, 3) := by decide +kernel
theorem dX8_addTwo_5 : decode cX8_addTwo 5 = .ok (.iload_n 1, 1) := by decide +kernel
theorem dX8_addTwo_6 : decode cX8_addTwo 6 = .ok (.iconst 2, 1) := by decide +kernel
theorem dX8_addTwo_7 : decode cX8_addTwo 7 = .ok (.if_icmp .ne 17, 3) := by decide +kernel
theorem dX8_addTwo_10 : decode cX8_addTwo 10 = .ok (.aload_n 0, 1) := by decide +kernel
theorem dX8_addTwo_11 : decode cX8_addTwo 11 = .ok (.getfield 23, 3) := by decide +kernel
theorem dX8_addTwo_14 : decode cX8_addTwo 14 = .ok (.iconst 1, 1) := by decide +kernel
theorem dX8_addTwo_15 : decode cX8_addTwo 15 = .ok (.bipush 9, 2) := by decide +kernel
theorem dX8_addTwo_17 : decode cX8_addTwo 17 = .ok (.invokevirtual 61, 3) := by decide +kernel
theorem dX8_addTwo_20 : decode cX8_addTwo 20 = .ok (.ifCond .ne 4, 3) := by decide +kernel
theorem dX8_addTwo_23 : decode cX8_addTwo 23 = .ok (.return_, 1) := by decide +kernel
theorem dX8_addTwo_24 : decode cX8_addTwo 24 = .ok (.iconst 2, 1) := by decide +kernel
theorem dX8_addTwo_25 : decode cX8_addTwo 25 = .ok (.istore_n 2, 1) := by decide +kernel
theorem dX8_addTwo_26 : decode cX8_addTwo 26 = .ok (.aload_n 0, 1) := by decide +kernel
theorem dX8_addTwo_27 : decode cX8_addTwo 27 = .ok (.getfield 12, 3) := by decide +kernel
theorem dX8_addTwo_30 : decode cX8_addTwo 30 = .ok (.sipush 7920, 3) := by decide +kernel
theorem dX8_addTwo_33 : decode cX8_addTwo 33 = .ok (.iconst 1, 1) := by decide +kernel
theorem dX8_addTwo_34 : decode cX8_addTwo 34 = .ok (.iload_n 2, 1) := by decide +kernel
theorem dX8_addTwo_35 : decode cX8_addTwo 35 = .ok (.invokevirtual 90, 3) := by decide +kernel
theorem dX8_addTwo_38 : decode cX8_addTwo 38 = .ok (.ifCond .eq 60, 3) := by decide +kernel
theorem dX8_addTwo_41 : decode cX8_addTwo 41 = .ok (.aload_n 0, 1) := by decide +kernel
theorem dX8_addTwo_42 : decode cX8_addTwo 42 = .ok (.getfield 12, 3) := by decide +kernel
theorem dX8_addTwo_45 : decode cX8_addTwo 45 = .ok (.bipush 29, 2) := by decide +kernel
theorem dX8_addTwo_47 : decode cX8_addTwo 47 = .ok (.iconst 0, 1) := by decide +kernel
theorem dX8_addTwo_48 : decode cX8_addTwo 48 = .ok (.invokevirtual 94, 3) := by decide +kernel
theorem dX8_addTwo_51 : decode cX8_addTwo 51 = .ok (.aload_n 0, 1) := by decide +kernel
theorem dX8_addTwo_52 : decode cX8_addTwo 52 = .ok (.getfield 12, 3) := by decide +kernel
theorem dX8_addTwo_55 : decode cX8_addTwo 55 = .ok (.iload_n 1, 1) := by decide +kernel
theorem dX8_addTwo_56 : decode cX8_addTwo 56 = .ok (.iconst 2, 1) := by decide +kernel
theorem dX8_addTwo_57 : decode cX8_addTwo 57 = .ok (.if_icmp .ne 7, 3) := by decide +kernel
theorem dX8_addTwo_60 : decode cX8_addTwo 60 = .ok (.iconst 1, 1) := by decide +kernel
theorem dX8_addTwo_61 : decode cX8_addTwo 61 = .ok (.goto 4, 3) := by decide +kernel
theorem dX8_addTwo_64 : decode cX8_addTwo 64 = .ok (.iconst (-1), 1) := by decide +kernel
theorem dX8_addTwo_65 : decode cX8_addTwo 65 = .ok (.invokevirtual 97, 3) := by decide +kernel
theorem dX8_addTwo_68 : decode cX8_addTwo 68 = .ok (.aload_n 0, 1) := by decide +kernel
theorem dX8_addTwo_69 : decode cX8_addTwo 69 = .ok (.getfield 12, 3) := by decide +kernel
theorem dX8_addTwo_72 : decode cX8_addTwo 72 = .ok (.bipush 11, 2) := by decide +kernel
theorem dX8_addTwo_74 : decode cX8_addTwo 74 = .ok (.invokevirtual 100, 3) := by decide +kernel
theorem dX8_addTwo_77 : decode cX8_addTwo 77 = .ok (.aload_n 0, 1) := by decide +kernel
theorem dX8_addTwo_78 : decode cX8_addTwo 78 = .ok (.getfield 12, 3) := by decide +kernel
theorem dX8_addTwo_81 : decode cX8_addTwo 81 = .ok (.bipush 29, 2) := by decide +kernel
theorem dX8_addTwo_83 : decode cX8_addTwo 83 = .ok (.iload_n 1, 1) := by decide +kernel
theorem dX8_addTwo_84 : decode cX8_addTwo 84 = .ok (.invokevirtual 94, 3) := by decide +kernel
theorem dX8_addTwo_87 : decode cX8_addTwo 87 = .ok (.aload_n 0, 1) := by decide +kernel
theorem dX8_addTwo_88 : decode cX8_addTwo 88 = .ok (.getfield 12, 3) := by decide +kernel
theorem dX8_addTwo_91 : decode cX8_addTwo 91 = .ok (.sipush 7920, 3) := by decide +kernel
theorem dX8_addTwo_94 : decode cX8_addTwo 94 = .ok (.iload_n 2, 1) := by decide +kernel
theorem dX8_addTwo_95 : decode cX8_addTwo 95 = .ok (.invokevirtual 103, 3) := by decide +kernel
theorem dX8_addTwo_98 : decode cX8_addTwo 98 = .ok (.return_, 1) := by decide +kernel
theorem dX8_addFront_0 : decode cX8_addFront 0 = .ok (.iconst 1, 1) := by decide +kernel
theorem dX8_addFront_1 : decode cX8_addFront 1 = .ok (.aload_n 0, 1) := by decide +kernel
theorem dX8_addFront_2 : decode cX8_addFront 2 = .ok (.getfield 12, 3) := by decide +kernel
theorem dX8_addFront_5 : decode cX8_addFront 5 = .ok (.getfield 75, 3) := by decide +kernel
theorem dX8_addFront_8 : decode cX8_addFront 8 = .ok (.iload_n 2, 1) := by decide +kernel
theorem dX8_addFront_9 : decode cX8_addFront 9 = .ok (.iaload, 1) := by decide +kernel
theorem dX8_addFront_10 : decode cX8_addFront 10 = .ok (.iadd, 1) := by decide +kernel
theorem dX8_addFront_11 : decode cX8_addFront 11 = .ok (.istore_n 3, 1) := by decide +kernel
theorem dX8_addFront_12 : decode cX8_addFront 12 = .ok (.aload_n 0, 1) := by decide +kernel
theorem dX8_addFront_13 : decode cX8_addFront 13 = .ok (.getfield 12, 3) := by decide +kernel
theorem dX8_addFront_16 : decode cX8_addFront 16 = .ok (.getfield 71, 3) := by decide +kernel
theorem dX8_addFront_19 : decode cX8_addFront 19 = .ok (.iload_n 2, 1) := by decide +kernel
theorem dX8_addFront_20 : decode cX8_addFront 20 = .ok (.iaload, 1) := by decide +kernel
theorem dX8_addFront_21 : decode cX8_addFront 21 = .ok (.ifCond .le 72, 3) := by decide +kernel
theorem dX8_addFront_24 : decode cX8_addFront 24 = .ok (.aload_n 0, 1) := by decide +kernel
theorem dX8_addFront_25 : decode cX8_addFront 25 = .ok (.getfield 12, 3) := by decide +kernel
theorem dX8_addFront_28 : decode cX8_addFront 28 = .ok (.sipush 7920, 3) := by decide +kernel
theorem dX8_addFront_31 : decode cX8_addFront 31 = .ok (.aload_n 0, 1) := by decide +kernel
theorem dX8_addFront_32 : decode cX8_addFront 32 = .ok (.getfield 12, 3) := by decide +kernel
theorem dX8_addFront_35 : decode cX8_addFront 35 = .ok (.getfield 71, 3) := by decide +kernel
theorem dX8_addFront_38 : decode cX8_addFront 38 = .ok (.iload_n 2, 1) := by decide +kernel
theorem dX8_addFront_39 : decode cX8_addFront 39 = .ok (.iaload, 1) := by decide +kernel
theorem dX8_addFront_40 : decode cX8_addFront 40 = .ok (.iload_n 3, 1) := by decide +kernel
theorem dX8_addFront_41 : decode cX8_addFront 41 = .ok (.invokevirtual 90, 3) := by decide +kernel
theorem dX8_addFront_44 : decode cX8_addFront 44 = .ok (.ifCond .eq 49, 3) := by decide +kernel
theorem dX8_addFront_47 : decode cX8_addFront 47 = .ok (.aload_n 0, 1) := by decide +kernel
theorem dX8_addFront_48 : decode cX8_addFront 48 = .ok (.getfield 12, 3) := by decide +kernel
theorem dX8_addFront_51 : decode cX8_addFront 51 = .ok (.bipush 29, 2) := by decide +kernel
theorem dX8_addFront_53 : decode cX8_addFront 53 = .ok (.iconst 0, 1) := by decide +kernel
theorem dX8_addFront_54 : decode cX8_addFront 54 = .ok (.invokevirtual 94, 3) := by decide +kernel
theorem dX8_addFront_57 : decode cX8_addFront 57 = .ok (.aload_n 0, 1) := by decide +kernel
theorem dX8_addFront_58 : decode cX8_addFront 58 = .ok (.getfield 12, 3) := by decide +kernel
theorem dX8_addFront_61 : decode cX8_addFront 61 = .ok (.bipush 11, 2) := by decide +kernel
theorem dX8_addFront_63 : decode cX8_addFront 63 = .ok (.invokevirtual 100, 3) := by decide +kernel
theorem dX8_addFront_66 : decode cX8_addFront 66 = .ok (.aload_n 0, 1) := by decide +kernel
theorem dX8_addFront_67 : decode cX8_addFront 67 = .ok (.getfield 12, 3) := by decide +kernel
theorem dX8_addFront_70 : decode cX8_addFront 70 = .ok (.iload_n 1, 1) := by decide +kernel
theorem dX8_addFront_71 : decode cX8_addFront 71 = .ok (.invokevirtual 97, 3) := by decide +kernel
theorem dX8_addFront_74 : decode cX8_addFront 74 = .ok (.aload_n 0, 1) := by decide +kernel
theorem dX8_addFront_75 : decode cX8_addFront 75 = .ok (.getfield 12, 3) := by decide +kernel
theorem dX8_addFront_78 : decode cX8_addFront 78 = .ok (.iload_n 2, 1) := by decide +kernel
theorem dX8_addFront_79 : decode cX8_addFront 79 = .ok (.invokevirtual 106, 3) := by decide +kernel
theorem dX8_addFront_82 : decode cX8_addFront 82 = .ok (.aload_n 0, 1) := by decide +kernel
theorem dX8_addFront_83 : decode cX8_addFront 83 = .ok (.getfield 12, 3) := by decide +kernel
theorem dX8_addFront_86 : decode cX8_addFront 86 = .ok (.sipush 7920, 3) := by decide +kernel
theorem dX8_addFront_89 : decode cX8_addFront 89 = .ok (.iload_n 3, 1) := by decide +kernel
theorem dX8_addFront_90 : decode cX8_addFront 90 = .ok (.invokevirtual 103, 3) := by decide +kernel
theorem dX8_addFront_93 : decode cX8_addFront 93 = .ok (.return_, 1) := by decide +kernel
theorem dX8_addBack_0 : decode cX8_addBack 0 = .ok (.iconst 1, 1) := by decide +kernel
theorem dX8_addBack_1 : decode cX8_addBack 1 = .ok (.aload_n 0, 1) := by decide +kernel
theorem dX8_addBack_2 : decode cX8_addBack 2 = .ok (.getfield 12, 3) := by decide +kernel
theorem dX8_addBack_5 : decode cX8_addBack 5 = .ok (.getfield 75, 3) := by decide +kernel
theorem dX8_addBack_8 : decode cX8_addBack 8 = .ok (.iload_n 2, 1) := by decide +kernel
theorem dX8_addBack_9 : decode cX8_addBack 9 = .ok (.iaload, 1) := by decide +kernel
theorem dX8_addBack_10 : decode cX8_addBack 10 = .ok (.iadd, 1) := by decide +kernel
theorem dX8_addBack_11 : decode cX8_addBack 11 = .ok (.istore_n 3, 1) := by decide +kernel
theorem dX8_addBack_12 : decode cX8_addBack 12 = .ok (.aload_n 0, 1) := by decide +kernel
theorem dX8_addBack_13 : decode cX8_addBack 13 = .ok (.getfield 12, 3) := by decide +kernel
theorem dX8_addBack_16 : decode cX8_addBack 16 = .ok (.getfield 71, 3) := by decide +kernel
theorem dX8_addBack_19 : decode cX8_addBack 19 = .ok (.iload_n 2, 1) := by decide +kernel
theorem dX8_addBack_20 : decode cX8_addBack 20 = .ok (.iaload, 1) := by decide +kernel
theorem dX8_addBack_21 : decode cX8_addBack 21 = .ok (.ifCond .le 80, 3) := by decide +kernel
theorem dX8_addBack_24 : decode cX8_addBack 24 = .ok (.aload_n 0, 1) := by decide +kernel
theorem dX8_addBack_25 : decode cX8_addBack 25 = .ok (.getfield 12, 3) := by decide +kernel
theorem dX8_addBack_28 : decode cX8_addBack 28 = .ok (.sipush 7920, 3) := by decide +kernel
theorem dX8_addBack_31 : decode cX8_addBack 31 = .ok (.aload_n 0, 1) := by decide +kernel
theorem dX8_addBack_32 : decode cX8_addBack 32 = .ok (.getfield 12, 3) := by decide +kernel
theorem dX8_addBack_35 : decode cX8_addBack 35 = .ok (.getfield 71, 3) := by decide +kernel
theorem dX8_addBack_38 : decode cX8_addBack 38 = .ok (.iload_n 2, 1) := by decide +kernel
theorem dX8_addBack_39 : decode cX8_addBack 39 = .ok (.iaload, 1) := by decide +kernel
theorem dX8_addBack_40 : decode cX8_addBack 40 = .ok (.iload_n 3, 1) := by decide +kernel
theorem dX8_addBack_41 : decode cX8_addBack 41 = .ok (.invokevirtual 90, 3) := by decide +kernel
theorem dX8_addBack_44 : decode cX8_addBack 44 = .ok (.ifCond .eq 57, 3) := by decide +kernel
theorem dX8_addBack_47 : decode cX8_addBack 47 = .ok (.aload_n 0, 1) := by decide +kernel
theorem dX8_addBack_48 : decode cX8_addBack 48 = .ok (.getfield 12, 3) := by decide +kernel
theorem dX8_addBack_51 : decode cX8_addBack 51 = .ok (.iload_n 2, 1) := by decide +kernel
theorem dX8_addBack_52 : decode cX8_addBack 52 = .ok (.invokevirtual 106, 3) := by decide +kernel
theorem dX8_addBack_55 : decode cX8_addBack 55 = .ok (.aload_n 0, 1) := by decide +kernel
theorem dX8_addBack_56 : decode cX8_addBack 56 = .ok (.getfield 12, 3) := by decide +kernel
theorem dX8_addBack_59 : decode cX8_addBack 59 = .ok (.iload_n 1, 1) := by decide +kernel
theorem dX8_addBack_60 : decode cX8_addBack 60 = .ok (.invokevirtual 97, 3) := by decide +kernel
theorem dX8_addBack_63 : decode cX8_addBack 63 = .ok (.aload_n 0, 1) := by decide +kernel
theorem dX8_addBack_64 : decode cX8_addBack 64 = .ok (.getfield 12, 3) := by decide +kernel
theorem dX8_addBack_67 : decode cX8_addBack 67 = .ok (.bipush 11, 2) := by decide +kernel
theorem dX8_addBack_69 : decode cX8_addBack 69 = .ok (.invokevirtual 100, 3) := by decide +kernel
theorem dX8_addBack_72 : decode cX8_addBack 72 = .ok (.aload_n 0, 1) := by decide +kernel
theorem dX8_addBack_73 : decode cX8_addBack 73 = .ok (.getfield 12, 3) := by decide +kernel
theorem dX8_addBack_76 : decode cX8_addBack 76 = .ok (.bipush 29, 2) := by decide +kernel
theorem dX8_addBack_78 : decode cX8_addBack 78 = .ok (.aload_n 0, 1) := by decide +kernel
theorem dX8_addBack_79 : decode cX8_addBack 79 = .ok (.getfield 23, 3) := by decide +kernel
theorem dX8_addBack_82 : decode cX8_addBack 82 = .ok (.getfield 35, 3) := by decide +kernel
theorem dX8_addBack_85 : decode cX8_addBack 85 = .ok (.iconst 1, 1) := by decide +kernel
theorem dX8_addBack_86 : decode cX8_addBack 86 = .ok (.isub, 1) := by decide +kernel
theorem dX8_addBack_87 : decode cX8_addBack 87 = .ok (.invokevirtual 94, 3) := by decide +kernel
theorem dX8_addBack_90 : decode cX8_addBack 90 = .ok (.aload_n 0, 1) := by decide +kernel
theorem dX8_addBack_91 : decode cX8_addBack 91 = .ok (.getfield 12, 3) := by decide +kernel
theorem dX8_addBack_94 : decode cX8_addBack 94 = .ok (.sipush 7920, 3) := by decide +kernel
theorem dX8_addBack_97 : decode cX8_addBack 97 = .ok (.iload_n 3, 1) := by decide +kernel
theorem dX8_addBack_98 : decode cX8_addBack 98 = .ok (.invokevirtual 103, 3) := by decide +kernel
theorem dX8_addBack_101 : decode cX8_addBack 101 = .ok (.return_, 1) := by decide +kernel
theorem dX8_rowOf_0 : decode cX8_rowOf 0 = .ok (.iload_n 2, 1) := by decide +kernel
theorem dX8_rowOf_1 : decode cX8_rowOf 1 = .ok (.iload_n 3, 1) := by decide +kernel
theorem dX8_rowOf_2 : decode cX8_rowOf 2 = .ok (.if_icmp .gt 17, 3) := by decide +kernel
theorem dX8_rowOf_5 : decode cX8_rowOf 5 = .ok (.iload 4, 2) := by decide +kernel
theorem dX8_rowOf_7 : decode cX8_rowOf 7 = .ok (.iload 5, 2) := by decide +kernel
theorem dX8_rowOf_9 : decode cX8_rowOf 9 = .ok (.if_icmp .ge 10, 3) := by decide +kernel
theorem dX8_rowOf_12 : decode cX8_rowOf 12 = .ok (.iload 6, 2) := by decide +kernel
theorem dX8_rowOf_14 : decode cX8_rowOf 14 = .ok (.bipush 40, 2) := by decide +kernel
theorem dX8_rowOf_16 : decode cX8_rowOf 16 = .ok (.if_icmp .le 7, 3) := by decide +kernel
theorem dX8_rowOf_19 : decode cX8_rowOf 19 = .ok (.sipush 7921, 3) := by decide +kernel
theorem dX8_rowOf_22 : decode cX8_rowOf 22 = .ok (.ireturn, 1) := by decide +kernel
theorem dX8_rowOf_23 : decode cX8_rowOf 23 = .ok (.aload_n 0, 1) := by decide +kernel
theorem dX8_rowOf_24 : decode cX8_rowOf 24 = .ok (.getfield 12, 3) := by decide +kernel
theorem dX8_rowOf_27 : decode cX8_rowOf 27 = .ok (.iload_n 1, 1) := by decide +kernel
theorem dX8_rowOf_28 : decode cX8_rowOf 28 = .ok (.iload_n 2, 1) := by decide +kernel
theorem dX8_rowOf_29 : decode cX8_rowOf 29 = .ok (.iload_n 3, 1) := by decide +kernel
theorem dX8_rowOf_30 : decode cX8_rowOf 30 = .ok (.iload 4, 2) := by decide +kernel
theorem dX8_rowOf_32 : decode cX8_rowOf 32 = .ok (.iload 5, 2) := by decide +kernel
theorem dX8_rowOf_34 : decode cX8_rowOf 34 = .ok (.invokevirtual 109, 3) := by decide +kernel
theorem dX8_rowOf_37 : decode cX8_rowOf 37 = .ok (.istore 7, 2) := by decide +kernel
theorem dX8_rowOf_39 : decode cX8_rowOf 39 = .ok (.aload_n 0, 1) := by decide +kernel
theorem dX8_rowOf_40 : decode cX8_rowOf 40 = .ok (.getfield 12, 3) := by decide +kernel
theorem dX8_rowOf_43 : decode cX8_rowOf 43 = .ok (.iload 7, 2) := by decide +kernel
theorem dX8_rowOf_45 : decode cX8_rowOf 45 = .ok (.invokevirtual 113, 3) := by decide +kernel
theorem dX8_rowOf_48 : decode cX8_rowOf 48 = .ok (.ifCond .eq 6, 3) := by decide +kernel
theorem dX8_rowOf_51 : decode cX8_rowOf 51 = .ok (.iload 7, 2) := by decide +kernel
theorem dX8_rowOf_53 : decode cX8_rowOf 53 = .ok (.ireturn, 1) := by decide +kernel
theorem dX8_rowOf_54 : decode cX8_rowOf 54 = .ok (.aload_n 0, 1) := by decide +kernel
theorem dX8_rowOf_55 : decode cX8_rowOf 55 = .ok (.getfield 12, 3) := by decide +kernel
theorem dX8_rowOf_58 : decode cX8_rowOf 58 = .ok (.iload 7, 2) := by decide +kernel
theorem dX8_rowOf_60 : decode cX8_rowOf 60 = .ok (.invokevirtual 116, 3) := by decide +kernel
theorem dX8_rowOf_63 : decode cX8_rowOf 63 = .ok (.aload_n 0, 1) := by decide +kernel
theorem dX8_rowOf_64 : decode cX8_rowOf 64 = .ok (.getfield 23, 3) := by decide +kernel
theorem dX8_rowOf_67 : decode cX8_rowOf 67 = .ok (.iload_n 2, 1) := by decide +kernel
theorem dX8_rowOf_68 : decode cX8_rowOf 68 = .ok (.iload_n 3, 1) := by decide +kernel
theorem dX8_rowOf_69 : decode cX8_rowOf 69 = .ok (.invokevirtual 119, 3) := by decide +kernel
theorem dX8_rowOf_72 : decode cX8_rowOf 72 = .ok (.ifCond .eq 24, 3) := by decide +kernel
theorem dX8_rowOf_75 : decode cX8_rowOf 75 = .ok (.aload_n 0, 1) := by decide +kernel
theorem dX8_rowOf_76 : decode cX8_rowOf 76 = .ok (.iload 7, 2) := by decide +kernel
theorem dX8_rowOf_78 : decode cX8_rowOf 78 = .ok (.aload_n 0, 1) := by decide +kernel
theorem dX8_rowOf_79 : decode cX8_rowOf 79 = .ok (.iload_n 1, 1) := by decide +kernel
theorem dX8_rowOf_80 : decode cX8_rowOf 80 = .ok (.iload_n 2, 1) := by decide +kernel
theorem dX8_rowOf_81 : decode cX8_rowOf 81 = .ok (.iload_n 3, 1) := by decide +kernel
theorem dX8_rowOf_82 : decode cX8_rowOf 82 = .ok (.iload 4, 2) := by decide +kernel
theorem dX8_rowOf_84 : decode cX8_rowOf 84 = .ok (.iload 5, 2) := by decide +kernel
theorem dX8_rowOf_86 : decode cX8_rowOf 86 = .ok (.iload 6, 2) := by decide +kernel
theorem dX8_rowOf_88 : decode cX8_rowOf 88 = .ok (.iconst 1, 1) := by decide +kernel
theorem dX8_rowOf_89 : decode cX8_rowOf 89 = .ok (.iadd, 1) := by decide +kernel
theorem dX8_rowOf_90 : decode cX8_rowOf 90 = .ok (.invokevirtual 122, 3) := by decide +kernel
theorem dX8_rowOf_93 : decode cX8_rowOf 93 = .ok (.invokevirtual 125, 3) := by decide +kernel
theorem dX8_rowOf_96 : decode cX8_rowOf 96 = .ok (.iload_n 2, 1) := by decide +kernel
theorem dX8_rowOf_97 : decode cX8_rowOf 97 = .ok (.istore 8, 2) := by decide +kernel
theorem dX8_rowOf_99 : decode cX8_rowOf 99 = .ok (.iload 8, 2) := by decide +kernel
theorem dX8_rowOf_101 : decode cX8_rowOf 101 = .ok (.iload_n 3, 1) := by decide +kernel
theorem dX8_rowOf_102 : decode cX8_rowOf 102 = .ok (.if_icmp .ge 172, 3) := by decide +kernel
theorem dX8_rowOf_105 : decode cX8_rowOf 105 = .ok (.aload_n 0, 1) := by decide +kernel
theorem dX8_rowOf_106 : decode cX8_rowOf 106 = .ok (.getfield 12, 3) := by decide +kernel
theorem dX8_rowOf_109 : decode cX8_rowOf 109 = .ok (.iload 7, 2) := by decide +kernel
theorem dX8_rowOf_111 : decode cX8_rowOf 111 = .ok (.invokevirtual 64, 3) := by decide +kernel
theorem dX8_rowOf_114 : decode cX8_rowOf 114 = .ok (.ifCond .ne 160, 3) := by decide +kernel
theorem dX8_rowOf_117 : decode cX8_rowOf 117 = .ok (.iload 4, 2) := by decide +kernel
theorem dX8_rowOf_119 : decode cX8_rowOf 119 = .ok (.iconst 1, 1) := by decide +kernel
theorem dX8_rowOf_120 : decode cX8_rowOf 120 = .ok (.iadd, 1) := by decide +kernel
theorem dX8_rowOf_121 : decode cX8_rowOf 121 = .ok (.istore 9, 2) := by decide +kernel
theorem dX8_rowOf_123 : decode cX8_rowOf 123 = .ok (.iload 9, 2) := by decide +kernel
theorem dX8_rowOf_125 : decode cX8_rowOf 125 = .ok (.iload 5, 2) := by decide +kernel
theorem dX8_rowOf_127 : decode cX8_rowOf 127 = .ok (.if_icmp .ge 141, 3) := by decide +kernel
theorem dX8_rowOf_130 : decode cX8_rowOf 130 = .ok (.aload_n 0, 1) := by decide +kernel
theorem dX8_rowOf_131 : decode cX8_rowOf 131 = .ok (.getfield 23, 3) := by decide +kernel
theorem dX8_rowOf_134 : decode cX8_rowOf 134 = .ok (.iload_n 2, 1) := by decide +kernel
theorem dX8_rowOf_135 : decode cX8_rowOf 135 = .ok (.iload 8, 2) := by decide +kernel
theorem dX8_rowOf_137 : decode cX8_rowOf 137 = .ok (.invokevirtual 119, 3) := by decide +kernel
theorem dX8_rowOf_140 : decode cX8_rowOf 140 = .ok (.ifCond .eq 128, 3) := by decide +kernel
theorem dX8_rowOf_143 : decode cX8_rowOf 143 = .ok (.aload_n 0, 1) := by decide +kernel
theorem dX8_rowOf_144 : decode cX8_rowOf 144 = .ok (.getfield 12, 3) := by decide +kernel
theorem dX8_rowOf_147 : decode cX8_rowOf 147 = .ok (.iload 7, 2) := by decide +kernel
theorem dX8_rowOf_149 : decode cX8_rowOf 149 = .ok (.invokevirtual 64, 3) := by decide +kernel
theorem dX8_rowOf_152 : decode cX8_rowOf 152 = .ok (.ifCond .ne 116, 3) := by decide +kernel
theorem dX8_rowOf_155 : decode cX8_rowOf 155 = .ok (.aload_n 0, 1) := by decide +kernel
theorem dX8_rowOf_156 : decode cX8_rowOf 156 = .ok (.iload_n 1, 1) := by decide +kernel
theorem dX8_rowOf_157 : decode cX8_rowOf 157 = .ok (.iload_n 2, 1) := by decide +kernel
theorem dX8_rowOf_158 : decode cX8_rowOf 158 = .ok (.iload 8, 2) := by decide +kernel
theorem dX8_rowOf_160 : decode cX8_rowOf 160 = .ok (.iload 4, 2) := by decide +kernel
theorem dX8_rowOf_162 : decode cX8_rowOf 162 = .ok (.iload 9, 2) := by decide +kernel
theorem dX8_rowOf_164 : decode cX8_rowOf 164 = .ok (.iload 6, 2) := by decide +kernel
theorem dX8_rowOf_166 : decode cX8_rowOf 166 = .ok (.iconst 1, 1) := by decide +kernel
theorem dX8_rowOf_167 : decode cX8_rowOf 167 = .ok (.iadd, 1) := by decide +kernel
theorem dX8_rowOf_168 : decode cX8_rowOf 168 = .ok (.invokevirtual 122, 3) := by decide +kernel
theorem dX8_rowOf_171 : decode cX8_rowOf 171 = .ok (.istore 10, 2) := by decide +kernel
theorem dX8_rowOf_173 : decode cX8_rowOf 173 = .ok (.aload_n 0, 1) := by decide +kernel
theorem dX8_rowOf_174 : decode cX8_rowOf 174 = .ok (.getfield 12, 3) := by decide +kernel
theorem dX8_rowOf_177 : decode cX8_rowOf 177 = .ok (.getfield 71, 3) := by decide +kernel
theorem dX8_rowOf_180 : decode cX8_rowOf 180 = .ok (.iload 10, 2) := by decide +kernel
theorem dX8_rowOf_182 : decode cX8_rowOf 182 = .ok (.iaload, 1) := by decide +kernel
theorem dX8_rowOf_183 : decode cX8_rowOf 183 = .ok (.ifCond .ne 6, 3) := by decide +kernel
theorem dX8_rowOf_186 : decode cX8_rowOf 186 = .ok (.goto 76, 3) := by decide +kernel
theorem dX8_rowOf_189 : decode cX8_rowOf 189 = .ok (.aload_n 0, 1) := by decide +kernel
theorem dX8_rowOf_190 : decode cX8_rowOf 190 = .ok (.iload 7, 2) := by decide +kernel
theorem dX8_rowOf_192 : decode cX8_rowOf 192 = .ok (.iload 10, 2) := by decide +kernel
theorem dX8_rowOf_194 : decode cX8_rowOf 194 = .ok (.iconst (-1), 1) := by decide +kernel
theorem dX8_rowOf_195 : decode cX8_rowOf 195 = .ok (.aload_n 0, 1) := by decide +kernel
theorem dX8_rowOf_196 : decode cX8_rowOf 196 = .ok (.iload_n 1, 1) := by decide +kernel
theorem dX8_rowOf_197 : decode cX8_rowOf 197 = .ok (.iload 8, 2) := by decide +kernel
theorem dX8_rowOf_199 : decode cX8_rowOf 199 = .ok (.iconst 1, 1) := by decide +kernel
theorem dX8_rowOf_200 : decode cX8_rowOf 200 = .ok (.iadd, 1) := by decide +kernel
theorem dX8_rowOf_201 : decode cX8_rowOf 201 = .ok (.iload_n 3, 1) := by decide +kernel
theorem dX8_rowOf_202 : decode cX8_rowOf 202 = .ok (.iload 9, 2) := by decide +kernel
theorem dX8_rowOf_204 : decode cX8_rowOf 204 = .ok (.iload 5, 2) := by decide +kernel
theorem dX8_rowOf_206 : decode cX8_rowOf 206 = .ok (.iload 6, 2) := by decide +kernel
theorem dX8_rowOf_208 : decode cX8_rowOf 208 = .ok (.iconst 1, 1) := by decide +kernel
theorem dX8_rowOf_209 : decode cX8_rowOf 209 = .ok (.iadd, 1) := by decide +kernel
theorem dX8_rowOf_210 : decode cX8_rowOf 210 = .ok (.invokevirtual 53, 3) := by decide +kernel
theorem dX8_rowOf_213 : decode cX8_rowOf 213 = .ok (.invokevirtual 128, 3) := by decide +kernel
theorem dX8_rowOf_216 : decode cX8_rowOf 216 = .ok (.aload_n 0, 1) := by decide +kernel
theorem dX8_rowOf_217 : decode cX8_rowOf 217 = .ok (.getfield 23, 3) := by decide +kernel
theorem dX8_rowOf_220 : decode cX8_rowOf 220 = .ok (.iload 8, 2) := by decide +kernel
theorem dX8_rowOf_222 : decode cX8_rowOf 222 = .ok (.iconst 1, 1) := by decide +kernel
theorem dX8_rowOf_223 : decode cX8_rowOf 223 = .ok (.iadd, 1) := by decide +kernel
theorem dX8_rowOf_224 : decode cX8_rowOf 224 = .ok (.bipush 9, 2) := by decide +kernel
theorem dX8_rowOf_226 : decode cX8_rowOf 226 = .ok (.invokevirtual 61, 3) := by decide +kernel
theorem dX8_rowOf_229 : decode cX8_rowOf 229 = .ok (.ifCond .eq 33, 3) := by decide +kernel
theorem dX8_rowOf_232 : decode cX8_rowOf 232 = .ok (.aload_n 0, 1) := by decide +kernel
theorem dX8_rowOf_233 : decode cX8_rowOf 233 = .ok (.iload 7, 2) := by decide +kernel
theorem dX8_rowOf_235 : decode cX8_rowOf 235 = .ok (.iload 10, 2) := by decide +kernel
theorem dX8_rowOf_237 : decode cX8_rowOf 237 = .ok (.iload 8, 2) := by decide +kernel
theorem dX8_rowOf_239 : decode cX8_rowOf 239 = .ok (.iconst 1, 1) := by decide +kernel
theorem dX8_rowOf_240 : decode cX8_rowOf 240 = .ok (.iadd, 1) := by decide +kernel
theorem dX8_rowOf_241 : decode cX8_rowOf 241 = .ok (.aload_n 0, 1) := by decide +kernel
theorem dX8_rowOf_242 : decode cX8_rowOf 242 = .ok (.iload_n 1, 1) := by decide +kernel
theorem dX8_rowOf_243 : decode cX8_rowOf 243 = .ok (.iload 8, 2) := by decide +kernel
theorem dX8_rowOf_245 : decode cX8_rowOf 245 = .ok (.iconst 2, 1) := by decide +kernel
theorem dX8_rowOf_246 : decode cX8_rowOf 246 = .ok (.iadd, 1) := by decide +kernel
theorem dX8_rowOf_247 : decode cX8_rowOf 247 = .ok (.iload_n 3, 1) := by decide +kernel
theorem dX8_rowOf_248 : decode cX8_rowOf 248 = .ok (.iload 9, 2) := by decide +kernel
theorem dX8_rowOf_250 : decode cX8_rowOf 250 = .ok (.iload 5, 2) := by decide +kernel
theorem dX8_rowOf_252 : decode cX8_rowOf 252 = .ok (.iload 6, 2) := by decide +kernel
theorem dX8_rowOf_254 : decode cX8_rowOf 254 = .ok (.iconst 1, 1) := by decide +kernel
theorem dX8_rowOf_255 : decode cX8_rowOf 255 = .ok (.iadd, 1) := by decide +kernel
theorem dX8_rowOf_256 : decode cX8_rowOf 256 = .ok (.invokevirtual 53, 3) := by decide +kernel
theorem dX8_rowOf_259 : decode cX8_rowOf 259 = .ok (.invokevirtual 128, 3) := by decide +kernel
theorem dX8_rowOf_262 : decode cX8_rowOf 262 = .ok (.iinc 9 1, 3) := by decide +kernel
theorem dX8_rowOf_265 : decode cX8_rowOf 265 = .ok (.goto (-142), 3) := by decide +kernel
theorem dX8_rowOf_268 : decode cX8_rowOf 268 = .ok (.iinc 8 1, 3) := by decide +kernel
theorem dX8_rowOf_271 : decode cX8_rowOf 271 = .ok (.goto (-172), 3) := by decide +kernel
theorem dX8_rowOf_274 : decode cX8_rowOf 274 = .ok (.iload 7, 2) := by decide +kernel
theorem dX8_rowOf_276 : decode cX8_rowOf 276 = .ok (.ireturn, 1) := by decide +kernel
theorem dX8_addAlone_0 : decode cX8_addAlone 0 = .ok (.aload_n 0, 1) := by decide +kernel
theorem dX8_addAlone_1 : decode cX8_addAlone 1 = .ok (.getfield 12, 3) := by decide +kernel
theorem dX8_addAlone_4 : decode cX8_addAlone 4 = .ok (.getfield 75, 3) := by decide +kernel
theorem dX8_addAlone_7 : decode cX8_addAlone 7 = .ok (.iload_n 2, 1) := by decide +kernel
theorem dX8_addAlone_8 : decode cX8_addAlone 8 = .ok (.iaload, 1) := by decide +kernel
theorem dX8_addAlone_9 : decode cX8_addAlone 9 = .ok (.istore_n 3, 1) := by decide +kernel
theorem dX8_addAlone_10 : decode cX8_addAlone 10 = .ok (.aload_n 0, 1) := by decide +kernel
theorem dX8_addAlone_11 : decode cX8_addAlone 11 = .ok (.getfield 12, 3) := by decide +kernel
theorem dX8_addAlone_14 : decode cX8_addAlone 14 = .ok (.getfield 71, 3) := by decide +kernel
theorem dX8_addAlone_17 : decode cX8_addAlone 17 = .ok (.iload_n 2, 1) := by decide +kernel
theorem dX8_addAlone_18 : decode cX8_addAlone 18 = .ok (.iaload, 1) := by decide +kernel
theorem dX8_addAlone_19 : decode cX8_addAlone 19 = .ok (.ifCond .le 41, 3) := by decide +kernel
theorem dX8_addAlone_22 : decode cX8_addAlone 22 = .ok (.aload_n 0, 1) := by decide +kernel
theorem dX8_addAlone_23 : decode cX8_addAlone 23 = .ok (.getfield 12, 3) := by decide +kernel
theorem dX8_addAlone_26 : decode cX8_addAlone 26 = .ok (.iload_n 1, 1) := by decide +kernel
theorem dX8_addAlone_27 : decode cX8_addAlone 27 = .ok (.aload_n 0, 1) := by decide +kernel
theorem dX8_addAlone_28 : decode cX8_addAlone 28 = .ok (.getfield 12, 3) := by decide +kernel
theorem dX8_addAlone_31 : decode cX8_addAlone 31 = .ok (.getfield 71, 3) := by decide +kernel
theorem dX8_addAlone_34 : decode cX8_addAlone 34 = .ok (.iload_n 2, 1) := by decide +kernel
theorem dX8_addAlone_35 : decode cX8_addAlone 35 = .ok (.iaload, 1) := by decide +kernel
theorem dX8_addAlone_36 : decode cX8_addAlone 36 = .ok (.iload_n 3, 1) := by decide +kernel
theorem dX8_addAlone_37 : decode cX8_addAlone 37 = .ok (.invokevirtual 90, 3) := by decide +kernel
theorem dX8_addAlone_40 : decode cX8_addAlone 40 = .ok (.ifCond .eq 20, 3) := by decide +kernel
theorem dX8_addAlone_43 : decode cX8_addAlone 43 = .ok (.aload_n 0, 1) := by decide +kernel
theorem dX8_addAlone_44 : decode cX8_addAlone 44 = .ok (.getfield 12, 3) := by decide +kernel
theorem dX8_addAlone_47 : decode cX8_addAlone 47 = .ok (.iload_n 2, 1) := by decide +kernel
theorem dX8_addAlone_48 : decode cX8_addAlone 48 = .ok (.invokevirtual 106, 3) := by decide +kernel
theorem dX8_addAlone_51 : decode cX8_addAlone 51 = .ok (.aload_n 0, 1) := by decide +kernel
theorem dX8_addAlone_52 : decode cX8_addAlone 52 = .ok (.getfield 12, 3) := by decide +kernel
theorem dX8_addAlone_55 : decode cX8_addAlone 55 = .ok (.iload_n 1, 1) := by decide +kernel
theorem dX8_addAlone_56 : decode cX8_addAlone 56 = .ok (.iload_n 3, 1) := by decide +kernel
theorem dX8_addAlone_57 : decode cX8_addAlone 57 = .ok (.invokevirtual 103, 3) := by decide +kernel
theorem dX8_addAlone_60 : decode cX8_addAlone 60 = .ok (.return_, 1) := by decide +kernel
theorem dX8_addJoined_0 : decode cX8_addJoined 0 = .ok (.aload_n 0, 1) := by decide +kernel
theorem dX8_addJoined_1 : decode cX8_addJoined 1 = .ok (.getfield 12, 3) := by decide +kernel
theorem dX8_addJoined_4 : decode cX8_addJoined 4 = .ok (.getfield 71, 3) := by decide +kernel
theorem dX8_addJoined_7 : decode cX8_addJoined 7 = .ok (.iload_n 2, 1) := by decide +kernel
theorem dX8_addJoined_8 : decode cX8_addJoined 8 = .ok (.iaload, 1) := by decide +kernel
theorem dX8_addJoined_9 : decode cX8_addJoined 9 = .ok (.aload_n 0, 1) := by decide +kernel
theorem dX8_addJoined_10 : decode cX8_addJoined 10 = .ok (.getfield 12, 3) := by decide +kernel
theorem dX8_addJoined_13 : decode cX8_addJoined 13 = .ok (.getfield 71, 3) := by decide +kernel
theorem dX8_addJoined_16 : decode cX8_addJoined 16 = .ok (.iload 4, 2) := by decide +kernel
theorem dX8_addJoined_18 : decode cX8_addJoined 18 = .ok (.iaload, 1) := by decide +kernel
theorem dX8_addJoined_19 : decode cX8_addJoined 19 = .ok (.imul, 1) := by decide +kernel
theorem dX8_addJoined_20 : decode cX8_addJoined 20 = .ok (.istore 5, 2) := by decide +kernel
theorem dX8_addJoined_22 : decode cX8_addJoined 22 = .ok (.aload_n 0, 1) := by decide +kernel
theorem dX8_addJoined_23 : decode cX8_addJoined 23 = .ok (.getfield 12, 3) := by decide +kernel
theorem dX8_addJoined_26 : decode cX8_addJoined 26 = .ok (.getfield 75, 3) := by decide +kernel
theorem dX8_addJoined_29 : decode cX8_addJoined 29 = .ok (.iload_n 2, 1) := by decide +kernel
theorem dX8_addJoined_30 : decode cX8_addJoined 30 = .ok (.iaload, 1) := by decide +kernel
theorem dX8_addJoined_31 : decode cX8_addJoined 31 = .ok (.aload_n 0, 1) := by decide +kernel
theorem dX8_addJoined_32 : decode cX8_addJoined 32 = .ok (.getfield 12, 3) := by decide +kernel
theorem dX8_addJoined_35 : decode cX8_addJoined 35 = .ok (.getfield 75, 3) := by decide +kernel
theorem dX8_addJoined_38 : decode cX8_addJoined 38 = .ok (.iload 4, 2) := by decide +kernel
theorem dX8_addJoined_40 : decode cX8_addJoined 40 = .ok (.iaload, 1) := by decide +kernel
theorem dX8_addJoined_41 : decode cX8_addJoined 41 = .ok (.iadd, 1) := by decide +kernel
theorem dX8_addJoined_42 : decode cX8_addJoined 42 = .ok (.istore 6, 2) := by decide +kernel
theorem dX8_addJoined_44 : decode cX8_addJoined 44 = .ok (.iload 5, 2) := by decide +kernel
theorem dX8_addJoined_46 : decode cX8_addJoined 46 = .ok (.ifCond .le 53, 3) := by decide +kernel
theorem dX8_addJoined_49 : decode cX8_addJoined 49 = .ok (.aload_n 0, 1) := by decide +kernel
theorem dX8_addJoined_50 : decode cX8_addJoined 50 = .ok (.getfield 12, 3) := by decide +kernel
theorem dX8_addJoined_53 : decode cX8_addJoined 53 = .ok (.iload_n 1, 1) := by decide +kernel
theorem dX8_addJoined_54 : decode cX8_addJoined 54 = .ok (.iload 5, 2) := by decide +kernel
theorem dX8_addJoined_56 : decode cX8_addJoined 56 = .ok (.iload 6, 2) := by decide +kernel
theorem dX8_addJoined_58 : decode cX8_addJoined 58 = .ok (.invokevirtual 90, 3) := by decide +kernel
theorem dX8_addJoined_61 : decode cX8_addJoined 61 = .ok (.ifCond .eq 38, 3) := by decide +kernel
theorem dX8_addJoined_64 : decode cX8_addJoined 64 = .ok (.aload_n 0, 1) := by decide +kernel
theorem dX8_addJoined_65 : decode cX8_addJoined 65 = .ok (.getfield 12, 3) := by decide +kernel
theorem dX8_addJoined_68 : decode cX8_addJoined 68 = .ok (.iload_n 2, 1) := by decide +kernel
theorem dX8_addJoined_69 : decode cX8_addJoined 69 = .ok (.invokevirtual 106, 3) := by decide +kernel
theorem dX8_addJoined_72 : decode cX8_addJoined 72 = .ok (.aload_n 0, 1) := by decide +kernel
theorem dX8_addJoined_73 : decode cX8_addJoined 73 = .ok (.getfield 12, 3) := by decide +kernel
theorem dX8_addJoined_76 : decode cX8_addJoined 76 = .ok (.iload_n 3, 1) := by decide +kernel
theorem dX8_addJoined_77 : decode cX8_addJoined 77 = .ok (.invokevirtual 97, 3) := by decide +kernel
theorem dX8_addJoined_80 : decode cX8_addJoined 80 = .ok (.aload_n 0, 1) := by decide +kernel
theorem dX8_addJoined_81 : decode cX8_addJoined 81 = .ok (.getfield 12, 3) := by decide +kernel
theorem dX8_addJoined_84 : decode cX8_addJoined 84 = .ok (.iload 4, 2) := by decide +kernel
theorem dX8_addJoined_86 : decode cX8_addJoined 86 = .ok (.invokevirtual 106, 3) := by decide +kernel
theorem dX8_addJoined_89 : decode cX8_addJoined 89 = .ok (.aload_n 0, 1) := by decide +kernel
theorem dX8_addJoined_90 : decode cX8_addJoined 90 = .ok (.getfield 12, 3) := by decide +kernel
theorem dX8_addJoined_93 : decode cX8_addJoined 93 = .ok (.iload_n 1, 1) := by decide +kernel
theorem dX8_addJoined_94 : decode cX8_addJoined 94 = .ok (.iload 6, 2) := by decide +kernel
theorem dX8_addJoined_96 : decode cX8_addJoined 96 = .ok (.invokevirtual 103, 3) := by decide +kernel
theorem dX8_addJoined_99 : decode cX8_addJoined 99 = .ok (.return_, 1) := by decide +kernel
theorem dX8_pieceOf_0 : decode cX8_pieceOf 0 = .ok (.iload_n 2, 1) := by decide +kernel
theorem dX8_pieceOf_1 : decode cX8_pieceOf 1 = .ok (.iload_n 3, 1) := by decide +kernel
theorem dX8_pieceOf_2 : decode cX8_pieceOf 2 = .ok (.if_icmp .gt 17, 3) := by decide +kernel
theorem dX8_pieceOf_5 : decode cX8_pieceOf 5 = .ok (.iload 4, 2) := by decide +kernel
theorem dX8_pieceOf_7 : decode cX8_pieceOf 7 = .ok (.iload 5, 2) := by decide +kernel
theorem dX8_pieceOf_9 : decode cX8_pieceOf 9 = .ok (.if_icmp .ge 10, 3) := by decide +kernel
theorem dX8_pieceOf_12 : decode cX8_pieceOf 12 = .ok (.iload 6, 2) := by decide +kernel
theorem dX8_pieceOf_14 : decode cX8_pieceOf 14 = .ok (.bipush 40, 2) := by decide +kernel
theorem dX8_pieceOf_16 : decode cX8_pieceOf 16 = .ok (.if_icmp .le 7, 3) := by decide +kernel
theorem dX8_pieceOf_19 : decode cX8_pieceOf 19 = .ok (.sipush 7921, 3) := by decide +kernel
theorem dX8_pieceOf_22 : decode cX8_pieceOf 22 = .ok (.ireturn, 1) := by decide +kernel
theorem dX8_pieceOf_23 : decode cX8_pieceOf 23 = .ok (.aload_n 0, 1) := by decide +kernel
theorem dX8_pieceOf_24 : decode cX8_pieceOf 24 = .ok (.getfield 12, 3) := by decide +kernel
theorem dX8_pieceOf_27 : decode cX8_pieceOf 27 = .ok (.iconst 2, 1) := by decide +kernel
theorem dX8_pieceOf_28 : decode cX8_pieceOf 28 = .ok (.iload_n 1, 1) := by decide +kernel
theorem dX8_pieceOf_29 : decode cX8_pieceOf 29 = .ok (.iadd, 1) := by decide +kernel
theorem dX8_pieceOf_30 : decode cX8_pieceOf 30 = .ok (.iload_n 2, 1) := by decide +kernel
theorem dX8_pieceOf_31 : decode cX8_pieceOf 31 = .ok (.iload_n 3, 1) := by decide +kernel
theorem dX8_pieceOf_32 : decode cX8_pieceOf 32 = .ok (.iload 4, 2) := by decide +kernel
theorem dX8_pieceOf_34 : decode cX8_pieceOf 34 = .ok (.iload 5, 2) := by decide +kernel
theorem dX8_pieceOf_36 : decode cX8_pieceOf 36 = .ok (.invokevirtual 109, 3) := by decide +kernel
theorem dX8_pieceOf_39 : decode cX8_pieceOf 39 = .ok (.istore 7, 2) := by decide +kernel
theorem dX8_pieceOf_41 : decode cX8_pieceOf 41 = .ok (.aload_n 0, 1) := by decide +kernel
theorem dX8_pieceOf_42 : decode cX8_pieceOf 42 = .ok (.getfield 12, 3) := by decide +kernel
theorem dX8_pieceOf_45 : decode cX8_pieceOf 45 = .ok (.iload 7, 2) := by decide +kernel
theorem dX8_pieceOf_47 : decode cX8_pieceOf 47 = .ok (.invokevirtual 113, 3) := by decide +kernel
theorem dX8_pieceOf_50 : decode cX8_pieceOf 50 = .ok (.ifCond .eq 6, 3) := by decide +kernel
theorem dX8_pieceOf_53 : decode cX8_pieceOf 53 = .ok (.iload 7, 2) := by decide +kernel
theorem dX8_pieceOf_55 : decode cX8_pieceOf 55 = .ok (.ireturn, 1) := by decide +kernel
theorem dX8_pieceOf_56 : decode cX8_pieceOf 56 = .ok (.aload_n 0, 1) := by decide +kernel
theorem dX8_pieceOf_57 : decode cX8_pieceOf 57 = .ok (.getfield 12, 3) := by decide +kernel
theorem dX8_pieceOf_60 : decode cX8_pieceOf 60 = .ok (.iload 7, 2) := by decide +kernel
theorem dX8_pieceOf_62 : decode cX8_pieceOf 62 = .ok (.invokevirtual 116, 3) := by decide +kernel
theorem dX8_pieceOf_65 : decode cX8_pieceOf 65 = .ok (.aload_n 0, 1) := by decide +kernel
theorem dX8_pieceOf_66 : decode cX8_pieceOf 66 = .ok (.getfield 23, 3) := by decide +kernel
theorem dX8_pieceOf_69 : decode cX8_pieceOf 69 = .ok (.iload_n 1, 1) := by decide +kernel
theorem dX8_pieceOf_70 : decode cX8_pieceOf 70 = .ok (.iload 4, 2) := by decide +kernel
theorem dX8_pieceOf_72 : decode cX8_pieceOf 72 = .ok (.iload 5, 2) := by decide +kernel
theorem dX8_pieceOf_74 : decode cX8_pieceOf 74 = .ok (.iload 5, 2) := by decide +kernel
theorem dX8_pieceOf_76 : decode cX8_pieceOf 76 = .ok (.iload 5, 2) := by decide +kernel
theorem dX8_pieceOf_78 : decode cX8_pieceOf 78 = .ok (.invokevirtual 132, 3) := by decide +kernel
theorem dX8_pieceOf_81 : decode cX8_pieceOf 81 = .ok (.iload_n 2, 1) := by decide +kernel
theorem dX8_pieceOf_82 : decode cX8_pieceOf 82 = .ok (.iload_n 3, 1) := by decide +kernel
theorem dX8_pieceOf_83 : decode cX8_pieceOf 83 = .ok (.if_icmp .ne 13, 3) := by decide +kernel
theorem dX8_pieceOf_86 : decode cX8_pieceOf 86 = .ok (.aload_n 0, 1) := by decide +kernel
theorem dX8_pieceOf_87 : decode cX8_pieceOf 87 = .ok (.iload 7, 2) := by decide +kernel
theorem dX8_pieceOf_89 : decode cX8_pieceOf 89 = .ok (.iload_n 2, 1) := by decide +kernel
theorem dX8_pieceOf_90 : decode cX8_pieceOf 90 = .ok (.invokevirtual 136, 3) := by decide +kernel
theorem dX8_pieceOf_93 : decode cX8_pieceOf 93 = .ok (.iload 7, 2) := by decide +kernel
theorem dX8_pieceOf_95 : decode cX8_pieceOf 95 = .ok (.ireturn, 1) := by decide +kernel
theorem dX8_pieceOf_96 : decode cX8_pieceOf 96 = .ok (.aload_n 0, 1) := by decide +kernel
theorem dX8_pieceOf_97 : decode cX8_pieceOf 97 = .ok (.iload 7, 2) := by decide +kernel
theorem dX8_pieceOf_99 : decode cX8_pieceOf 99 = .ok (.iload_n 2, 1) := by decide +kernel
theorem dX8_pieceOf_100 : decode cX8_pieceOf 100 = .ok (.iload_n 2, 1) := by decide +kernel
theorem dX8_pieceOf_101 : decode cX8_pieceOf 101 = .ok (.iconst 1, 1) := by decide +kernel
theorem dX8_pieceOf_102 : decode cX8_pieceOf 102 = .ok (.iadd, 1) := by decide +kernel
theorem dX8_pieceOf_103 : decode cX8_pieceOf 103 = .ok (.iload_n 3, 1) := by decide +kernel
theorem dX8_pieceOf_104 : decode cX8_pieceOf 104 = .ok (.invokevirtual 139, 3) := by decide +kernel
theorem dX8_pieceOf_107 : decode cX8_pieceOf 107 = .ok (.aload_n 0, 1) := by decide +kernel
theorem dX8_pieceOf_108 : decode cX8_pieceOf 108 = .ok (.iload 7, 2) := by decide +kernel
theorem dX8_pieceOf_110 : decode cX8_pieceOf 110 = .ok (.iload_n 3, 1) := by decide +kernel
theorem dX8_pieceOf_111 : decode cX8_pieceOf 111 = .ok (.iload_n 2, 1) := by decide +kernel
theorem dX8_pieceOf_112 : decode cX8_pieceOf 112 = .ok (.iload_n 3, 1) := by decide +kernel
theorem dX8_pieceOf_113 : decode cX8_pieceOf 113 = .ok (.iconst 1, 1) := by decide +kernel
theorem dX8_pieceOf_114 : decode cX8_pieceOf 114 = .ok (.isub, 1) := by decide +kernel
theorem dX8_pieceOf_115 : decode cX8_pieceOf 115 = .ok (.invokevirtual 139, 3) := by decide +kernel
theorem dX8_pieceOf_118 : decode cX8_pieceOf 118 = .ok (.aload_n 0, 1) := by decide +kernel
theorem dX8_pieceOf_119 : decode cX8_pieceOf 119 = .ok (.getfield 23, 3) := by decide +kernel
theorem dX8_pieceOf_122 : decode cX8_pieceOf 122 = .ok (.getfield 50, 3) := by decide +kernel
theorem dX8_pieceOf_125 : decode cX8_pieceOf 125 = .ok (.iload 5, 2) := by decide +kernel
theorem dX8_pieceOf_127 : decode cX8_pieceOf 127 = .ok (.isub, 1) := by decide +kernel
theorem dX8_pieceOf_128 : decode cX8_pieceOf 128 = .ok (.istore 8, 2) := by decide +kernel
theorem dX8_pieceOf_130 : decode cX8_pieceOf 130 = .ok (.aload_n 0, 1) := by decide +kernel
theorem dX8_pieceOf_131 : decode cX8_pieceOf 131 = .ok (.getfield 23, 3) := by decide +kernel
theorem dX8_pieceOf_134 : decode cX8_pieceOf 134 = .ok (.getfield 50, 3) := by decide +kernel
theorem dX8_pieceOf_137 : decode cX8_pieceOf 137 = .ok (.iload 4, 2) := by decide +kernel
theorem dX8_pieceOf_139 : decode cX8_pieceOf 139 = .ok (.isub, 1) := by decide +kernel
theorem dX8_pieceOf_140 : decode cX8_pieceOf 140 = .ok (.istore 9, 2) := by decide +kernel
theorem dX8_pieceOf_142 : decode cX8_pieceOf 142 = .ok (.aload_n 0, 1) := by decide +kernel
theorem dX8_pieceOf_143 : decode cX8_pieceOf 143 = .ok (.getfield 23, 3) := by decide +kernel
theorem dX8_pieceOf_146 : decode cX8_pieceOf 146 = .ok (.iload_n 2, 1) := by decide +kernel
theorem dX8_pieceOf_147 : decode cX8_pieceOf 147 = .ok (.iconst 4, 1) := by decide +kernel
theorem dX8_pieceOf_148 : decode cX8_pieceOf 148 = .ok (.invokevirtual 61, 3) := by decide +kernel
theorem dX8_pieceOf_151 : decode cX8_pieceOf 151 = .ok (.ifCond .eq 29, 3) := by decide +kernel
theorem dX8_pieceOf_154 : decode cX8_pieceOf 154 = .ok (.aload_n 0, 1) := by decide +kernel
theorem dX8_pieceOf_155 : decode cX8_pieceOf 155 = .ok (.iload 7, 2) := by decide +kernel
theorem dX8_pieceOf_157 : decode cX8_pieceOf 157 = .ok (.iload_n 2, 1) := by decide +kernel
theorem dX8_pieceOf_158 : decode cX8_pieceOf 158 = .ok (.aload_n 0, 1) := by decide +kernel
theorem dX8_pieceOf_159 : decode cX8_pieceOf 159 = .ok (.iconst 1, 1) := by decide +kernel
theorem dX8_pieceOf_160 : decode cX8_pieceOf 160 = .ok (.iload_n 1, 1) := by decide +kernel
theorem dX8_pieceOf_161 : decode cX8_pieceOf 161 = .ok (.isub, 1) := by decide +kernel
theorem dX8_pieceOf_162 : decode cX8_pieceOf 162 = .ok (.iload_n 2, 1) := by decide +kernel
theorem dX8_pieceOf_163 : decode cX8_pieceOf 163 = .ok (.iconst 1, 1) := by decide +kernel
theorem dX8_pieceOf_164 : decode cX8_pieceOf 164 = .ok (.iadd, 1) := by decide +kernel
theorem dX8_pieceOf_165 : decode cX8_pieceOf 165 = .ok (.iload_n 3, 1) := by decide +kernel
theorem dX8_pieceOf_166 : decode cX8_pieceOf 166 = .ok (.iload 8, 2) := by decide +kernel
theorem dX8_pieceOf_168 : decode cX8_pieceOf 168 = .ok (.iload 9, 2) := by decide +kernel
theorem dX8_pieceOf_170 : decode cX8_pieceOf 170 = .ok (.iload 6, 2) := by decide +kernel
theorem dX8_pieceOf_172 : decode cX8_pieceOf 172 = .ok (.iconst 1, 1) := by decide +kernel
theorem dX8_pieceOf_173 : decode cX8_pieceOf 173 = .ok (.iadd, 1) := by decide +kernel
theorem dX8_pieceOf_174 : decode cX8_pieceOf 174 = .ok (.invokevirtual 53, 3) := by decide +kernel
theorem dX8_pieceOf_177 : decode cX8_pieceOf 177 = .ok (.invokevirtual 142, 3) := by decide +kernel
theorem dX8_pieceOf_180 : decode cX8_pieceOf 180 = .ok (.aload_n 0, 1) := by decide +kernel
theorem dX8_pieceOf_181 : decode cX8_pieceOf 181 = .ok (.getfield 23, 3) := by decide +kernel
theorem dX8_pieceOf_184 : decode cX8_pieceOf 184 = .ok (.iload_n 3, 1) := by decide +kernel
theorem dX8_pieceOf_185 : decode cX8_pieceOf 185 = .ok (.iconst 4, 1) := by decide +kernel
theorem dX8_pieceOf_186 : decode cX8_pieceOf 186 = .ok (.invokevirtual 61, 3) := by decide +kernel
theorem dX8_pieceOf_189 : decode cX8_pieceOf 189 = .ok (.ifCond .eq 29, 3) := by decide +kernel
theorem dX8_pieceOf_192 : decode cX8_pieceOf 192 = .ok (.aload_n 0, 1) := by decide +kernel
theorem dX8_pieceOf_193 : decode cX8_pieceOf 193 = .ok (.iload 7, 2) := by decide +kernel
theorem dX8_pieceOf_195 : decode cX8_pieceOf 195 = .ok (.iload_n 3, 1) := by decide +kernel
theorem dX8_pieceOf_196 : decode cX8_pieceOf 196 = .ok (.aload_n 0, 1) := by decide +kernel
theorem dX8_pieceOf_197 : decode cX8_pieceOf 197 = .ok (.iconst 1, 1) := by decide +kernel
theorem dX8_pieceOf_198 : decode cX8_pieceOf 198 = .ok (.iload_n 1, 1) := by decide +kernel
theorem dX8_pieceOf_199 : decode cX8_pieceOf 199 = .ok (.isub, 1) := by decide +kernel
theorem dX8_pieceOf_200 : decode cX8_pieceOf 200 = .ok (.iload_n 2, 1) := by decide +kernel
theorem dX8_pieceOf_201 : decode cX8_pieceOf 201 = .ok (.iload_n 3, 1) := by decide +kernel
theorem dX8_pieceOf_202 : decode cX8_pieceOf 202 = .ok (.iconst 1, 1) := by decide +kernel
theorem dX8_pieceOf_203 : decode cX8_pieceOf 203 = .ok (.isub, 1) := by decide +kernel
theorem dX8_pieceOf_204 : decode cX8_pieceOf 204 = .ok (.iload 8, 2) := by decide +kernel
theorem dX8_pieceOf_206 : decode cX8_pieceOf 206 = .ok (.iload 9, 2) := by decide +kernel
theorem dX8_pieceOf_208 : decode cX8_pieceOf 208 = .ok (.iload 6, 2) := by decide +kernel
theorem dX8_pieceOf_210 : decode cX8_pieceOf 210 = .ok (.iconst 1, 1) := by decide +kernel
theorem dX8_pieceOf_211 : decode cX8_pieceOf 211 = .ok (.iadd, 1) := by decide +kernel
theorem dX8_pieceOf_212 : decode cX8_pieceOf 212 = .ok (.invokevirtual 53, 3) := by decide +kernel
theorem dX8_pieceOf_215 : decode cX8_pieceOf 215 = .ok (.invokevirtual 142, 3) := by decide +kernel
theorem dX8_pieceOf_218 : decode cX8_pieceOf 218 = .ok (.iload_n 3, 1) := by decide +kernel
theorem dX8_pieceOf_219 : decode cX8_pieceOf 219 = .ok (.iload_n 2, 1) := by decide +kernel
theorem dX8_pieceOf_220 : decode cX8_pieceOf 220 = .ok (.isub, 1) := by decide +kernel
theorem dX8_pieceOf_221 : decode cX8_pieceOf 221 = .ok (.iconst 2, 1) := by decide +kernel
theorem dX8_pieceOf_222 : decode cX8_pieceOf 222 = .ok (.if_icmp .lt 33, 3) := by decide +kernel
theorem dX8_pieceOf_225 : decode cX8_pieceOf 225 = .ok (.aload_n 0, 1) := by decide +kernel
theorem dX8_pieceOf_226 : decode cX8_pieceOf 226 = .ok (.getfield 23, 3) := by decide +kernel
theorem dX8_pieceOf_229 : decode cX8_pieceOf 229 = .ok (.iload_n 3, 1) := by decide +kernel
theorem dX8_pieceOf_230 : decode cX8_pieceOf 230 = .ok (.iconst 1, 1) := by decide +kernel
theorem dX8_pieceOf_231 : decode cX8_pieceOf 231 = .ok (.isub, 1) := by decide +kernel
theorem dX8_pieceOf_232 : decode cX8_pieceOf 232 = .ok (.bipush 7, 2) := by decide +kernel
theorem dX8_pieceOf_234 : decode cX8_pieceOf 234 = .ok (.invokevirtual 61, 3) := by decide +kernel
theorem dX8_pieceOf_237 : decode cX8_pieceOf 237 = .ok (.ifCond .eq 18, 3) := by decide +kernel
theorem dX8_pieceOf_240 : decode cX8_pieceOf 240 = .ok (.aload_n 0, 1) := by decide +kernel
theorem dX8_pieceOf_241 : decode cX8_pieceOf 241 = .ok (.iload_n 1, 1) := by decide +kernel
theorem dX8_pieceOf_242 : decode cX8_pieceOf 242 = .ok (.iload_n 2, 1) := by decide +kernel
theorem dX8_pieceOf_243 : decode cX8_pieceOf 243 = .ok (.iload_n 3, 1) := by decide +kernel
theorem dX8_pieceOf_244 : decode cX8_pieceOf 244 = .ok (.iload 4, 2) := by decide +kernel
theorem dX8_pieceOf_246 : decode cX8_pieceOf 246 = .ok (.iload 5, 2) := by decide +kernel
theorem dX8_pieceOf_248 : decode cX8_pieceOf 248 = .ok (.bipush 7, 2) := by decide +kernel
theorem dX8_pieceOf_250 : decode cX8_pieceOf 250 = .ok (.iload 6, 2) := by decide +kernel
theorem dX8_pieceOf_252 : decode cX8_pieceOf 252 = .ok (.invokevirtual 146, 3) := by decide +kernel
theorem dX8_pieceOf_255 : decode cX8_pieceOf 255 = .ok (.iload_n 3, 1) := by decide +kernel
theorem dX8_pieceOf_256 : decode cX8_pieceOf 256 = .ok (.iload_n 2, 1) := by decide +kernel
theorem dX8_pieceOf_257 : decode cX8_pieceOf 257 = .ok (.isub, 1) := by decide +kernel
theorem dX8_pieceOf_258 : decode cX8_pieceOf 258 = .ok (.iconst 2, 1) := by decide +kernel
theorem dX8_pieceOf_259 : decode cX8_pieceOf 259 = .ok (.if_icmp .lt 33, 3) := by decide +kernel
theorem dX8_pieceOf_262 : decode cX8_pieceOf 262 = .ok (.aload_n 0, 1) := by decide +kernel
theorem dX8_pieceOf_263 : decode cX8_pieceOf 263 = .ok (.getfield 23, 3) := by decide +kernel
theorem dX8_pieceOf_266 : decode cX8_pieceOf 266 = .ok (.iload_n 2, 1) := by decide +kernel
theorem dX8_pieceOf_267 : decode cX8_pieceOf 267 = .ok (.iconst 1, 1) := by decide +kernel
theorem dX8_pieceOf_268 : decode cX8_pieceOf 268 = .ok (.iadd, 1) := by decide +kernel
theorem dX8_pieceOf_269 : decode cX8_pieceOf 269 = .ok (.bipush 8, 2) := by decide +kernel
theorem dX8_pieceOf_271 : decode cX8_pieceOf 271 = .ok (.invokevirtual 61, 3) := by decide +kernel
theorem dX8_pieceOf_274 : decode cX8_pieceOf 274 = .ok (.ifCond .eq 18, 3) := by decide +kernel
theorem dX8_pieceOf_277 : decode cX8_pieceOf 277 = .ok (.aload_n 0, 1) := by decide +kernel
theorem dX8_pieceOf_278 : decode cX8_pieceOf 278 = .ok (.iload_n 1, 1) := by decide +kernel
